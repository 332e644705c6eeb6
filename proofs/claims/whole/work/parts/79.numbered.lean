/-! ===== the reference alone: its numbers of values ===== -/
theorem php : ∀ (M N : Nat) (f : Nat → Nat), (∀ i, i < N → f i < M) → (∀ i j, i < N → j < N → f i = f j → i = j) → N ≤ M := by
  intro M
  induction M with
  | zero =>
    intro N f h1 h2
    by_cases h : N = 0
    · omega
    · exact absurd (h1 0 (by omega)) (by omega)
  | succ M ih =>
    intro N f h1 h2
    by_cases h : ∃ i, i < N ∧ f i = M
    · obtain ⟨i0, hi0, e0⟩ := h
      have := ih (N - 1) (fun j => if j < i0 then f j else f (j + 1)) (fun j hj => by
        show (if j < i0 then f j else f (j + 1)) < M
        by_cases c : j < i0
        · rw [if_pos c]
          have a := h1 j (by omega)
          have b : f j ≠ M := fun e => by have := h2 j i0 (by omega) hi0 (e.trans e0.symm); omega
          omega
        · rw [if_neg c]
          have a := h1 (j + 1) (by omega)
          have b : f (j + 1) ≠ M := fun e => by have := h2 (j + 1) i0 (by omega) hi0 (e.trans e0.symm); omega
          omega) (fun i j hi hj e => by
        have e' : (if i < i0 then f i else f (i + 1)) = (if j < i0 then f j else f (j + 1)) := e
        by_cases c : i < i0
        · rw [if_pos c] at e'
          by_cases c2 : j < i0
          · rw [if_pos c2] at e'; exact h2 i j (by omega) (by omega) e'
          · rw [if_neg c2] at e'; have := h2 i (j + 1) (by omega) (by omega) e'; omega
        · rw [if_neg c] at e'
          by_cases c2 : j < i0
          · rw [if_pos c2] at e'; have := h2 (i + 1) j (by omega) (by omega) e'; omega
          · rw [if_neg c2] at e'; have := h2 (i + 1) (j + 1) (by omega) (by omega) e'; omega)
      omega
    · have := ih N f (fun i hi => by
        have a := h1 i hi
        have b : f i ≠ M := fun e => h ⟨i, hi, e⟩
        omega) h2
      omega
theorem b16 (x : Int32) : ∃ s, s < 65536 ∧ x &&& 65535 = nI s := by
  have h : (x &&& 65535).toBitVec.toNat ≤ 65535 := by
    rw [Int32.toBitVec_and, BitVec.toNat_and]
    exact Nat.and_le_right
  refine ⟨(x &&& 65535).toBitVec.toNat, by omega, ?_⟩
  apply Int32.toBitVec_inj.mp
  apply BitVec.eq_of_toNat_eq
  show _ = (BitVec.ofNat 32 (x &&& 65535).toBitVec.toNat).toNat
  rw [BitVec.toNat_ofNat, Nat.mod_eq_of_lt (by omega)]
theorem n16 (s : Nat) (hs : s < 65536) : (nI s + 1) &&& 65535 = nI ((s + 1) % 65536) := by
  rw [nI_1]
  show Int32.ofNat (s + 1) &&& Int32.ofNat 65535 = Int32.ofNat ((s + 1) % 65536)
  rw [i32_and _ _ (by omega) (by decide), show (65535 : Nat) = 2 ^ 16 - 1 from rfl, Nat.and_two_pow_sub_one_eq_mod]
/-- where a value's place in the table is looked for first -/
def hV (c : Int32 × Int32 × (Nat → Int32)) : Int32 := if c.1 = 1 then vh ((c.1 * 40503) + (c.2.1 * 31)) c.2.2 c.2.1.toNatClampNeg else (c.1 * 40503) + (c.2.1 * 31)
def sV (c : Int32 × Int32 × (Nat → Int32)) : Nat := ((hV c ^^^ (((hV c).toUInt32 >>> ((16 : Int32).toUInt32 &&& Int32.toUInt32 31)).toInt32)) &&& 65535).toNatClampNeg
theorem sV_lt (c : Int32 × Int32 × (Nat → Int32)) : sV c < 65536 ∧ (hV c ^^^ (((hV c).toUInt32 >>> ((16 : Int32).toUInt32 &&& Int32.toUInt32 31)).toInt32)) &&& 65535 = nI (sV c) := by
  obtain ⟨s, h1, h2⟩ := b16 (hV c ^^^ (((hV c).toUInt32 >>> ((16 : Int32).toUInt32 &&& Int32.toUInt32 31)).toInt32))
  have e : sV c = s := by rw [sV, h2]; exact nI_clamp (by omega)
  rw [e]
  exact ⟨h1, h2⟩
def fF (σ : rf_S) (v : Nat) : Nat := (σ.2.2.1 24 v).toNatClampNeg
/-- the table of values -/
def nT (σ : rf_S) (te nv : Nat) : Prop := σ.1 26 = nI nv ∧ nv ≤ 32000 ∧ (∀ s, s < 65536 → ∃ v, v ≤ nv ∧ σ.2.2.1 25 s = nI v) ∧
  (∀ v, v < nv → σ.2.2.1 24 v = nI (fF σ v) ∧ vW σ te (fF σ v)) ∧
  (∀ v, v < nv → ∃ d, d < 65536 ∧ σ.2.2.1 25 ((sV (vC σ (fF σ v)) + d) % 65536) = nI (v + 1) ∧ ∀ d', d' < d → σ.2.2.1 25 ((sV (vC σ (fF σ v)) + d') % 65536) ≠ 0) ∧
  (∀ s s', s < 65536 → s' < 65536 → σ.2.2.1 25 s = σ.2.2.1 25 s' → σ.2.2.1 25 s ≠ 0 → s = s') ∧
  (∀ v v', v < nv → v' < nv → vC σ (fF σ v) = vC σ (fF σ v') → v = v')
/-- what numbering the value of field f leaves alone -/
def nF (f nv : Nat) (σ σ' : rf_S) : Prop := (∀ k, k ≠ 26 → σ'.1 k = σ.1 k) ∧ σ'.2.1 = σ.2.1 ∧ (∀ k j, k ≠ 25 → (k = 17 → j ≠ f) → (k = 24 → j < nv) → σ'.2.2.1 k j = σ.2.2.1 k j) ∧ σ'.2.2.2 = σ.2.2.2
theorem vCd {σ : rf_S} {f : Nat} : vC σ f = (σ.2.2.1 14 f, σ.2.2.1 15 f, fun k => if σ.2.2.1 14 f = 1 ∧ k < (σ.2.2.1 15 f).toNatClampNeg then σ.2.2.1 18 ((σ.2.2.1 16 f).toNatClampNeg + k) else 0) := rfl
theorem vWd {σ : rf_S} {te f : Nat} : vW σ te f = (f < 32008 ∧ ((σ.2.2.1 14 f = 1 ∧ ∃ L o, σ.2.2.1 15 f = nI L ∧ L ≤ 24 ∧ σ.2.2.1 16 f = nI o ∧ o + L ≤ te) ∨ σ.2.2.1 14 f = 0 ∨ σ.2.2.1 14 f = 2)) := rfl
theorem nF.vc {f nv g : Nat} {σ σ' : rf_S} (h : nF f nv σ σ') : vC σ' g = vC σ g := by
  have r : ∀ k j, k = 14 ∨ k = 15 ∨ k = 16 ∨ k = 18 → σ'.2.2.1 k j = σ.2.2.1 k j := fun k j hk => h.2.2.1 k j (by omega) (by omega) (by omega)
  rw [vCd, vCd]
  rw [r 14 g (by omega), r 15 g (by omega), r 16 g (by omega)]
  refine Prod.ext rfl (Prod.ext rfl (funext fun k => ?_))
  show (if _ then _ else _) = (if _ then _ else _)
  rw [r 18 _ (by omega)]
theorem nF.vw {f nv g te : Nat} {σ σ' : rf_S} (h : nF f nv σ σ') : vW σ' te g ↔ vW σ te g := by
  have r : ∀ k j, k = 14 ∨ k = 15 ∨ k = 16 ∨ k = 18 → σ'.2.2.1 k j = σ.2.2.1 k j := fun k j hk => h.2.2.1 k j (by omega) (by omega) (by omega)
  rw [vWd, vWd]
  rw [r 14 g (by omega), r 15 g (by omega), r 16 g (by omega)]
section NUM
variable {σ : rf_S} {te nv f : Nat} {post : rf_S → Prop}
theorem nT.free (h : nT σ te nv) (s0 : Nat) : ∃ d, d < 65536 ∧ σ.2.2.1 25 ((s0 + d) % 65536) = 0 := by
  apply Classical.byContradiction
  intro hn
  have hne : ∀ s, s < 65536 → σ.2.2.1 25 s ≠ 0 := by
    intro s hs e
    refine hn ⟨(s + 65536 - s0 % 65536) % 65536, by omega, ?_⟩
    have : (s0 + (s + 65536 - s0 % 65536) % 65536) % 65536 = s := by omega
    rw [this]; exact e
  have hcl : ∀ s, s < 65536 → (σ.2.2.1 25 s).toNatClampNeg < nv + 1 ∧ σ.2.2.1 25 s = nI (σ.2.2.1 25 s).toNatClampNeg := by
    intro s hs
    obtain ⟨v, h1, h2⟩ := h.2.2.1 s hs
    have hnv := h.2.1
    rw [h2, nI_clamp (by omega)]
    exact ⟨by omega, rfl⟩
  have := php (nv + 1) 65536 (fun s => (σ.2.2.1 25 s).toNatClampNeg) (fun s hs => (hcl s hs).1) (fun i j hi hj e => by
    refine h.2.2.2.2.2.1 i j hi hj ?_ (hne i hi)
    have e' : (σ.2.2.1 25 i).toNatClampNeg = (σ.2.2.1 25 j).toNatClampNeg := e
    rw [(hcl i hi).2, (hcl j hj).2, e'])
  have hnv := h.2.1
  omega
/-- the search, from d places behind the first -/
theorem rnu_77 (h : nT σ te nv) (hf : vW σ te f) (hte : te ≤ 24000) {D : Nat} (hD0 : σ.2.2.1 25 ((sV (vC σ f) + D) % 65536) = 0)
    (hp : ∀ d, (∀ d', d' < d → σ.2.2.1 25 ((sV (vC σ f) + d') % 65536) ≠ 0) → (∀ d' v, d' < d → v < nv → σ.2.2.1 25 ((sV (vC σ f) + d') % 65536) = nI (v + 1) → vC σ (fF σ v) ≠ vC σ f) → (σ.2.2.1 25 ((sV (vC σ f) + d) % 65536) = 0 ∨ ∃ v, v < nv ∧ σ.2.2.1 25 ((sV (vC σ f) + d) % 65536) = nI (v + 1) ∧ vC σ (fF σ v) = vC σ f) → w_X12_numbered_117 post σ (nI f) (nI ((sV (vC σ f) + d) % 65536))) :
    ∀ r d, d + r = D → (∀ d', d' < d → σ.2.2.1 25 ((sV (vC σ f) + d') % 65536) ≠ 0) → (∀ d' v, d' < d → v < nv → σ.2.2.1 25 ((sV (vC σ f) + d') % 65536) = nI (v + 1) → vC σ (fF σ v) ≠ vC σ f) → w_X12_numbered_77 post (r + 1) σ (nI f) (nI ((sV (vC σ f) + d) % 65536)) := by
  have hnv := h.2.1
  have hlt : ∀ d, (sV (vC σ f) + d) % 65536 < 65536 := fun d => Nat.mod_lt _ (by decide)
  have hin : ∀ d, vp_in (nI ((sV (vC σ f) + d) % 65536)) (rf_n 25) := fun d => nI_in (N := 65536) (hlt d) (by decide)
  intro r
  induction r with
  | zero =>
    intro d hd h1 h2
    have : d = D := by omega
    subst this
    refine ⟨hin d, fun _ => hp d h1 h2 (Or.inl hD0), fun hc => ?_⟩
    rw [nI_clamp (by have := hlt d; omega), hD0] at hc
    exact absurd (by decide) hc
  | succ r ih =>
    intro d hd h1 h2
    have hcl := nI_clamp (n := (sV (vC σ f) + d) % 65536) (by have := hlt d; omega)
    refine ⟨hin d, fun hc => ?_, fun hc => ⟨hin d, ?_⟩⟩
    · rw [hcl] at hc
      obtain ⟨v, hv1, hv2⟩ := h.2.2.1 _ (hlt d)
      rw [hv2] at hc
      have hv0 : v = 0 := Nat.le_zero.mp ((nI_leI (b := 0) (by omega) (by decide)).mp hc)
      exact hp d h1 h2 (Or.inl (by rw [hv2, hv0]; rfl))
    · rw [hcl] at hc ⊢
      obtain ⟨v, hv1, hv2⟩ := h.2.2.1 _ (hlt d)
      rw [hv2] at hc ⊢
      have hv0 : 0 < v := Nat.pos_of_ne_zero (fun q => hc (by rw [q]; decide))
      obtain ⟨w, rfl⟩ : ∃ w, v = w + 1 := ⟨v - 1, by omega⟩
      rw [nI_pred, nI_clamp (by omega)]
      obtain ⟨e1, e2⟩ := h.2.2.2.1 w (by omega)
      rw [e1]
      refine ⟨nI_in (N := 32000) (by omega) (by decide), ral hf e2 hte (fun hq => ?_) (fun hq => ?_)⟩
      · exact ⟨fun _ => hp d h1 h2 (Or.inr ⟨w, by omega, hv2, hq.symm⟩), fun hc => absurd hc (by decide)⟩
      · refine ⟨fun hc => absurd rfl hc, fun _ => ?_⟩
        have es : ((sV (vC σ f) + d) % 65536 + 1) % 65536 = (sV (vC σ f) + (d + 1)) % 65536 := by omega
        rw [n16 _ (hlt d), es]
        refine ih (d + 1) (by omega) (fun d' hd' => ?_) (fun d' v hd' hv he => ?_)
        · by_cases e : d' = d
          · rw [e, hv2]; exact nI_ne0 (by omega) (by omega)
          · exact h1 d' (by omega)
        · by_cases e : d' = d
          · rw [e, hv2] at he
            have : w + 1 = v + 1 := (nI_eq (by omega) (by omega)).mp he
            have hwv : v = w := by omega
            rw [hwv]; exact fun q => hq q.symm
          · exact h2 d' v (by omega) hv he
end NUM
