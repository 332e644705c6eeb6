/-! ===== the reference alone: fields and values ===== -/
theorem nI_mul (a b : Nat) : nI a * nI b = nI (a * b) := (Int32.ofNat_mul a b).symm
theorem n8 (e k : Nat) : (8 * nI e) + nI k = nI (8 * e + k) := by
  show nI 8 * nI e + nI k = _
  rw [nI_mul, nI_add]
theorem n3 (e k : Nat) : (3 * nI e) + nI k = nI (3 * e + k) := by
  show nI 3 * nI e + nI k = _
  rw [nI_mul, nI_add]
theorem n6 (e k : Nat) : (6 * nI e) + nI k = nI (6 * e + k) := by
  show nI 6 * nI e + nI k = _
  rw [nI_mul, nI_add]
theorem n12 (e k : Nat) : (12 * nI e) + nI k = nI (12 * e + k) := by
  show nI 12 * nI e + nI k = _
  rw [nI_mul, nI_add]
theorem n4k (e k : Nat) : (4000 * nI e) + nI k = nI (4000 * e + k) := by
  show nI 4000 * nI e + nI k = _
  rw [nI_mul, nI_add]
theorem lg_eq {x y : Int64} : lg_cmp x y = 0 ↔ x = y := by
  unfold lg_cmp
  by_cases h1 : x > y
  · rw [if_pos h1]
    refine ⟨fun h => absurd h (by decide), fun h => ?_⟩
    rw [h] at h1
    exact absurd (Int64.lt_iff_toInt_lt.mp h1) (by omega)
  · rw [if_neg h1]
    by_cases h2 : x = y
    · rw [if_pos h2]; exact ⟨fun _ => h2, fun _ => rfl⟩
    · rw [if_neg h2]; exact ⟨fun h => absurd h (by decide), fun h => absurd h h2⟩
/-- the first place of a name among r from k on -/
def fdx (N : Nat → Int64) (n : Int64) : Nat → Nat → Option Nat
  | 0, _ => none
  | r + 1, k => if N k = n then some k else fdx N n r (k + 1)
theorem fdx_some {N : Nat → Int64} {n : Int64} : ∀ r k j, fdx N n r k = some j → k ≤ j ∧ j < k + r ∧ N j = n := by
  intro r
  induction r with
  | zero => intro k j h; cases h
  | succ r ih =>
    intro k j h
    rw [fdx] at h
    by_cases e : N k = n
    · rw [if_pos e] at h
      cases h
      exact ⟨Nat.le_refl _, by omega, e⟩
    · rw [if_neg e] at h
      have := ih (k + 1) j h
      exact ⟨by omega, by omega, this.2.2⟩
theorem fdx_none {N : Nat → Int64} {n : Int64} : ∀ r k, fdx N n r k = none → ∀ j, k ≤ j → j < k + r → N j ≠ n := by
  intro r
  induction r with
  | zero => intro k _ j h1 h2; omega
  | succ r ih =>
    intro k h j h1 h2
    rw [fdx] at h
    by_cases e : N k = n
    · rw [if_pos e] at h; cases h
    · rw [if_neg e] at h
      by_cases e2 : j = k
      · rw [e2]; exact e
      · exact ih (k + 1) h j (by omega) (by omega)
theorem fdx_cong {N N' : Nat → Int64} {n n' : Int64} : ∀ r k, (∀ j, k ≤ j → j < k + r → (N j = n ↔ N' j = n')) → fdx N n r k = fdx N' n' r k := by
  intro r
  induction r with
  | zero => intro k _; rfl
  | succ r ih =>
    intro k h
    rw [fdx, fdx, ih (k + 1) (fun j a b => h j (by omega) (by omega))]
    by_cases e : N k = n
    · rw [if_pos e, if_pos ((h k (Nat.le_refl _) (by omega)).mp e)]
    · rw [if_neg e, if_neg (fun q => e ((h k (Nat.le_refl _) (by omega)).mpr q))]
/-- how many fields event e has; where its field n lies -/
def mN (σ : rf_S) (e : Nat) : Nat := (σ.2.2.1 9 e).toNatClampNeg
def fO (σ : rf_S) (e : Nat) (n : Int64) : Option Nat := fdx (fun k => σ.2.2.2 13 (8 * e + k)) n (mN σ e) 0
def fI (e : Nat) : Option Nat → Int32
  | some k => nI (8 * e + k)
  | none => -1
section RFO
variable {σ : rf_S} {post : Int32 → rf_S → Prop} {e m : Nat} {n : Int64}
theorem rfo_3 (he : e ≤ 4000) (hm : σ.2.2.1 9 e = nI m) (hm8 : m ≤ 8) : ∀ r k, k + r = m → post (fI e (fdx (fun k => σ.2.2.2 13 (8 * e + k)) n r k)) σ → w_X12_fieldOf_3 post (r + 1) σ (nI e) n (nI k) := by
  intro r
  induction r with
  | zero =>
    intro k hk h
    refine ⟨nI_in (N := 4001) (by omega) (by decide), fun _ => h, fun hc => ?_⟩
    rw [nI_clamp (by omega), hm] at hc
    exact absurd (nI_le (by omega) (by omega)) hc
  | succ r ih =>
    intro k hk h
    refine ⟨nI_in (N := 4001) (by omega) (by decide), fun hc => ?_, fun _ => ?_⟩
    · rw [nI_clamp (by omega), hm] at hc
      exact absurd hc (nI_ge (by omega) (by omega))
    · rw [n8, nI_clamp (by omega : 8 * e + k < 2 ^ 31), nI_1, lg_eq]
      rw [fdx] at h
      refine ⟨nI_in (N := 32008) (by omega) (by decide), fun hc => ih (k + 1) (by omega) ?_, fun hc => ?_⟩
      · rw [if_neg hc] at h; exact h
      · rw [if_pos hc] at h; exact h
theorem rfo (he : e ≤ 4000) (hm : σ.2.2.1 9 e = nI m) (hm8 : m ≤ 8) (h : post (fI e (fO σ e n)) σ) : wp_X12_fieldOf post σ (nI e) n := by
  have em : mN σ e = m := by rw [mN, hm]; exact nI_clamp (by omega)
  rw [fO, em] at h
  exact ⟨m + 1, rfo_3 he hm hm8 m 0 (by omega) h⟩
theorem fO_lt (hm : σ.2.2.1 9 e = nI m) (hm8 : m ≤ 8) {k : Nat} (h : fO σ e n = some k) : k < m ∧ σ.2.2.2 13 (8 * e + k) = n := by
  have em : mN σ e = m := by rw [mN, hm]; exact nI_clamp (by omega)
  rw [fO, em] at h
  have := fdx_some m 0 k h
  exact ⟨by omega, this.2.2⟩
end RFO
/-- a field that holds a value: its sort, and of a TEXT where it lies -/
def vW (σ : rf_S) (te f : Nat) : Prop := f < 32008 ∧ ((σ.2.2.1 14 f = 1 ∧ ∃ L o, σ.2.2.1 15 f = nI L ∧ L ≤ 24 ∧ σ.2.2.1 16 f = nI o ∧ o + L ≤ te) ∨ σ.2.2.1 14 f = 0 ∨ σ.2.2.1 14 f = 2)
/-- what it holds -/
def vC (σ : rf_S) (f : Nat) : Int32 × Int32 × (Nat → Int32) := (σ.2.2.1 14 f, σ.2.2.1 15 f, fun k => if σ.2.2.1 14 f = 1 ∧ k < (σ.2.2.1 15 f).toNatClampNeg then σ.2.2.1 18 ((σ.2.2.1 16 f).toNatClampNeg + k) else 0)
section RAL
variable {σ : rf_S} {post : Int32 → rf_S → Prop} {te f g : Nat}
theorem ral_46 {L o o' : Nat} (hf : f < 32008) (hg : g < 32008) (hte : te ≤ 24000) (hL : L ≤ 24) (h1 : σ.2.2.1 15 f = nI L) (h2 : σ.2.2.1 16 f = nI o) (h3 : σ.2.2.1 16 g = nI o') (h4 : o + L ≤ te) (h5 : o' + L ≤ te) : ∀ r k, k + r = L → ((∀ j, k ≤ j → j < L → σ.2.2.1 18 (o + j) = σ.2.2.1 18 (o' + j)) → post 1 σ) → ((¬ ∀ j, k ≤ j → j < L → σ.2.2.1 18 (o + j) = σ.2.2.1 18 (o' + j)) → post 0 σ) → w_X12_alike_46 post (r + 1) σ (nI f) (nI g) (nI k) := by
  intro r
  induction r with
  | zero =>
    intro k hk hy hn
    refine ⟨nI_in (N := 32008) hf (by decide), fun _ => hy (fun j a b => absurd b (by omega)), fun hc => ?_⟩
    rw [nI_clamp (by omega), h1] at hc
    exact absurd (nI_le (by omega) (by omega)) hc
  | succ r ih =>
    intro k hk hy hn
    refine ⟨nI_in (N := 32008) hf (by decide), fun hc => ?_, fun _ => ?_⟩
    · rw [nI_clamp (by omega), h1] at hc
      exact absurd hc (nI_ge (by omega) (by omega))
    · rw [nI_clamp (by omega : f < 2 ^ 31), nI_clamp (by omega : g < 2 ^ 31), h2, h3, nI_add, nI_add, nI_clamp (by omega : o + k < 2 ^ 31), nI_clamp (by omega : o' + k < 2 ^ 31), nI_1]
      refine ⟨nI_in (N := 32008) hf (by decide), nI_in (N := 24000) (by omega) (by decide), nI_in (N := 32008) hg (by decide), nI_in (N := 24000) (by omega) (by decide), fun hc => ih (k + 1) (by omega) (fun hh => hy (fun j a b => ?_)) (fun hh => hn (fun q => hh (fun j a b => q j (by omega) b))), fun hc => hn (fun q => hc (q k (Nat.le_refl _) (by omega)))⟩
      by_cases e : j = k
      · rw [e]; exact hc
      · exact hh j (by omega) b
theorem ral (hf : vW σ te f) (hg : vW σ te g) (hte : te ≤ 24000) (hy : vC σ f = vC σ g → post 1 σ) (hn : vC σ f ≠ vC σ g → post 0 σ) : wp_X12_alike post σ (nI f) (nI g) := by
  have hf31 : f < 2 ^ 31 := by have := hf.1; omega
  have hg31 : g < 2 ^ 31 := by have := hg.1; omega
  have if14 : ∀ k, k = 14 ∨ k = 15 → vp_in (nI f) (rf_n k) := fun k hk => by rcases hk with rfl | rfl <;> exact nI_in (N := 32008) hf.1 (by decide)
  have ig14 : ∀ k, k = 14 ∨ k = 15 → vp_in (nI g) (rf_n k) := fun k hk => by rcases hk with rfl | rfl <;> exact nI_in (N := 32008) hg.1 (by decide)
  refine ⟨if14 14 (Or.inl rfl), ig14 14 (Or.inl rfl), ?_⟩
  rw [nI_clamp hf31, nI_clamp hg31]
  refine ⟨fun hc => hn (fun q => hc (congrArg Prod.fst q)), fun hs => ⟨if14 15 (Or.inr rfl), ig14 15 (Or.inr rfl), fun hv => ⟨if14 14 (Or.inl rfl), fun h1 => ?_, fun h1 => hy ?_⟩, fun hc => hn (fun q => hc (congrArg (fun x => x.2.1) q))⟩⟩
  · rcases hf.2 with ⟨-, L, o, a1, a2, a3, a4⟩ | a | a
    · rcases hg.2 with ⟨-, L', o', b1, b2, b3, b4⟩ | b | b
      · have hLL : L = L' := by
          rw [a1, b1] at hv
          exact (nI_eq (by omega) (by omega)).mp hv
        subst hLL
        have hs1 : σ.2.2.1 14 g = 1 := hs.symm.trans h1
        refine ⟨L + 1, ral_46 (L := L) hf.1 hg.1 hte a2 a1 a3 b3 a4 b4 L 0 (by omega) (fun hh => hy ?_) (fun hh => hn (fun q => hh (fun j _ hj => ?_)))⟩
        · refine Prod.ext hs (Prod.ext hv (funext fun k => ?_))
          show (if σ.2.2.1 14 f = 1 ∧ k < (σ.2.2.1 15 f).toNatClampNeg then σ.2.2.1 18 ((σ.2.2.1 16 f).toNatClampNeg + k) else 0) = (if σ.2.2.1 14 g = 1 ∧ k < (σ.2.2.1 15 g).toNatClampNeg then σ.2.2.1 18 ((σ.2.2.1 16 g).toNatClampNeg + k) else 0)
          rw [h1, hs1, a1, b1, a3, b3, nI_clamp (by omega), nI_clamp (by omega), nI_clamp (by omega)]
          by_cases hk : k < L
          · rw [if_pos ⟨rfl, hk⟩, if_pos ⟨rfl, hk⟩]; exact hh k (Nat.zero_le _) hk
          · rw [if_neg (fun q => hk q.2), if_neg (fun q => hk q.2)]
        · have q2 := congrFun (congrArg (fun x => x.2.2) q) j
          have q3 : (if σ.2.2.1 14 f = 1 ∧ j < (σ.2.2.1 15 f).toNatClampNeg then σ.2.2.1 18 ((σ.2.2.1 16 f).toNatClampNeg + j) else 0) = (if σ.2.2.1 14 g = 1 ∧ j < (σ.2.2.1 15 g).toNatClampNeg then σ.2.2.1 18 ((σ.2.2.1 16 g).toNatClampNeg + j) else 0) := q2
          rw [h1, hs1, a1, b1, a3, b3, nI_clamp (by omega), nI_clamp (by omega), nI_clamp (by omega), if_pos ⟨rfl, hj⟩, if_pos ⟨rfl, hj⟩] at q3
          exact q3
      · rw [← hs, h1] at b; exact absurd b (by decide)
      · rw [← hs, h1] at b; exact absurd b (by decide)
    · rw [h1] at a; exact absurd a (by decide)
    · rw [h1] at a; exact absurd a (by decide)
  · refine Prod.ext hs (Prod.ext hv (funext fun k => ?_))
    show (if σ.2.2.1 14 f = 1 ∧ k < (σ.2.2.1 15 f).toNatClampNeg then σ.2.2.1 18 ((σ.2.2.1 16 f).toNatClampNeg + k) else 0) = (if σ.2.2.1 14 g = 1 ∧ k < (σ.2.2.1 15 g).toNatClampNeg then σ.2.2.1 18 ((σ.2.2.1 16 g).toNatClampNeg + k) else 0)
    rw [if_neg (fun q => h1 q.1), if_neg (fun q => h1 (hs.trans q.1))]
end RAL
