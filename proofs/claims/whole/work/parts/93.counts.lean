/-! ===== the reference alone: events that count ===== -/
noncomputable def oneIf (P : Prop) : Nat := @ite _ P (Classical.propDecidable _) 1 0
theorem one_y {P : Prop} (h : P) : oneIf P = 1 := if_pos h
theorem one_n {P : Prop} (h : ¬ P) : oneIf P = 0 := if_neg h
theorem one_c {P P' : Prop} (h : P ↔ P') : oneIf P = oneIf P' := by
  by_cases c : P
  · rw [one_y c, one_y (h.mp c)]
  · rw [one_n c, one_n (fun q => c (h.mpr q))]
/-- the sum of v over the places of [lo, lo + r) that are P -/
noncomputable def sS (P : Nat → Prop) (v : Nat → Int) (lo : Nat) : Nat → Int
  | 0 => 0
  | r + 1 => sS P v lo r + (oneIf (P (lo + r)) : Int) * v (lo + r)
section SS
variable {P P' : Nat → Prop} {v v' : Nat → Int}
theorem sS_cong {lo : Nat} : ∀ r, (∀ x, lo ≤ x → x < lo + r → ((P x ↔ P' x) ∧ (P x → v x = v' x))) → sS P v lo r = sS P' v' lo r := by
  intro r
  induction r with
  | zero => intro _; rfl
  | succ r ih =>
    intro h
    rw [sS, sS, ih (fun x a b => h x a (by omega))]
    have h1 := h (lo + r) (by omega) (by omega)
    by_cases c : P (lo + r)
    · rw [one_y c, one_y (h1.1.mp c), h1.2 c]
    · rw [one_n c, one_n (fun q => c (h1.1.mpr q))]
      simp
theorem sS_down {lo : Nat} : ∀ r, sS P v lo (r + 1) = (oneIf (P lo) : Int) * v lo + sS P v (lo + 1) r := by
  intro r
  induction r with
  | zero => rw [sS, sS, sS]; simp
  | succ r ih =>
    rw [sS, ih, sS, show lo + (r + 1) = lo + 1 + r from by omega]
    omega
theorem sS_zero {lo : Nat} : ∀ r, (∀ x, lo ≤ x → x < lo + r → ¬ P x) → sS P v lo r = 0 := by
  intro r
  induction r with
  | zero => intro _; rfl
  | succ r ih =>
    intro h
    rw [sS, ih (fun x a b => h x a (by omega)), one_n (h (lo + r) (by omega) (by omega))]
    simp
theorem sS_app {lo : Nat} : ∀ a b, sS P v lo (a + b) = sS P v lo a + sS P v (lo + a) b := by
  intro a b
  induction b with
  | zero => rw [Nat.add_zero, sS]; omega
  | succ b ih =>
    rw [show a + (b + 1) = (a + b) + 1 from rfl, sS, ih, sS, show lo + (a + b) = lo + a + b from by omega]
    omega
theorem sS_nn {lo : Nat} (h : ∀ x, 0 ≤ v x) : ∀ r, 0 ≤ sS P v lo r := by
  intro r
  induction r with
  | zero => exact Int.le_refl _
  | succ r ih =>
    rw [sS]
    have : 0 ≤ (oneIf (P (lo + r)) : Int) * v (lo + r) := Int.mul_nonneg (by omega) (h _)
    omega
theorem sS_bd {lo : Nat} {B : Int} (hB : 0 ≤ B) (h : ∀ x, lo ≤ x → - B ≤ v x ∧ v x ≤ B) : ∀ r, - (B * r) ≤ sS P v lo r ∧ sS P v lo r ≤ B * r := by
  intro r
  induction r with
  | zero => rw [sS]; simp
  | succ r ih =>
    rw [sS]
    have h1 := h (lo + r) (by omega)
    have e : B * ((r + 1 : Nat) : Int) = B * r + B := by rw [Int.natCast_add, Int.mul_add]; simp
    rw [e]
    by_cases c : P (lo + r)
    · rw [one_y c]
      simp only [Int.natCast_one, Int.one_mul]
      omega
    · rw [one_n c]
      simp only [Int.natCast_zero, Int.zero_mul]
      omega
end SS
/-- event e has what the rule counts -/
def hI (σ : rf_S) (b e : Nat) : Prop := (¬ σ.2.2.1 38 b = 1 ∧ ¬ σ.2.2.1 38 b = 2) ∨ ∃ k, fO σ e (σ.2.2.2 36 b) = some k ∧ (σ.2.2.1 38 b = 1 ∨ σ.2.2.1 14 (8 * e + k) = 0)
/-- it counts, with key f -/
def cC (σ : rf_S) (r b f o : Nat) : Prop := σ.2.2.1 63 (4000 * r + o) = nI f ∧ (σ.2.2.1 64 (4000 * r + o)) &&& 1 = 1 ∧ hI σ b o
section HI
variable {σ : rf_S} {r b bk e m f : Nat} {Q : Int32 → rf_S → Prop}
theorem rhi (h32 : σ.1 32 = nI bk) (hbk : bk ≤ 1) (hr : r < 12) (hbb : b = 12 * bk + r) (he : e ≤ 4000) (hm : m ≤ 8) (h9 : σ.2.2.1 9 e = nI m) (hy : hI σ b e → Q 1 σ) (hn : ¬ hI σ b e → Q 0 σ) : wp_X12_hasIt Q σ (nI r) (nI e) := by
  have hb24 : b < 24 := by omega
  have i38 : vp_in (nI b) (rf_n 38) := nI_in (N := 24) hb24 (by decide)
  have h32' : (σ.2.2.1 38 b = 1 ∨ σ.2.2.1 38 b = 2) → w_X12_hasIt_32 Q σ (nI e) (nI b) := by
    intro hw
    refine ⟨nI_in (N := 24) hb24 (by decide), ?_⟩
    rw [nI_clamp (by omega)]
    refine rfo he h9 hm ?_
    cases hf : fO σ e (σ.2.2.2 36 b) with
    | none =>
      refine ⟨fun _ => ⟨rfl, hn (fun z => ?_)⟩, fun hc => absurd (by show (-1 : Int32) < 0; decide) hc⟩
      rcases z with z | ⟨k, z, -⟩
      · rcases hw with hw | hw
        · exact z.1 hw
        · exact z.2 hw
      · rw [hf] at z; cases z
    | some k =>
      have hk := fO_lt h9 hm hf
      refine ⟨fun hc => absurd hc (nI_pos (n := 8 * e + k) (by omega)), fun _ => ⟨i38, fun hc => ⟨rfl, hy (Or.inr ⟨k, hf, Or.inl hc⟩)⟩, fun hc => ?_⟩⟩
      show vp_in (nI (8 * e + k)) (rf_n 14) ∧ (¬ σ.2.2.1 14 (nI (8 * e + k)).toNatClampNeg = 0 → _) ∧ (σ.2.2.1 14 (nI (8 * e + k)).toNatClampNeg = 0 → _)
      rw [nI_clamp (by omega)]
      refine ⟨nI_in (N := 32008) (by omega) (by decide), fun hd => ⟨rfl, hn (fun z => ?_)⟩, fun hd => ⟨rfl, hy (Or.inr ⟨k, hf, Or.inr hd⟩)⟩⟩
      rcases z with z | ⟨k', z, z2⟩
      · rcases hw with hw | hw
        · exact z.1 hw
        · exact z.2 hw
      · rw [hf] at z
        cases z
        rcases z2 with z2 | z2
        · exact hc z2
        · exact hd z2
  show vp_in _ _ ∧ _ ∧ _
  rw [h32, n12, ← hbb, nI_clamp (by omega)]
  exact ⟨i38, fun hc => h32' (Or.inl hc), fun hc => ⟨i38, fun hd => h32' (Or.inr hd), fun hd => hy (Or.inl ⟨hc, hd⟩)⟩⟩
theorem rct (h32 : σ.1 32 = nI bk) (hbk : bk ≤ 1) (hr : r < 12) (hbb : b = 12 * bk + r) (he : e < 4000) (hm : m ≤ 8) (h9 : σ.2.2.1 9 e = nI m) (hy : cC σ r b f e → Q 1 σ) (hn : ¬ cC σ r b f e → Q 0 σ) : wp_X12_counts Q σ (nI r) (nI e) (nI f) := by
  show vp_in _ _ ∧ _ ∧ _
  rw [n4k, nI_clamp (by omega)]
  refine ⟨nI_in (N := 48000) (by omega) (by decide), fun hc => ⟨rfl, hn (fun z => hc z.1)⟩, fun hc => ⟨nI_in (N := 48000) (by omega) (by decide), fun hd => ⟨rfl, hn (fun z => hd z.2.1)⟩, fun hd => rhi h32 hbk hr hbb (by omega) hm h9 (fun z => ⟨fun q => absurd q (by decide), fun _ => ⟨rfl, hy ⟨hc, hd, z⟩⟩⟩) (fun z => ⟨fun _ => ⟨rfl, hn (fun q => z q.2.2)⟩, fun q => absurd rfl q⟩)⟩⟩
end HI
