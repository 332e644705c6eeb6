/-! ===== keys of the reference, in their bank ===== -/
/-- the bank, and all that the log rests on, are as they were -/
def eL (σ σ' : rf_S) (bk c : Nat) : Prop := eJ σ σ' bk c ∧ (∀ k j, (8 ≤ k ∧ k < 35) ∨ (63 ≤ k ∧ k < 84) → σ'.2.2.1 k j = σ.2.2.1 k j) ∧ ∀ k j, 8 ≤ k → k < 35 → σ'.2.2.2 k j = σ.2.2.2 k j
section BN6
variable {σ σ' : rf_S} {bk c r n : Nat}
theorem fO_bk (hE : eL σ σ' bk c) (e : Nat) (a : Int64) : fO σ' e a = fO σ e a := by
  have em : mN σ' e = mN σ e := by
    unfold mN
    rw [hE.2.1 9 e (Or.inl (by omega))]
  unfold fO
  rw [em]
  exact fdx_cong _ _ (fun j _ _ => by rw [hE.2.2 13 (8 * e + j) (by omega) (by omega)])
theorem b37 (hE : eL σ σ' bk c) (hr : r < 12) {k : Nat} (hk : k < 3) : σ'.2.2.2 37 (3 * (12 * bk + r) + k) = σ.2.2.2 37 (3 * (12 * bk + r) + k) := hE.1.2.2.2.2 _ (by omega) (by omega)
theorem kH_bk (hE : eL σ σ' bk c) (hr : r < 12) (hn : n ≤ 3) (x : Nat) : kH σ' (12 * bk + r) n x ↔ kH σ (12 * bk + r) n x := by
  unfold kH
  constructor
  · intro h k hk
    obtain ⟨i, hi⟩ := h k hk
    rw [fO_bk hE, b37 hE hr (by omega)] at hi
    exact ⟨i, hi⟩
  · intro h k hk
    obtain ⟨i, hi⟩ := h k hk
    refine ⟨i, ?_⟩
    rw [fO_bk hE, b37 hE hr (by omega)]
    exact hi
theorem kM_bk (hE : eL σ σ' bk c) (hr : r < 12) (hn : n ≤ 3) (x y : Nat) : kM σ' (12 * bk + r) n x y ↔ kM σ (12 * bk + r) n x y := by
  have e17 : ∀ j, σ'.2.2.1 17 j = σ.2.2.1 17 j := fun j => hE.2.1 17 j (Or.inl (by omega))
  unfold kM
  constructor
  · intro h k hk
    obtain ⟨i, j, h1, h2, h3⟩ := h k hk
    rw [fO_bk hE, b37 hE hr (by omega)] at h1 h2
    rw [e17, e17] at h3
    exact ⟨i, j, h1, h2, h3⟩
  · intro h k hk
    obtain ⟨i, j, h1, h2, h3⟩ := h k hk
    refine ⟨i, j, ?_, ?_, ?_⟩
    · rw [fO_bk hE, b37 hE hr (by omega)]; exact h1
    · rw [fO_bk hE, b37 hE hr (by omega)]; exact h2
    · rw [e17, e17]; exact h3
theorem kI_bk (hE : eL σ σ' bk c) (hr : r < 12) (hn : n ≤ 3) {ne : Nat} (h : kI σ r (12 * bk + r) n ne) : kI σ' r (12 * bk + r) n ne := by
  have e63 : ∀ j, σ'.2.2.1 63 j = σ.2.2.1 63 j := fun j => hE.2.1 63 j (Or.inr (by omega))
  refine ⟨fun o ho => ?_, fun f g hf hg h1 h2 h3 => h.2 f g hf hg (by rw [← e63]; exact h1) (by rw [← e63]; exact h2) ((kM_bk hE hr hn f g).mp h3)⟩
  rcases h.1 o ho with z | ⟨f, z1, z2, z3, z4, z5⟩
  · exact Or.inl (by rw [e63]; exact z)
  · exact Or.inr ⟨f, z1, by rw [e63]; exact z2, by rw [e63]; exact z3, (kH_bk hE hr hn o).mpr z4, (kM_bk hE hr hn f o).mpr z5⟩
end BN6
