/-! ===== the word alert ===== -/
def alF (i : Nat) : Nat := if i = 0 then 1 else if i = 1 then 12 else if i = 2 then 5 else if i = 3 then 18 else if i = 4 then 20 else 0
theorem al_w : ∃ n0, 1 ≤ n0 ∧ wdR n0 49735996165586944 7020097461410594816 0 := by
  refine ⟨5, by omega, alF, by omega, fun i => ?_, ?_, ?_, ?_⟩
  · by_cases c : i < 5
    · refine Or.inl ⟨c, ?_⟩
      have : i = 0 ∨ i = 1 ∨ i = 2 ∨ i = 3 ∨ i = 4 := by omega
      rcases this with rfl | rfl | rfl | rfl | rfl <;> decide
    · refine Or.inr ⟨by omega, ?_⟩
      unfold alF
      rw [if_neg (by omega), if_neg (by omega), if_neg (by omega), if_neg (by omega), if_neg (by omega)]
  · decide +kernel
  · decide +kernel
  · decide +kernel
theorem RB.ev {σ σ' : rf_S} {bk nr : Nat} {n : Nat → Nat} (h : RB σ bk nr n) (hE : eV σ σ') : RB σ' bk nr n := fun r hr i j hi hj he => h r hr i j hi hj (by rw [hE.2] at he; exact he)
