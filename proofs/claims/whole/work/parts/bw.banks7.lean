/-! ===== what counts, in its bank ===== -/
section BN7
variable {σ σ' : rf_S} {bk c r n nr : Nat}
theorem RB_bk {n : Nat → Nat} (hE : eL σ σ' bk c) (hnr : nr ≤ 12) (hn : ∀ r, r < nr → n r ≤ 3) (h : RB σ bk nr n) : RB σ' bk nr n := fun r hr i j hi hj he => by
  have := hn r hr
  rw [b37 hE (by omega) (by omega), b37 hE (by omega) (by omega)] at he
  exact h r hr i j hi hj he
theorem vC_bk (hE : eL σ σ' bk c) (f : Nat) : vC σ' f = vC σ f := by
  have e : ∀ k j, 8 ≤ k → k < 35 → σ'.2.2.1 k j = σ.2.2.1 k j := fun k j h1 h2 => hE.2.1 k j (Or.inl ⟨h1, h2⟩)
  unfold vC
  rw [e 14 f (by omega) (by omega), e 15 f (by omega) (by omega), e 16 f (by omega) (by omega)]
  refine congrArg (fun z => (σ.2.2.1 14 f, σ.2.2.1 15 f, z)) (funext fun k => ?_)
  rw [e 18 _ (by omega) (by omega)]
theorem hI_bk (hE : eL σ σ' bk c) (hr : r < 12) (o : Nat) : hI σ' (12 * bk + r) o ↔ hI σ (12 * bk + r) o := by
  have e38 : σ'.2.2.1 38 (12 * bk + r) = σ.2.2.1 38 (12 * bk + r) := hE.1.2.1 38 _ (by omega) (by omega) (by omega) (by omega) (by omega)
  have e36 : σ'.2.2.2 36 (12 * bk + r) = σ.2.2.2 36 (12 * bk + r) := hE.1.2.2.2.1 36 _ (Or.inr rfl) (by omega) (by omega)
  have e14 : ∀ j, σ'.2.2.1 14 j = σ.2.2.1 14 j := fun j => hE.2.1 14 j (Or.inl (by omega))
  unfold hI
  rw [e38, e36, fO_bk hE]
  constructor
  · rintro (z | ⟨k, z1, z2⟩)
    · exact Or.inl z
    · rw [e14] at z2; exact Or.inr ⟨k, z1, z2⟩
  · rintro (z | ⟨k, z1, z2⟩)
    · exact Or.inl z
    · exact Or.inr ⟨k, z1, by rw [e14]; exact z2⟩
theorem cO_bk (hE : eL σ σ' bk c) (hr : r < 12) : cO σ' r (12 * bk + r) = cO σ r (12 * bk + r) := funext fun o => propext (by
  have e63 := hE.2.1 63 (4000 * r + o) (Or.inr (by omega))
  have e64 := hE.2.1 64 (4000 * r + o) (Or.inr (by omega))
  unfold cO hkO
  rw [e63, e64, hI_bk hE hr o])
theorem kfO_bk (hE : eL σ σ' bk c) : kfO σ' r = kfO σ r := funext fun o => by
  unfold kfO
  rw [hE.2.1 63 (4000 * r + o) (Or.inr (by omega))]
theorem scO_bk (hE : eL σ σ' bk c) (hr : r < 12) : scO σ' (12 * bk + r) = scO σ (12 * bk + r) := funext fun o => by
  have e36 : σ'.2.2.2 36 (12 * bk + r) = σ.2.2.2 36 (12 * bk + r) := hE.1.2.2.2.1 36 _ (Or.inr rfl) (by omega) (by omega)
  unfold scO
  rw [e36, fO_bk hE, vC_bk hE]
theorem kcO_bk (hE : eL σ σ' bk c) (hr : r < 12) (f : Nat) {k : Nat} (hk : k < 3) : kcO σ' (12 * bk + r) f k = kcO σ (12 * bk + r) f k := by
  unfold kcO
  rw [b37 hE hr hk, fO_bk hE, vC_bk hE]
theorem amO_bk (hE : eL σ σ' bk c) (hr : r < 12) (x : Nat) : amO σ' (12 * bk + r) x = amO σ (12 * bk + r) x := funext fun o => by
  have e36 : σ'.2.2.2 36 (12 * bk + r) = σ.2.2.2 36 (12 * bk + r) := hE.1.2.2.2.1 36 _ (Or.inr rfl) (by omega) (by omega)
  unfold amO
  rw [e36, fO_bk hE, hE.2.1 15 _ (Or.inl (by omega))]
end BN7
