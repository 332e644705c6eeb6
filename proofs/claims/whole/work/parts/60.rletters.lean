/-! ===== letters of a word: the reference's side ===== -/
/-- the reference's word with one letter more -/
theorem wl8_ok {f : Nat → Nat} (hf : ∀ i, f i < 2 ^ 8) {k bn : Nat} (hk : k ≤ 7) (hb2 : bn ≤ 122) (hfk : f k = bn) : Int64.ofNat (dg 8 8 f k) ||| ((nI bn).toInt64 <<< ((56 - 8 * nI k).toInt64 &&& 63)) = Int64.ofNat (dg 8 8 f (k + 1)) := by
  have hs : (56 - 8 * nI k).toInt64 &&& 63 = Int64.ofNat (8 * (8 - 1 - k)) := by
    have h5 : k = 0 ∨ k = 1 ∨ k = 2 ∨ k = 3 ∨ k = 4 ∨ k = 5 ∨ k = 6 ∨ k = 7 := by omega
    rcases h5 with rfl | rfl | rfl | rfl | rfl | rfl | rfl | rfl <;> decide
  have hp : (2 : Nat) ^ (8 * (8 - 1 - k)) ≤ 2 ^ 56 := Nat.pow_le_pow_right (by decide) (by omega)
  have hm : bn * 2 ^ (8 * (8 - 1 - k)) ≤ 122 * 2 ^ 56 := Nat.mul_le_mul hb2 hp
  have hm2 : bn * 2 ^ (8 * (8 - 1 - k)) < 2 ^ 64 := Nat.lt_of_le_of_lt hm (by decide)
  have hd : dg 8 8 f k < 2 ^ 64 := dg_small 8 8 f hf k (by omega)
  rw [show (nI bn).toInt64 = Int64.ofNat bn from i32_64 _ (by omega), i64_sl _ (8 * (8 - 1 - k)) _ hs (by omega) hm2, i64_or _ _ hd hm2, ← hfk, dg_or 8 8 f hf k (by omega)]
theorem rf_iul {σ : rf_S} {f g : Nat} {x : Int32} {y : Int64} : rf_ul (rf_ui σ f x) g y = rf_ui (rf_ul σ g y) f x := rfl
theorem rf_ull {σ : rf_S} {f : Nat} {x y : Int64} : rf_ul (rf_ul σ f x) f y = rf_ul σ f y := by
  refine Prod.ext rfl (Prod.ext (funext fun k => ?_) rfl)
  show (rf_ul (rf_ul σ f x) f y).2.1 k = (rf_ul σ f y).2.1 k
  rw [r2ul, r2ul, r2ul]
  by_cases h : k = f <;> simp [h]
