/-! ===== letters of a word ===== -/
theorem dg_small (b N : Nat) (f : Nat → Nat) (hf : ∀ i, f i < 2 ^ b) (k : Nat) (hk : k ≤ N) : dg b N f k < 2 ^ (b * N) := by
  have h := dg_lt b N f hf k hk
  have := Nat.two_pow_pos (b * (N - k))
  omega
theorem wl_dec {bn : Nat} (hb : 97 ≤ bn) (hb2 : bn ≤ 122) : nI bn - 97 + 1 = nI (bn - 96) := by
  obtain ⟨c, rfl⟩ : ∃ c, bn = c + 97 := ⟨bn - 97, by omega⟩
  have e1 : nI (c + 97) = nI c + 97 := (nI_add c 97).symm
  have e2 : c + 97 - 96 = c + 1 := by omega
  rw [e1, Int32.add_sub_cancel, e2, nI_1]
/-- the class's word with one letter more -/
theorem wl_ok {f : Nat → Nat} (hf : ∀ i, f i < 2 ^ 5) {k bn : Nat} (hk : k ≤ 11) (hb : 97 ≤ bn) (hb2 : bn ≤ 122) (hfk : f k = bn - 96) : Int64.ofNat (dg 5 12 f k) ||| (((nI bn - 97) + 1).toInt64 <<< ((5 * (11 - nI k)).toInt64 &&& 63)) = Int64.ofNat (dg 5 12 f (k + 1)) := by
  have hs : (5 * (11 - nI k)).toInt64 &&& 63 = Int64.ofNat (5 * (12 - 1 - k)) := by
    have h5 : k = 0 ∨ k = 1 ∨ k = 2 ∨ k = 3 ∨ k = 4 ∨ k = 5 ∨ k = 6 ∨ k = 7 ∨ k = 8 ∨ k = 9 ∨ k = 10 ∨ k = 11 := by omega
    rcases h5 with rfl | rfl | rfl | rfl | rfl | rfl | rfl | rfl | rfl | rfl | rfl | rfl <;> decide
  have h60 : (2 : Nat) ^ (5 * 12) < 2 ^ 64 := by decide
  have hp : (2 : Nat) ^ (5 * (12 - 1 - k)) ≤ 2 ^ 55 := Nat.pow_le_pow_right (by decide) (by omega)
  have hm : (bn - 96) * 2 ^ (5 * (12 - 1 - k)) ≤ 26 * 2 ^ 55 := Nat.mul_le_mul (by omega) hp
  have hm2 : (bn - 96) * 2 ^ (5 * (12 - 1 - k)) < 2 ^ 64 := Nat.lt_of_le_of_lt hm (by decide)
  have hd := dg_small 5 12 f hf k (by omega)
  rw [wl_dec hb hb2, show (nI (bn - 96)).toInt64 = Int64.ofNat (bn - 96) from i32_64 _ (by omega), i64_sl _ (5 * (12 - 1 - k)) _ hs (by omega) hm2, i64_or _ _ (Nat.lt_trans hd h60) hm2, ← hfk, dg_or 5 12 f hf k (by omega)]
