/-! ===== bits ===== -/
theorem i32_and (a c : Nat) (ha : a < 2 ^ 32) (hc : c < 2 ^ 32) : Int32.ofNat a &&& Int32.ofNat c = Int32.ofNat (a &&& c) := by
  apply Int32.toBitVec_inj.mp
  simp only [Int32.toBitVec_and, Int32.toBitVec_ofNat']
  apply BitVec.eq_of_toNat_eq
  simp only [BitVec.toNat_and, BitVec.toNat_ofNat]
  rw [Nat.mod_eq_of_lt ha, Nat.mod_eq_of_lt hc, Nat.mod_eq_of_lt (Nat.and_lt_two_pow _ hc)]
theorem i64_sl (a n : Nat) (s : Int64) (hs : s = Int64.ofNat n) (hn : n < 64) (ha : a * 2 ^ n < 2 ^ 64) : Int64.ofNat a <<< s = Int64.ofNat (a * 2 ^ n) := by
  subst hs
  apply Int64.toBitVec_inj.mp
  rw [Int64.toBitVec_shiftLeft]
  apply BitVec.eq_of_toNat_eq
  have e1 : ((Int64.ofNat n).toBitVec.smod 64).toNat = n := by
    have h1 : (Int64.ofNat n).toBitVec = BitVec.ofNat 64 n := rfl
    rw [h1]
    have h2 : (BitVec.ofNat 64 n).toInt = (n : Int) := by
      rw [BitVec.toInt_ofNat', Int.bmod_eq_of_le] <;> omega
    have h3 : ((BitVec.ofNat 64 n).smod 64).toInt = (n : Int) := by
      rw [BitVec.toInt_smod, h2]
      show Int.fmod (n : Int) 64 = n
      rw [Int.fmod_eq_emod_of_nonneg _ (by omega)]
      omega
    have h4 := ((BitVec.ofNat 64 n).smod 64).isLt
    rw [BitVec.toInt_eq_toNat_cond] at h3
    split at h3 <;> omega
  rw [BitVec.shiftLeft_eq', BitVec.toNat_shiftLeft, e1, Nat.shiftLeft_eq]
  have hle : a ≤ a * 2 ^ n := Nat.le_mul_of_pos_right _ (Nat.two_pow_pos _)
  show (BitVec.ofNat 64 a).toNat * 2 ^ n % 2 ^ 64 = (BitVec.ofNat 64 (a * 2 ^ n)).toNat
  rw [BitVec.toNat_ofNat, BitVec.toNat_ofNat, Nat.mod_eq_of_lt (by omega : a < 2 ^ 64)]
theorem i32_64 (a : Nat) (ha : a < 2 ^ 31) : (Int32.ofNat a).toInt64 = Int64.ofNat a := by
  apply Int64.toInt_inj.mp
  rw [Int32.toInt_toInt64]
  rw [Int32.toInt_ofNat_of_lt ha, Int64.toInt_ofNat_of_lt (by omega)]
theorem ruv_ok {bn vn k : Nat} (hb : bn < 256) (hk : k ≤ 4) (hv : vn < 2 ^ (7 * k)) : ruv (nI bn) k (Int64.ofNat vn) = Int64.ofNat (vn + bn % 128 * 2 ^ (7 * k)) := by
  have e1 : nI bn &&& 127 = nI (bn % 128) := by
    show Int32.ofNat bn &&& Int32.ofNat 127 = Int32.ofNat (bn % 128)
    rw [i32_and _ _ (by omega) (by decide), show (127 : Nat) = 2 ^ 7 - 1 from rfl, Nat.and_two_pow_sub_one_eq_mod]
  have hp : 2 ^ (7 * k) ≤ 2 ^ 28 := Nat.pow_le_pow_right (by decide) (by omega)
  have hm : bn % 128 * 2 ^ (7 * k) ≤ 127 * 2 ^ 28 := Nat.mul_le_mul (by omega) hp
  have hs : (7 * nI k).toInt64 &&& 63 = Int64.ofNat (7 * k) := by
    have h5 : k = 0 ∨ k = 1 ∨ k = 2 ∨ k = 3 ∨ k = 4 := by omega
    rcases h5 with rfl | rfl | rfl | rfl | rfl <;> decide
  unfold ruv
  rw [e1, show (nI (bn % 128)).toInt64 = Int64.ofNat (bn % 128) from i32_64 _ (by omega), i64_sl _ (7 * k) _ hs (by omega) (by omega), i64_or _ _ (by omega) (by omega), Nat.or_comm, Nat.mul_comm (bn % 128), ← Nat.two_pow_add_eq_or_of_lt hv, Nat.add_comm]
/-- the number is too large only in its fifth byte -/
theorem ruv_big {bn vn k : Nat} (hb : bn < 128) (hk : k ≤ 4) (hv : vn < 2 ^ (7 * k)) : (0 < lg_cmp (ruv (nI bn) k (Int64.ofNat vn)) 4294967295) ↔ k = 4 ∧ 15 < bn := by
  rw [ruv_ok (by omega) hk hv, lg_cmp_gt, Int64.lt_iff_toInt_lt]
  have hp : 2 ^ (7 * k) ≤ 2 ^ 28 := Nat.pow_le_pow_right (by decide) (by omega)
  have hm : bn % 128 * 2 ^ (7 * k) ≤ 127 * 2 ^ 28 := Nat.mul_le_mul (by omega) hp
  have h1 : (4294967295 : Int64).toInt = 4294967295 := by decide
  rw [h1, Int64.toInt_ofNat_of_lt (by omega), Nat.mod_eq_of_lt hb]
  have h5 : k = 4 ∨ k ≤ 3 := by omega
  rcases h5 with rfl | h3
  · show (4294967295 : Int) < ((vn + bn * 268435456 : Nat) : Int) ↔ _
    have hv2 : vn < 268435456 := hv
    omega
  · have hp3 : 2 ^ (7 * k) ≤ 2 ^ 21 := Nat.pow_le_pow_right (by decide) (by omega)
    have hm3 : bn * 2 ^ (7 * k) ≤ 127 * 2 ^ 21 := Nat.mul_le_mul (by omega) hp3
    constructor
    · intro h; omega
    · intro h; omega
