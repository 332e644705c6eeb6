/-! ===== the letters of a word, one by one ===== -/
theorem bv_sm (n : Nat) (hn : n < 64) : ((Int64.ofNat n).toBitVec.smod 64).toNat = n := by
  have h1 : (Int64.ofNat n).toBitVec = BitVec.ofNat 64 n := rfl
  rw [h1]
  have h2 : (BitVec.ofNat 64 n).toInt = (n : Int) := by
    rw [BitVec.toInt_ofNat', Int.bmod_eq_of_le] <;> omega
  have h3 : ((BitVec.ofNat 64 n).smod 64).toInt = (n : Int) := by
    rw [BitVec.toInt_smod, h2]
    show Int.fmod (n : Int) 64 = n
    rw [Int.fmod_eq_emod_of_nonneg _ (by omega)]
    omega
  have h4 := ((BitVec.ofNat 64 n).smod 64).isLt
  rw [BitVec.toInt_eq_toNat_cond] at h3
  split at h3 <;> omega
theorem i64_sr {a n : Nat} {s : Int64} (hs : s = Int64.ofNat n) (hn : n < 64) (ha : a < 2 ^ 63) : Int64.ofNat a >>> s = Int64.ofNat (a / 2 ^ n) := by
  subst hs
  apply Int64.toBitVec_inj.mp
  rw [Int64.toBitVec_shiftRight]
  apply BitVec.eq_of_toNat_eq
  have hm : (Int64.ofNat a).toBitVec.msb = false := by
    rw [BitVec.msb_eq_false_iff_two_mul_lt]
    show 2 * (BitVec.ofNat 64 a).toNat < 2 ^ 64
    rw [BitVec.toNat_ofNat, Nat.mod_eq_of_lt (by omega)]
    omega
  rw [BitVec.toNat_sshiftRight'_of_msb_false hm, bv_sm n hn, Nat.shiftRight_eq_div_pow]
  show (BitVec.ofNat 64 a).toNat / 2 ^ n = (BitVec.ofNat 64 (a / 2 ^ n)).toNat
  have hd : a / 2 ^ n ≤ a := Nat.div_le_self _ _
  rw [BitVec.toNat_ofNat, BitVec.toNat_ofNat, Nat.mod_eq_of_lt (by omega), Nat.mod_eq_of_lt (by omega)]
theorem i64_and (a c : Nat) (ha : a < 2 ^ 64) (hc : c < 2 ^ 64) : Int64.ofNat a &&& Int64.ofNat c = Int64.ofNat (a &&& c) := by
  apply Int64.toBitVec_inj.mp
  rw [Int64.toBitVec_and]
  apply BitVec.eq_of_toNat_eq
  rw [BitVec.toNat_and]
  show (BitVec.ofNat 64 a).toNat &&& (BitVec.ofNat 64 c).toNat = (BitVec.ofNat 64 (a &&& c)).toNat
  rw [BitVec.toNat_ofNat, BitVec.toNat_ofNat, BitVec.toNat_ofNat, Nat.mod_eq_of_lt ha, Nat.mod_eq_of_lt hc, Nat.mod_eq_of_lt (Nat.and_lt_two_pow _ hc)]
theorem i64_32 {a : Nat} (ha : a < 2 ^ 31) : (Int64.ofNat a).toInt32 = nI a := by
  apply Int32.toInt_inj.mp
  rw [nI_toInt ha, Int64.toInt_toInt32, Int64.toInt_ofNat_of_lt (by omega), Int.bmod_eq_of_le] <;> omega
theorem u64_sr {a n : Nat} {s : UInt64} (hs : s = UInt64.ofNat n) (hn : n < 64) (ha : a < 2 ^ 64) : ((Int64.ofNat a).toUInt64 >>> s).toInt64 = Int64.ofNat (a / 2 ^ n) := by
  subst hs
  have hd : a / 2 ^ n ≤ a := Nat.div_le_self _ _
  have e : (Int64.ofNat a).toUInt64 >>> UInt64.ofNat n = UInt64.ofNat (a / 2 ^ n) := by
    apply UInt64.toNat_inj.mp
    rw [UInt64.toNat_shiftRight]
    have e1 : (Int64.ofNat a).toUInt64.toNat = a := by
      show (BitVec.ofNat 64 a).toNat = a
      rw [BitVec.toNat_ofNat, Nat.mod_eq_of_lt ha]
    have e2 : (UInt64.ofNat n).toNat = n := by rw [UInt64.toNat_ofNat', Nat.mod_eq_of_lt (by omega)]
    have e3 : (UInt64.ofNat (a / 2 ^ n)).toNat = a / 2 ^ n := by rw [UInt64.toNat_ofNat', Nat.mod_eq_of_lt (by omega)]
    rw [e1, e2, e3, Nat.mod_eq_of_lt hn, Nat.shiftRight_eq_div_pow]
  rw [e]
  rfl
/-- the class's letter -/
theorem cl_at {n : Nat} {c h l : Int64} {f : Nat → Nat} (a2 : ∀ i, (i < n ∧ 1 ≤ f i ∧ f i ≤ 26) ∨ (n ≤ i ∧ f i = 0)) {k : Nat} (hk : k ≤ 11) : (((((Int64.ofNat (dg 5 12 f 12)).toUInt64 >>> ((5 * (11 - nI k)).toInt64.toUInt64 &&& 63)).toInt64 &&& 31).toInt32) + 97) - 1 = nI (f k + 96) := by
  have hf := wd_26 a2
  have hf5 : ∀ i, f i < 2 ^ 5 := fun i => by have := hf i; show f i < 32; omega
  have hs : (5 * (11 - nI k)).toInt64.toUInt64 &&& 63 = UInt64.ofNat (5 * (12 - 1 - k)) := by
    have h5 : k = 0 ∨ k = 1 ∨ k = 2 ∨ k = 3 ∨ k = 4 ∨ k = 5 ∨ k = 6 ∨ k = 7 ∨ k = 8 ∨ k = 9 ∨ k = 10 ∨ k = 11 := by omega
    rcases h5 with rfl | rfl | rfl | rfl | rfl | rfl | rfl | rfl | rfl | rfl | rfl | rfl <;> decide
  have hlt := w5_60 hf
  rw [u64_sr hs (by omega) (by omega)]
  have hd : dg 5 12 f 12 / 2 ^ (5 * (12 - 1 - k)) ≤ dg 5 12 f 12 := Nat.div_le_self _ _
  have e31 : (31 : Int64) = Int64.ofNat 31 := rfl
  have hat := dg_at 5 12 f hf5 12 (Nat.le_refl _) k (by omega)
  rw [if_pos (by omega)] at hat
  have hfk := hf5 k
  rw [e31, i64_and _ _ (by omega) (by decide), show (31 : Nat) = 2 ^ 5 - 1 from rfl, Nat.and_two_pow_sub_one_eq_mod, hat, i64_32 (by omega)]
  show nI (f k) + nI 97 - 1 = nI (f k + 96)
  rw [nI_add, show f k + 97 = f k + 96 + 1 from rfl, nI_pred]
/-- the reference's, of either half -/
theorem rl_at {f : Nat → Nat} (hf : ∀ i, f i ≤ 26) {k : Nat} (hk : k ≤ 7) : ((Int64.ofNat (dg 8 8 (w8 f) 8)) >>> ((56 - 8 * nI k).toInt64 &&& 63)) &&& 255 = Int64.ofNat (w8 f k) := by
  have hs : (56 - 8 * nI k).toInt64 &&& 63 = Int64.ofNat (8 * (8 - 1 - k)) := by
    have h5 : k = 0 ∨ k = 1 ∨ k = 2 ∨ k = 3 ∨ k = 4 ∨ k = 5 ∨ k = 6 ∨ k = 7 := by omega
    rcases h5 with rfl | rfl | rfl | rfl | rfl | rfl | rfl | rfl <;> decide
  have hlt := w8_63 hf
  rw [i64_sr hs (by omega) hlt]
  have hd : dg 8 8 (w8 f) 8 / 2 ^ (8 * (8 - 1 - k)) ≤ dg 8 8 (w8 f) 8 := Nat.div_le_self _ _
  have e255 : (255 : Int64) = Int64.ofNat 255 := rfl
  have hat := dg_at 8 8 (w8 f) (w8_lt hf) 8 (Nat.le_refl _) k (by omega)
  rw [if_pos (by omega)] at hat
  rw [e255, i64_and _ _ (by omega) (by decide), show (255 : Nat) = 2 ^ 8 - 1 from rfl, Nat.and_two_pow_sub_one_eq_mod, hat]
