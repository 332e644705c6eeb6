/-! ===== the first bits of an address ===== -/
theorem mk_s : ∀ b, b < 33 → 1 ≤ b → (32 - nI b) &&& 31 = nI (32 - b) ∧ (32 - nI b).toUInt32 &&& Int32.toUInt32 31 = UInt32.ofNat (32 - b) := by decide +kernel
theorem bv_sm32 (n : Nat) (hn : n < 32) : ((Int32.ofNat n).toBitVec.smod 32).toNat = n := by
  have h1 : (Int32.ofNat n).toBitVec = BitVec.ofNat 32 n := rfl
  rw [h1]
  have h2 : (BitVec.ofNat 32 n).toInt = (n : Int) := by
    rw [BitVec.toInt_ofNat', Int.bmod_eq_of_le] <;> omega
  have h3 : ((BitVec.ofNat 32 n).smod 32).toInt = (n : Int) := by
    rw [BitVec.toInt_smod, h2]
    show Int.fmod (n : Int) 32 = n
    rw [Int.fmod_eq_emod_of_nonneg _ (by omega)]
    omega
  have h4 := ((BitVec.ofNat 32 n).smod 32).isLt
  rw [BitVec.toInt_eq_toNat_cond] at h3
  split at h3 <;> omega
theorem bv_mask (z : BitVec 32) (s : Nat) (hs : s < 32) : (z &&& (BitVec.allOnes 32 <<< s) = 0#32) ↔ z >>> s = 0#32 := by
  constructor
  · intro h
    apply BitVec.eq_of_getLsbD_eq
    intro i hi
    rw [BitVec.getLsbD_ushiftRight, BitVec.getLsbD_zero]
    by_cases c : s + i < 32
    · have := congrArg (fun w : BitVec 32 => w.getLsbD (s + i)) h
      simp only [BitVec.getLsbD_and, BitVec.getLsbD_shiftLeft, BitVec.getLsbD_zero, BitVec.getLsbD_allOnes] at this
      have e1 : decide (s + i < 32) = true := decide_eq_true c
      have e2 : decide (s + i < s) = false := decide_eq_false (by omega)
      have e3 : decide (s + i - s < 32) = true := decide_eq_true (by omega)
      rw [e1, e2, e3] at this
      simpa using this
    · exact BitVec.getLsbD_of_ge _ _ (by omega)
  · intro h
    apply BitVec.eq_of_getLsbD_eq
    intro i hi
    simp only [BitVec.getLsbD_and, BitVec.getLsbD_shiftLeft, BitVec.getLsbD_zero]
    by_cases c : i < s
    · have e2 : decide (i < s) = true := decide_eq_true c
      rw [e2]
      simp
    · have := congrArg (fun w : BitVec 32 => w.getLsbD (i - s)) h
      simp only [BitVec.getLsbD_ushiftRight, BitVec.getLsbD_zero] at this
      rw [show s + (i - s) = i from by omega] at this
      rw [this]
      simp
theorem mk_eq (z : Int32) (b : Nat) (hb : b ≤ 32) (hb1 : 1 ≤ b) : (z &&& ((-1 : Int32) <<< ((32 - nI b) &&& 31)) = 0) ↔ ((z.toUInt32 >>> ((32 - nI b).toUInt32 &&& Int32.toUInt32 31)).toInt32 = 0) := by
  obtain ⟨e1, e2⟩ := mk_s b (by omega) hb1
  rw [e1, e2]
  have hs : 32 - b < 32 := by omega
  generalize 32 - b = s at hs
  rw [← Int32.toBitVec_inj, ← Int32.toBitVec_inj, Int32.toBitVec_and, Int32.toBitVec_shiftLeft]
  have f1 : (-1 : Int32).toBitVec = BitVec.allOnes 32 := by decide
  have f2 : (0 : Int32).toBitVec = 0#32 := by decide
  have f3 : (nI s).toBitVec.smod 32 = BitVec.ofNat 32 s := by
    apply BitVec.eq_of_toNat_eq
    rw [BitVec.toNat_ofNat, Nat.mod_eq_of_lt (by omega)]
    exact bv_sm32 s hs
  have f4 : ((z.toUInt32 >>> UInt32.ofNat s).toInt32).toBitVec = z.toBitVec >>> s := by
    show (z.toUInt32 >>> UInt32.ofNat s).toBitVec = _
    apply BitVec.eq_of_toNat_eq
    show (z.toUInt32 >>> UInt32.ofNat s).toNat = _
    rw [UInt32.toNat_shiftRight, UInt32.toNat_ofNat', BitVec.toNat_ushiftRight, Nat.mod_eq_of_lt (show s < 2 ^ 32 by omega), Nat.mod_eq_of_lt hs]
    rfl
  rw [f1, f2, f3, f4]
  have f5 : BitVec.allOnes 32 <<< BitVec.ofNat 32 s = BitVec.allOnes 32 <<< s := by
    rw [BitVec.shiftLeft_eq', BitVec.toNat_ofNat, Nat.mod_eq_of_lt (by omega)]
  rw [f5]
  exact bv_mask z.toBitVec s hs
