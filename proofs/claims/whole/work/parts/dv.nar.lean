/-! ===== bytes ===== -/
theorem nar_b {x : Int32} {b : Nat} (h : x &&& 255 = nI b) (hb : b < 128) : vp_nar .byte x = nI b := by
  have e : vp_nar .byte x = x.toInt8.toInt32 := rfl
  rw [e]
  have h1 : (x.toBitVec &&& 255#32).toNat = b := by
    have := congrArg (fun y : Int32 => y.toBitVec.toNat) h
    rw [Int32.toBitVec_and] at this
    rw [show (255 : Int32).toBitVec = 255#32 from rfl] at this
    rw [this]
    show (Int32.ofNat b).toBitVec.toNat = b
    rw [Int32.toBitVec_ofNat', BitVec.toNat_ofNat]
    omega
  rw [BitVec.toNat_and, show (255#32 : BitVec 32).toNat = 2 ^ 8 - 1 from rfl, Nat.and_two_pow_sub_one_eq_mod] at h1
  have h2 : x.toInt8.toInt = b := by
    rw [Int32.toInt_toInt8]
    have : x.toInt = x.toBitVec.toInt := rfl
    rw [this, BitVec.toInt_eq_toNat_bmod, Int.bmod_bmod_of_dvd (by decide)]
    rw [Int.bmod_def]
    omega
  exact nI_at (by rw [Int8.toInt_toInt32]; exact h2) (by omega)
