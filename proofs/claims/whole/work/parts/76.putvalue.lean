/-! ===== packing a value, both in step ===== -/
theorem x_mask (y m : Int64) : (y &&& m) ^^^ m = ~~~y &&& m := by
  apply Int64.toBitVec_inj.mp
  rw [Int64.toBitVec_xor, Int64.toBitVec_and, Int64.toBitVec_and, Int64.toBitVec_not]
  ext i hi
  simp only [BitVec.getElem_xor, BitVec.getElem_and, BitVec.getElem_not]
  cases y.toBitVec[i] <;> cases m.toBitVec[i] <;> rfl
theorem x_sl1 (x : Int64) : x <<< ((1 : Int32).toInt64 &&& 63) = 2 * x := by
  apply Int64.toBitVec_inj.mp
  rw [Int64.toBitVec_shiftLeft, Int64.toBitVec_mul]
  have e1 : (((1 : Int32).toInt64 &&& 63).toBitVec.smod 64) = 1#64 := by decide
  have e2 : (2 : Int64).toBitVec = 2#64 := by decide
  rw [e1, e2]
  apply BitVec.eq_of_toNat_eq
  rw [BitVec.shiftLeft_eq', BitVec.toNat_shiftLeft, BitVec.toNat_mul, Nat.shiftLeft_eq]
  show x.toBitVec.toNat * 2 ^ 1 % 2 ^ 64 = 2 * x.toBitVec.toNat % 2 ^ 64
  rw [Nat.mul_comm, Nat.pow_one]
theorem x_not (y : Int64) : ~~~y = -y - 1 := by
  apply Int64.toBitVec_inj.mp
  have e2 : (1 : Int64).toBitVec = 1#64 := by decide
  rw [Int64.toBitVec_not, Int64.toBitVec_sub, Int64.toBitVec_neg, e2, BitVec.neg_eq_not_add, BitVec.add_sub_cancel]
theorem and_m32 {v : Nat} (hv : v < 2 ^ 32) : Int64.ofNat v &&& 4294967295 = Int64.ofNat v := by
  have e : (4294967295 : Int64) = Int64.ofNat (2 ^ 32 - 1) := by decide
  rw [e, i64_and _ _ (by omega) (by decide), Nat.and_two_pow_sub_one_eq_mod, Nat.mod_eq_of_lt hv]
theorem int_pk (x : Int32) : ∃ v, v < 2 ^ 32 ∧ (lg_cmp x.toInt64 0 < 0 → (-2) * x.toInt64 - 1 = Int64.ofNat v) ∧ (¬ lg_cmp x.toInt64 0 < 0 → 2 * x.toInt64 = Int64.ofNat v) ∧ (0 ≤ x → ((x.toInt64 <<< ((1 : Int32).toInt64 &&& 63)) &&& 4294967295) ^^^ 0 = Int64.ofNat v) ∧ (¬ 0 ≤ x → ((x.toInt64 <<< ((1 : Int32).toInt64 &&& 63)) &&& 4294967295) ^^^ 4294967295 = Int64.ofNat v) := by
  have hb1 := Int32.le_toInt x
  have hb2 := Int32.toInt_lt x
  have hx : (0 ≤ x) ↔ (0 : Int) ≤ x.toInt := Int32.le_iff_toInt_le
  have hl : lg_cmp x.toInt64 0 < 0 ↔ x.toInt < 0 := by
    have h1 := lg_nn (x := x.toInt64) (y := 0)
    rw [Int64.le_iff_toInt_le, Int32.toInt_toInt64] at h1
    have h2 : (0 : Int64).toInt = 0 := by decide
    rw [h2] at h1
    rw [← Int32.not_le, h1]
    omega
  rw [hl, hx, x_sl1]
  by_cases h0 : (0 : Int) ≤ x.toInt
  · have e : 2 * x.toInt64 = Int64.ofNat (2 * x.toInt.toNat) := by
      apply Int64.toInt_inj.mp
      rw [Int64.toInt_mul, Int32.toInt_toInt64, Int64.toInt_ofNat_of_lt (by omega)]
      have h2 : (2 : Int64).toInt = 2 := by decide
      rw [h2, Int.bmod_eq_of_le] <;> omega
    refine ⟨2 * x.toInt.toNat, by omega, fun h => absurd h (by omega), fun _ => e, fun _ => ?_, fun h => absurd h0 h⟩
    rw [e, and_m32 (by omega)]
    apply Int64.toBitVec_inj.mp
    rw [Int64.toBitVec_xor]
    exact BitVec.xor_zero
  · have e : (-2) * x.toInt64 - 1 = Int64.ofNat (-2 * x.toInt - 1).toNat := by
      apply Int64.toInt_inj.mp
      rw [Int64.toInt_sub, Int64.toInt_mul, Int32.toInt_toInt64, Int64.toInt_ofNat_of_lt (by omega)]
      have h2 : (-2 : Int64).toInt = -2 := by decide
      have h3 : (1 : Int64).toInt = 1 := by decide
      rw [h2, h3, Int.bmod_eq_of_le (n := -2 * x.toInt) (by omega) (by omega), Int.bmod_eq_of_le] <;> omega
    refine ⟨(-2 * x.toInt - 1).toNat, by omega, fun _ => e, fun h => absurd h (by omega), fun h => absurd h h0, fun _ => ?_⟩
    rw [x_mask, x_not, show -(2 * x.toInt64) = (-2) * x.toInt64 from (Int64.neg_mul ..).symm, e, and_m32 (by omega)]
section PV
variable {G : Nat → Nat} {rc pk te va f : Nat} {post : cs_S → Prop}
/-- what the bytes of a TEXT rest on, at both -/
theorem sp_tx {tx L o : Nat} (hf : f < 32008) (hL : L ≤ 24) (ho : o + L ≤ 24000) (htp : tx ≠ pk) : ∀ r k (S : cs_S) (σ : rf_S) y, k + r = L → pkJ S σ rc pk y → y + r ≤ 301 → cs_k S tx = 20 → cs_n S tx = L → (∀ j, j < L → ∃ b, 32 ≤ b ∧ b ≤ 126 ∧ cs_ai S tx j = nI b) → σ.2.2.1 15 f = nI L → σ.2.2.1 16 f = nI o → (∀ j, j < L → σ.2.2.1 18 (o + j) = cs_ai S tx j) → (∀ S' σ', pkJ S' σ' rc pk (y + r) → pg rc pk S S' → qg σ σ' → (∀ Q : rf_S → Prop, w_X12_putField_186 Q σ' (nI f) → w_X12_putField_153 Q (r + 1) σ (nI f) (nI k)) → post S') → w_X6_putValue_107 post G (r + 1) S rc (some tx) (nI L) (nI k) := by
  have i15 : vp_in (nI f) (rf_n 15) := nI_in (N := 32008) hf (by decide)
  have i16 : vp_in (nI f) (rf_n 16) := nI_in (N := 32008) hf (by decide)
  intro r
  induction r with
  | zero =>
    intro k S σ y hk hJ hy h1 h2 h3 h15 h16 h18 h
    have : k = L := by omega
    subst this
    refine ⟨fun _ => h S σ hJ pg.rfl qg.rfl (fun Q hQ => ⟨i15, fun _ => hQ, fun hc => ?_⟩), fun hc => absurd (nI_le (Nat.le_refl _) (by omega)) hc⟩
    rw [nI_clamp (by omega), h15] at hc
    exact absurd (nI_le (Nat.le_refl _) (by omega)) hc
  | succ r ih =>
    intro k S σ y hk hJ hy h1 h2 h3 h15 h16 h18 h
    obtain ⟨b, hb1, hb2, hb3⟩ := h3 k (by omega)
    refine ⟨fun hc => absurd hc (nI_ge (by omega) (by omega)), fun _ => ⟨tx, rfl, h1, by rw [h2]; exact nI_in (by omega) (by omega), hJ.1, ?_⟩⟩
    rw [nI_clamp (by omega), hb3]
    refine sp_put (x := nI b) hJ (by omega) ⟨b, by omega, rfl⟩ (nar8 b (by omega)) (fun S1 σ1 J1 p1 q1 re1 => ?_)
    rw [nI_1]
    have hai : ∀ j, cs_ai S1 tx j = cs_ai S tx j := (p1 tx).2.2.2.2.2.2.2 htp
    refine ih (k + 1) S1 σ1 (y + 1) (by omega) J1 (by omega) ((p1 tx).1.trans h1) ((p1 tx).2.1.trans h2) (fun j hj => by rw [hai]; exact h3 j hj) (by rw [q1.2.2.1 15 (by decide)]; exact h15) (by rw [q1.2.2.1 16 (by decide)]; exact h16) (fun j hj => by rw [q1.2.2.1 18 (by decide), hai]; exact h18 j hj) (fun S2 σ2 J2 p2 q2 re2 => h S2 σ2 (by rw [show y + (r + 1) = y + 1 + r from by omega]; exact J2) (p1.trans p2) (q1.trans q2) (fun Q hQ => ⟨i15, fun hc => ?_, fun _ => ⟨i16, ?_, ?_⟩⟩))
    · rw [nI_clamp (by omega), h15] at hc
      exact absurd hc (nI_ge (by omega) (by omega))
    · rw [nI_clamp (by omega), h16, nI_add]
      exact nI_in (N := 24000) (by omega) (by decide)
    · rw [nI_clamp (by omega : f < 2 ^ 31), h16, nI_add, nI_clamp (by omega), h18 k (by omega), hb3, nI_1]
      exact re1 _ (re2 Q hQ)
theorem sp_val {S : cs_S} {σ : rf_S} {y : Nat} (hf : f < 32008) (hte : te ≤ 24000) (hJ : pkJ S σ rc pk y) (hy : y + 26 ≤ 301) (hv : vlR S σ te va f) (hpk : ∀ tx, cs_r S 1002 va = some tx → tx ≠ pk) (hne : va ≠ rc) (h : ∀ S' σ' y', pkJ S' σ' rc pk y' → y' ≤ y + 26 → pg rc pk S S' → qg σ σ' → (∀ Q : rf_S → Prop, Q σ' → pkF Q (nI f) σ) → post S') : wp_X6_putValue post G S rc (some va) := by
  obtain ⟨v1, v2, v3, tx, L, v4, v5, v6, v7, v8, v9, v10⟩ := hv
  have hf31 : f < 2 ^ 31 := by omega
  have i14 : vp_in (nI f) (rf_n 14) := nI_in (N := 32008) hf (by decide)
  have i15 : vp_in (nI f) (rf_n 15) := nI_in (N := 32008) hf (by decide)
  have htp := hpk tx v4
  have hs : ∃ s, s ≤ 2 ∧ σ.2.2.1 14 f = nI s := by
    rcases v10 with ⟨b1, -⟩ | ⟨b1 | b1, -⟩
    · exact ⟨1, by decide, b1⟩
    · exact ⟨0, by decide, b1⟩
    · exact ⟨2, by decide, b1⟩
  obtain ⟨s, hs2, e14⟩ := hs
  have es : cs_i S 1000 va = nI s := v2.trans e14
  refine ⟨va, rfl, v1, hJ.1, ?_⟩
  rw [es]
  refine sp_put (x := nI s) hJ (by omega) ⟨s, by omega, rfl⟩ (nar8 s (by omega)) (fun S1 σ1 J1 p1 q1 re1 => ?_)
  have pva := p1 va
  have es1 : cs_i S1 1000 va = nI s := (pva.2.2.2.2.1 1000 (fun e => absurd e hne)).trans es
  have en1 : cs_i S1 1001 va = σ.2.2.1 15 f := (pva.2.2.2.2.1 1001 (fun e => absurd e hne)).trans v3
  have f14 : σ1.2.2.1 14 f = nI s := by rw [q1.2.2.1 14 (by decide)]; exact e14
  have f15 : σ1.2.2.1 15 f = σ.2.2.1 15 f := by rw [q1.2.2.1 15 (by decide)]
  have hF : ∀ Q : rf_S → Prop, (vp_in (nI f) (rf_n 14) ∧ (¬ (σ1.2.2.1 14 f) = 0 → w_X12_putField_131 Q σ1 (nI f)) ∧ ((σ1.2.2.1 14 f) = 0 → vp_in (nI f) (rf_n 15) ∧ vp_in (nI f) (rf_n 15) ∧ (0 ≤ (σ1.2.2.1 15 f) → w_X12_putField_127 Q σ1 (nI f) ((((σ1.2.2.1 15 f).toInt64) <<< ((1 : Int32).toInt64 &&& 63)) &&& 4294967295) 0) ∧ (¬ 0 ≤ (σ1.2.2.1 15 f) → w_X12_putField_127 Q σ1 (nI f) ((((σ1.2.2.1 15 f).toInt64) <<< ((1 : Int32).toInt64 &&& 63)) &&& 4294967295) 4294967295))) → pkF Q (nI f) σ := by
    intro Q hQ
    rw [pkF, nI_clamp hf31, e14]
    exact ⟨i14, re1 _ hQ⟩
  refine ⟨pva.1.trans v1, ?_⟩
  rw [es1, en1]
  have hc3 : s = 0 ∨ s = 1 ∨ s = 2 := by omega
  have h131 : ∀ (σ2 : rf_S) (Q : rf_S → Prop), σ2.2.2.1 14 f = 0 → Q σ2 → w_X12_putField_131 Q σ2 (nI f) := by
    intro σ2 Q e hQ
    refine ⟨i14, fun _ => ⟨i14, fun _ => hQ, fun hc => ?_⟩, fun hc => ?_⟩
    · rw [nI_clamp hf31, e] at hc; exact absurd hc (by decide)
    · rw [nI_clamp hf31, e] at hc; exact absurd hc (by decide)
  rcases hc3 with rfl | rfl | rfl
  · -- INT
    obtain ⟨v, hv1, hv2, hv3, hv4, hv5⟩ := int_pk (σ.2.2.1 15 f)
    have key : ∀ w : Int64, w = Int64.ofNat v → w_X6_putValue_43 post G S1 (some rc) w := by
      intro w hw
      subst hw
      refine ⟨rc, rfl, J1.1, sp_un hv1 J1 (by omega) (fun S2 σ2 y2 J2 hy2 p2 q2 re2 => h S2 σ2 y2 J2 (by omega) (p1.trans p2) (q1.trans q2) (fun Q hQ => hF Q ⟨i14, fun hc => absurd f14 hc, fun _ => ⟨i15, i15, fun hc => ?_, fun hc => ?_⟩⟩))⟩
      · show wp_X12_putUnsigned _ σ1 _
        rw [f15] at hc ⊢
        rw [hv4 hc]
        exact re2 _ (h131 σ2 Q (by rw [q2.2.2.1 14 (by decide)]; exact f14) hQ)
      · show wp_X12_putUnsigned _ σ1 _
        rw [f15] at hc ⊢
        rw [hv5 hc]
        exact re2 _ (h131 σ2 Q (by rw [q2.2.2.1 14 (by decide)]; exact f14) hQ)
    exact ⟨fun hc => absurd rfl hc, fun _ => ⟨fun hc => key _ (hv2 hc), fun hc => key _ (hv3 hc)⟩⟩
  · -- TEXT
    rcases v10 with ⟨b1, b2, o, b3, b4, b5⟩ | ⟨b1 | b1, -⟩
    · have ptx := p1 tx
      refine ⟨fun _ => ⟨fun _ r37 e37 => ⟨tx, by rw [e37, pva.2.2.2.1]; exact v4, ptx.1.trans v5, J1.1, ?_⟩, fun hc => absurd hc (by decide)⟩, fun hc => absurd hc (by decide)⟩
      rw [ptx.2.1, v6]
      refine sp_put (x := nI L) J1 (by omega) ⟨L, by omega, rfl⟩ (nar8 L (by omega)) (fun S2 σ2 J2 p2 q2 re2 => ?_)
      have pva2 := p2 va
      have ptx2 := p2 tx
      refine ⟨pva2.1.trans (pva.1.trans v1), fun r43 e43 => ⟨tx, by rw [e43, pva2.2.2.2.1, pva.2.2.2.1]; exact v4, ptx2.1.trans (ptx.1.trans v5), L + 1, ?_⟩⟩
      have hai : ∀ j, cs_ai S2 tx j = cs_ai S tx j := fun j => ((ptx2.2.2.2.2.2.2.2 htp) j).trans ((ptx.2.2.2.2.2.2.2 htp) j)
      have q12 := q1.trans q2
      rw [ptx2.2.1, ptx.2.1, v6]
      refine sp_tx (L := L) (o := o) hf v7 (by omega) htp L 0 S2 σ2 (y + 1 + 1) (by omega) J2 (by omega) (ptx2.1.trans (ptx.1.trans v5)) (ptx2.2.1.trans (ptx.2.1.trans v6)) (fun j hj => by rw [hai]; exact v9 j hj) (by rw [q12.2.2.1 15 (by decide)]; exact b2) (by rw [q12.2.2.1 16 (by decide)]; exact b3) (fun j hj => by rw [q12.2.2.1 18 (by decide), hai]; exact b5 j hj) (fun S3 σ3 J3 p3 q3 re3 => h S3 σ3 _ J3 (by omega) ((p1.trans p2).trans p3) (q12.trans q3) (fun Q hQ => hF Q ⟨i14, fun _ => ⟨i14, fun hc => ?_, fun _ => ⟨i15, ?_⟩⟩, fun hc => ?_⟩))
      · rw [nI_clamp hf31, f14] at hc; exact absurd rfl hc
      · rw [nI_clamp hf31, f15, b2]
        refine re2 _ ⟨L + 1, re3 Q ⟨i14, fun _ => hQ, fun hc => ?_⟩⟩
        rw [nI_clamp hf31, (q12.trans q3).2.2.1 14 (by decide), e14] at hc
        exact absurd hc (by decide)
      · rw [f14] at hc; exact absurd hc (by decide)
    · rw [b1] at e14; exact absurd e14 (by decide)
    · rw [b1] at e14; exact absurd e14 (by decide)
  · -- ADDRESS
    refine ⟨fun _ => ⟨fun hc => absurd rfl hc, fun _ => ⟨5, ?_⟩⟩, fun hc => absurd hc (by decide)⟩
    have hk1 : cs_k S1 va = 11 := pva.1.trans v1
    refine ⟨fun hc => absurd hc (by decide), fun _ => ⟨va, rfl, hk1, J1.1, ?_⟩⟩
    rw [en1]
    refine sp_put (x := (σ.2.2.1 15 f) >>> ((24 : Int32) &&& 31)) J1 (by omega) (b255 _) (jb24 _).symm (fun S2 σ2 J2 p2 q2 re2 => ?_)
    have en2 : cs_i S2 1001 va = σ.2.2.1 15 f := ((p2 va).2.2.2.2.1 1001 (fun e => absurd e hne)).trans en1
    refine ⟨fun hc => absurd hc (by decide), fun _ => ⟨va, rfl, (p2 va).1.trans hk1, J2.1, ?_⟩⟩
    rw [en2]
    refine sp_put (x := (σ.2.2.1 15 f) >>> ((16 : Int32) &&& 31)) J2 (by omega) (b255 _) (jb16 _).symm (fun S3 σ3 J3 p3 q3 re3 => ?_)
    have en3 : cs_i S3 1001 va = σ.2.2.1 15 f := ((p3 va).2.2.2.2.1 1001 (fun e => absurd e hne)).trans en2
    refine ⟨fun hc => absurd hc (by decide), fun _ => ⟨va, rfl, (p3 va).1.trans ((p2 va).1.trans hk1), J3.1, ?_⟩⟩
    rw [en3]
    refine sp_put (x := (σ.2.2.1 15 f) >>> ((8 : Int32) &&& 31)) J3 (by omega) (b255 _) (jb8 _).symm (fun S4 σ4 J4 p4 q4 re4 => ?_)
    have en4 : cs_i S4 1001 va = σ.2.2.1 15 f := ((p4 va).2.2.2.2.1 1001 (fun e => absurd e hne)).trans en3
    refine ⟨fun hc => absurd hc (by decide), fun _ => ⟨va, rfl, (p4 va).1.trans ((p3 va).1.trans ((p2 va).1.trans hk1)), J4.1, ?_⟩⟩
    rw [en4]
    refine sp_put (x := (σ.2.2.1 15 f) >>> ((0 : Int32) &&& 31)) J4 (by omega) (b255 _) (jb0 _).symm (fun S5 σ5 J5 p5 q5 re5 => ?_)
    have qq2 := q1.trans q2
    have qq3 := qq2.trans q3
    have qq4 := qq3.trans q4
    have qq5 := qq4.trans q5
    refine ⟨fun _ => h S5 σ5 _ J5 (by omega) ((((p1.trans p2).trans p3).trans p4).trans p5) qq5 (fun Q hQ => hF Q ⟨i14, fun _ => ⟨i14, fun _ => ⟨i14, fun hc => ?_, fun _ => ⟨5, ?_⟩⟩, fun hc => ?_⟩, fun hc => ?_⟩), fun hc => absurd (by decide) hc⟩
    · rw [nI_clamp hf31, f14] at hc; exact absurd rfl hc
    · refine ⟨fun hc => absurd hc (by decide), fun _ => ⟨i15, ?_⟩⟩
      rw [nI_clamp hf31, f15]
      refine re2 _ ⟨fun hc => absurd hc (by decide), fun _ => ⟨i15, ?_⟩⟩
      rw [nI_clamp hf31, qq2.2.2.1 15 (by decide)]
      refine re3 _ ⟨fun hc => absurd hc (by decide), fun _ => ⟨i15, ?_⟩⟩
      rw [nI_clamp hf31, qq3.2.2.1 15 (by decide)]
      refine re4 _ ⟨fun hc => absurd hc (by decide), fun _ => ⟨i15, ?_⟩⟩
      rw [nI_clamp hf31, qq4.2.2.1 15 (by decide)]
      exact re5 _ ⟨fun _ => hQ, fun hc => absurd (by decide) hc⟩
    · rw [nI_clamp hf31, f14] at hc; exact absurd hc (by decide)
    · rw [f14] at hc; exact absurd hc (by decide)
end PV
