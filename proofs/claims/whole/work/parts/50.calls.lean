/-! ===== class against reference: what lies outside the log ===== -/
/-- a change of the class's heap that leaves the log as it is: the tape, the scanner's and packer's rows, the object's own numbers, the law's box, what is new -/
def jn (xo sc rc tp kd pl am pk ob : Nat) (S S' : cs_S) : Prop :=
  (∀ a, cs_k S a ≠ 0 → cs_k S' a = cs_k S a ∧ cs_n S' a = cs_n S a) ∧
  (∀ f a, cs_k S a ≠ 0 → a ≠ xo → a ≠ sc → a ≠ rc → cs_i S' f a = cs_i S f a ∧ cs_l S' f a = cs_l S f a ∧ cs_r S' f a = cs_r S f a) ∧
  (∀ a j, cs_k S a ≠ 0 → a ≠ tp → a ≠ kd → a ≠ pl → a ≠ pk → cs_ai S' a j = cs_ai S a j) ∧
  (∀ a j, cs_k S a ≠ 0 → a ≠ am → a ≠ ob → cs_al S' a j = cs_al S a j) ∧
  (∀ a j, cs_k S a ≠ 0 → cs_ar S' a j = cs_ar S a j)
/-- .. and one of the reference's state -/
def jr_i (k : Nat) : Bool := decide (k = 0 ∨ k = 2 ∨ k = 3 ∨ k = 4 ∨ k = 5 ∨ k = 6 ∨ k = 7 ∨ k = 28 ∨ k = 31 ∨ k = 54 ∨ k = 55 ∨ k = 56 ∨ k = 57 ∨ k = 60 ∨ k = 61 ∨ k = 85)
def jr (σ σ' : rf_S) : Prop :=
  (∀ k, jr_i k = false → σ'.1 k = σ.1 k) ∧ (∀ k, k ≠ 27 → k ≠ 29 → k ≠ 30 → k ≠ 58 → σ'.2.1 k = σ.2.1 k) ∧
  (∀ k j, k ≠ 1 → k ≠ 62 → k ≠ 84 → σ'.2.2.1 k j = σ.2.2.1 k j) ∧ (∀ k j, σ'.2.2.2 k j = σ.2.2.2 k j)
theorem jn.rfl {xo sc rc tp kd pl am pk ob : Nat} {S : cs_S} : jn xo sc rc tp kd pl am pk ob S S := ⟨fun _ _ => ⟨Eq.refl _, Eq.refl _⟩, fun _ _ _ _ _ _ => ⟨Eq.refl _, Eq.refl _, Eq.refl _⟩, fun _ _ _ _ _ _ _ => Eq.refl _, fun _ _ _ _ _ => Eq.refl _, fun _ _ _ => Eq.refl _⟩
theorem jn.trans {xo sc rc tp kd pl am pk ob : Nat} {S S1 S2 : cs_S} (h : jn xo sc rc tp kd pl am pk ob S S1) (g : jn xo sc rc tp kd pl am pk ob S1 S2) : jn xo sc rc tp kd pl am pk ob S S2 := by
  have hk : ∀ a, cs_k S a ≠ 0 → cs_k S1 a ≠ 0 := fun a ha => by rw [(h.1 a ha).1]; exact ha
  refine ⟨fun a ha => ⟨((g.1 a (hk a ha)).1).trans (h.1 a ha).1, ((g.1 a (hk a ha)).2).trans (h.1 a ha).2⟩, fun f a ha b1 b2 b3 => ?_, fun a j ha b1 b2 b3 b4 => (g.2.2.1 a j (hk a ha) b1 b2 b3 b4).trans (h.2.2.1 a j ha b1 b2 b3 b4), fun a j ha b1 b2 => (g.2.2.2.1 a j (hk a ha) b1 b2).trans (h.2.2.2.1 a j ha b1 b2), fun a j ha => (g.2.2.2.2 a j (hk a ha)).trans (h.2.2.2.2 a j ha)⟩
  have h1 := h.2.1 f a ha b1 b2 b3
  have g1 := g.2.1 f a (hk a ha) b1 b2 b3
  exact ⟨g1.1.trans h1.1, g1.2.1.trans h1.2.1, g1.2.2.trans h1.2.2⟩
theorem jr.rfl {σ : rf_S} : jr σ σ := ⟨fun _ _ => Eq.refl _, fun _ _ _ _ _ => Eq.refl _, fun _ _ _ _ _ => Eq.refl _, fun _ _ => Eq.refl _⟩
theorem jr.trans {σ σ1 σ2 : rf_S} (h : jr σ σ1) (g : jr σ1 σ2) : jr σ σ2 :=
  ⟨fun k hk => (g.1 k hk).trans (h.1 k hk), fun k a b c d => (g.2.1 k a b c d).trans (h.2.1 k a b c d), fun k j a b c => (g.2.2.1 k j a b c).trans (h.2.2.1 k j a b c), fun k j => (g.2.2.2 k j).trans (h.2.2.2 k j)⟩
theorem jr.ui {σ : rf_S} {f : Nat} {x : Int32} (hf : jr_i f = true) : jr σ (rf_ui σ f x) := by
  refine ⟨fun k hk => ?_, fun _ _ _ _ _ => Eq.refl _, fun _ _ _ _ _ => Eq.refl _, fun _ _ => Eq.refl _⟩
  have hne : k ≠ f := fun e => by rw [e, hf] at hk; cases hk
  rw [r1ui, if_neg hne]
theorem jr.ua {σ : rf_S} {f j : Nat} {x : Int32} (hf : f = 1 ∨ f = 62 ∨ f = 84) : jr σ (rf_ua σ f j x) := by
  refine ⟨fun _ _ => Eq.refl _, fun _ _ _ _ _ => Eq.refl _, fun k m h1 h2 h3 => ?_, fun _ _ => Eq.refl _⟩
  have hne : ¬ (k = f ∧ m = j) := fun e => by
    have := e.1
    omega
  rw [r3ua, if_neg hne]
theorem jn.ui {xo sc rc tp kd pl am pk ob : Nat} {S : cs_S} {f a : Nat} {x : Int32} (ha : a = xo ∨ a = sc ∨ a = rc) : jn xo sc rc tp kd pl am pk ob S (cs_ui S f a x) := by
  refine ⟨fun _ _ => ⟨Eq.refl _, Eq.refl _⟩, fun g b hb b1 b2 b3 => ⟨?_, Eq.refl _, Eq.refl _⟩, fun _ _ _ _ _ _ _ => Eq.refl _, fun _ _ _ _ _ => Eq.refl _, fun _ _ _ => Eq.refl _⟩
  have hne : ¬ (g = f ∧ b = a) := fun e => by
    rcases ha with h | h | h
    · exact b1 (e.2.trans h)
    · exact b2 (e.2.trans h)
    · exact b3 (e.2.trans h)
  rw [iui, if_neg hne]
theorem jn.uai {xo sc rc tp kd pl am pk ob : Nat} {S : cs_S} {a j : Nat} {x : Int32} (ha : a = tp ∨ a = kd ∨ a = pl ∨ a = pk) : jn xo sc rc tp kd pl am pk ob S (cs_uai S a j x) := by
  refine ⟨fun _ _ => ⟨Eq.refl _, Eq.refl _⟩, fun g b hb b1 b2 b3 => ⟨Eq.refl _, Eq.refl _, Eq.refl _⟩, fun b m hb b1 b2 b3 b4 => ?_, fun _ _ _ _ _ => Eq.refl _, fun _ _ _ => Eq.refl _⟩
  have hne : ¬ (b = a ∧ m = j) := fun e => by
    rcases ha with h | h | h | h
    · exact b1 (e.1.trans h)
    · exact b2 (e.1.trans h)
    · exact b3 (e.1.trans h)
    · exact b4 (e.1.trans h)
  rw [aiuai, if_neg hne]
theorem jn.ual {xo sc rc tp kd pl am pk ob : Nat} {S : cs_S} {a j : Nat} {x : Int64} (ha : a = am ∨ a = ob) : jn xo sc rc tp kd pl am pk ob S (cs_ual S a j x) := by
  refine ⟨fun _ _ => ⟨Eq.refl _, Eq.refl _⟩, fun g b hb b1 b2 b3 => ⟨Eq.refl _, Eq.refl _, Eq.refl _⟩, fun _ _ _ _ _ _ _ => Eq.refl _, fun b m hb b1 b2 => ?_, fun _ _ _ => Eq.refl _⟩
  have hne : ¬ (b = a ∧ m = j) := fun e => by
    rcases ha with h | h
    · exact b1 (e.1.trans h)
    · exact b2 (e.1.trans h)
  rw [alual, if_neg hne]
/-- the tape: as long, and the same bytes -/
def jX_t (S : cs_S) (σ : rf_S) (xo tp z : Nat) : Prop := cs_i S 1201 xo = nI z ∧ z ≤ 2100 ∧ σ.1 2 = nI z ∧ ∀ j, j < z → cs_ai S tp j = σ.2.2.1 1 j &&& 255
/-- fault and place; what is packed -/
def jX_p (S : cs_S) (σ : rf_S) (xo rc pk y : Nat) : Prop := cs_i S 1202 xo = σ.1 5 ∧ cs_i S 1203 xo = σ.1 7 ∧ cs_i S 703 rc = nI y ∧ y ≤ 301 ∧ σ.1 85 = nI y ∧ ∀ j, j < y → cs_ai S pk j = σ.2.2.1 84 j &&& 255
/-- what count tells of the log -/
def jX_w (S : cs_S) (σ : rf_S) (wt : Nat) : Prop := cs_i S 1101 wt = σ.1 33 ∧ cs_i S 1104 wt = σ.1 19 ∧ cs_i S 1105 wt = σ.1 23 ∧ cs_i S 1106 wt = σ.1 78 ∧ cs_i S 1107 wt = σ.1 79 ∧ cs_i S 1108 wt = σ.1 21
/-- the law's own box -/
def jX_o (S : cs_S) (ob am rv : Nat) : Prop := cs_k S ob = 21 ∧ cs_n S ob = 1 ∧ ob ≠ am ∧ ob ≠ rv
section JX
variable {G : Nat → Nat} {xo ob tp sc kd pl am rv rc pk : Nat} {S S' : cs_S} {σ σ' : rf_S} {JL : Nat → cs_S → rf_S → Prop} {Cm Sm i u v : Nat} {xs : Nat → Int32} {K : cs_S → rf_S → Nat → Nat → Prop}
/-- class and reference, JL being the log's part -/
def jX (JL : Nat → cs_S → rf_S → Prop) (G : Nat → Nat) (xo ob tp sc kd pl am rv rc pk : Nat) (S : cs_S) (σ : rf_S) : Prop :=
  ∃ wt z y, cf_C G S xo tp sc kd pl am rv rc pk wt ∧ jX_t S σ xo tp z ∧ jX_p S σ xo rc pk y ∧ jX_w S σ wt ∧ jX_o S ob am rv ∧ JL wt S σ
/-- the log's part looks at nothing else -/
def jN (JL : Nat → cs_S → rf_S → Prop) (xo ob tp sc kd pl am rc pk : Nat) : Prop := ∀ wt S S' σ σ', jn xo sc rc tp kd pl am pk ob S S' → jr σ σ' → JL wt S σ → JL wt S' σ'
theorem jX.thr (hN : jN JL xo ob tp sc kd pl am rc pk) (h : jX JL G xo ob tp sc kd pl am rv rc pk S σ) (c : Int32) : jX JL G xo ob tp sc kd pl am rv rc pk S (rf_ui σ 0 c) := by
  obtain ⟨wt, z, y, hC, ht, hp, hw, ho, hL⟩ := h
  exact ⟨wt, z, y, hC, ht, hp, hw, ho, hN wt S S σ _ jn.rfl (jr.ui rfl) hL⟩
theorem jX_fault (hN : jN JL xo ob tp sc kd pl am rc pk) (h : jX JL G xo ob tp sc kd pl am rv rc pk S σ) (kk : ∀ S σ, jX JL G xo ob tp sc kd pl am rv rc pk S σ → K S σ u v) : lw_fault Cm Sm xs G xo ob i K S σ u v := by
  obtain ⟨wt, z, y, hC, ht, hp, hw, ho, hL⟩ := id h
  exact ⟨hC.1.1, hp.1, kk _ _ (h.thr hN 0)⟩
theorem jX_place (hN : jN JL xo ob tp sc kd pl am rc pk) (h : jX JL G xo ob tp sc kd pl am rv rc pk S σ) (kk : ∀ S σ, jX JL G xo ob tp sc kd pl am rv rc pk S σ → K S σ u v) : lw_place Cm Sm xs G xo ob i K S σ u v := by
  obtain ⟨wt, z, y, hC, ht, hp, hw, ho, hL⟩ := id h
  exact ⟨hC.1.1, hp.2.1, kk _ _ (h.thr hN 0)⟩
theorem jX_count (hN : jN JL xo ob tp sc kd pl am rc pk) (h : jX JL G xo ob tp sc kd pl am rv rc pk S σ) (kk : ∀ S σ, jX JL G xo ob tp sc kd pl am rv rc pk S σ → K S σ u v) : lw_count Cm Sm xs G xo ob i K S σ u v := by
  obtain ⟨wt, z, y, hC, ht, hp, ⟨w1, w2, w3, w4, w5, w6⟩, ho, hL⟩ := id h
  obtain ⟨⟨a1, a2, a3, a4, a5⟩, -, -, -, ⟨e1, -⟩, ⟨f1, -⟩, -⟩ := id hC
  have hk := kk _ _ (h.thr hN 0)
  refine ⟨fun hc => ⟨fun _ => ⟨rfl, hk⟩, ?_⟩, fun hc => ⟨a1, fun r e => ⟨wt, e.trans a5, f1, ?_⟩⟩, fun hc => ⟨a1, fun r e => ⟨wt, e.trans a5, f1, ?_⟩⟩, fun hc => ⟨a1, fun r e => ⟨wt, e.trans a5, f1, ?_⟩⟩, fun hc => ⟨a1, fun r e => ⟨wt, e.trans a5, f1, ?_⟩⟩, fun hc => ⟨a1, fun r e => ⟨wt, e.trans a5, f1, ?_⟩⟩, fun hc => ⟨a1, fun r e => ⟨wt, e.trans a5, f1, ?_⟩⟩, fun hc => ⟨a1, ?_⟩, fun hc => ⟨a1, fun r e => ⟨rc, e.trans a4, e1, ?_⟩⟩⟩
  · exact ⟨fun h => by omega, fun h => by omega, fun h => by omega, fun h => by omega, fun h => by omega, fun h => by omega, fun h => by omega, fun h => by omega⟩
  · exact ⟨fun h => by omega, fun _ => ⟨w1, hk⟩, fun h => by omega, fun h => by omega, fun h => by omega, fun h => by omega, fun h => by omega, fun h => by omega, fun h => by omega⟩
  · exact ⟨fun h => by omega, fun h => by omega, fun _ => ⟨w2, hk⟩, fun h => by omega, fun h => by omega, fun h => by omega, fun h => by omega, fun h => by omega, fun h => by omega⟩
  · exact ⟨fun h => by omega, fun h => by omega, fun h => by omega, fun _ => ⟨w3, hk⟩, fun h => by omega, fun h => by omega, fun h => by omega, fun h => by omega, fun h => by omega⟩
  · exact ⟨fun h => by omega, fun h => by omega, fun h => by omega, fun h => by omega, fun _ => ⟨w4, hk⟩, fun h => by omega, fun h => by omega, fun h => by omega, fun h => by omega⟩
  · exact ⟨fun h => by omega, fun h => by omega, fun h => by omega, fun h => by omega, fun h => by omega, fun _ => ⟨w5, hk⟩, fun h => by omega, fun h => by omega, fun h => by omega⟩
  · exact ⟨fun h => by omega, fun h => by omega, fun h => by omega, fun h => by omega, fun h => by omega, fun h => by omega, fun _ => ⟨w6, hk⟩, fun h => by omega, fun h => by omega⟩
  · exact ⟨fun h => by omega, fun h => by omega, fun h => by omega, fun h => by omega, fun h => by omega, fun h => by omega, fun h => by omega, fun _ => ⟨ht.1.trans ht.2.2.1.symm, hk⟩, fun h => by omega⟩
  · exact ⟨fun h => by omega, fun h => by omega, fun h => by omega, fun h => by omega, fun h => by omega, fun h => by omega, fun h => by omega, fun h => by omega, fun _ => ⟨hp.2.2.1.trans hp.2.2.2.2.1.symm, hk⟩⟩
theorem jX_end (hN : jN JL xo ob tp sc kd pl am rc pk) (h : jX JL G xo ob tp sc kd pl am rv rc pk S σ) (kk : ∀ S σ, jX JL G xo ob tp sc kd pl am rv rc pk S σ → K S σ u v) : lw_end Cm Sm xs G xo ob i K S σ u v := by
  obtain ⟨wt, z, y, hC, ht, hp, hw, ho, hL⟩ := id h
  have hk := kk _ _ (h.thr hN 0)
  have e12 : cs_i S 1201 xo = σ.1 2 := ht.1.trans ht.2.2.1.symm
  refine ⟨fun hc => ⟨fun _ => ⟨rfl, hk⟩, fun h => absurd hc h⟩, fun hc => ⟨hC.1.1, fun hd S4 e4 => ⟨fun h => absurd h hc, fun _ => ⟨fun _ => ⟨rfl, ?_⟩, fun h => absurd (by rw [← e12]; exact hd) h⟩⟩, fun hd => ⟨fun h => absurd h hc, fun _ => ⟨fun h => absurd (by rw [e12]; exact h) hd, fun _ => ⟨rfl, hk⟩⟩⟩⟩⟩
  subst e4
  have h0 : (0 : Int) ≤ (xs (i + 1)).toInt := by
    have := Int32.not_lt.mp hc
    simpa using Int32.le_iff_toInt_le.mp this
  have hz := ht.2.1
  rw [ht.1] at hd
  have hd2 := Int32.le_iff_toInt_le.mp hd
  rw [nI_toInt (by omega)] at hd2
  obtain ⟨w, hw9⟩ : ∃ w : Nat, (xs (i + 1)).toInt = (w : Int) := ⟨(xs (i + 1)).toInt.toNat, by omega⟩
  have ew : xs (i + 1) = nI w := by
    apply Int32.toInt_inj.mp
    rw [hw9, nI_toInt (by omega)]
  refine kk _ _ ⟨wt, w, y, hC, ⟨?_, by omega, ?_, fun j hj => ht.2.2.2 j (by omega)⟩, ⟨?_, ?_, ?_, hp.2.2.2.1, hp.2.2.2.2.1, hp.2.2.2.2.2⟩, ?_, ho, hN wt S _ σ _ (jn.ui (Or.inl rfl)) ((jr.ui rfl).trans (jr.ui rfl)) hL⟩
  · rw [iui, if_pos ⟨rfl, rfl⟩, ew]
  · rw [r1ui, if_pos rfl, ew]
  · rw [iui, if_neg (fun h => absurd h.1 (by decide))]; exact hp.1
  · rw [iui, if_neg (fun h => absurd h.1 (by decide))]; exact hp.2.1
  · rw [iui, if_neg (fun h => absurd h.1 (by decide))]; exact hp.2.2.1
  · exact hw
end JX
/-! feed: byte by byte -/
theorem jb255 : ∀ (i : Nat) (h : i < 32), (255#32)[i] = decide (i < 8) := by decide
theorem jb24 (a : Int32) : ((a.toUInt32 >>> ((24:Int32).toUInt32 &&& Int32.toUInt32 31)).toInt32) &&& 255 = ((a >>> ((24:Int32) &&& 31)).toInt8.toInt32).toInt8.toInt32 &&& 255 := by
  apply Int32.toBitVec_inj.mp
  rw [show ((24:Int32).toUInt32 &&& Int32.toUInt32 31) = 24 from by decide, show ((24:Int32) &&& 31) = 24 from by decide]
  ext i hi
  by_cases h8 : i < 8
  · have h9 : 24 + i < 32 := by omega
    simp [BitVec.getElem_signExtend, BitVec.getElem_sshiftRight, jb255, h8, hi, h9, BitVec.getLsbD_eq_getElem]
  · simp [BitVec.getElem_signExtend, jb255, h8]
theorem jb16 (a : Int32) : ((a.toUInt32 >>> ((16:Int32).toUInt32 &&& Int32.toUInt32 31)).toInt32) &&& 255 = ((a >>> ((16:Int32) &&& 31)).toInt8.toInt32).toInt8.toInt32 &&& 255 := by
  apply Int32.toBitVec_inj.mp
  rw [show ((16:Int32).toUInt32 &&& Int32.toUInt32 31) = 16 from by decide, show ((16:Int32) &&& 31) = 16 from by decide]
  ext i hi
  by_cases h8 : i < 8
  · have h9 : 16 + i < 32 := by omega
    simp [BitVec.getElem_signExtend, BitVec.getElem_sshiftRight, jb255, h8, hi, h9, BitVec.getLsbD_eq_getElem]
  · simp [BitVec.getElem_signExtend, jb255, h8]
theorem jb8 (a : Int32) : ((a.toUInt32 >>> ((8:Int32).toUInt32 &&& Int32.toUInt32 31)).toInt32) &&& 255 = ((a >>> ((8:Int32) &&& 31)).toInt8.toInt32).toInt8.toInt32 &&& 255 := by
  apply Int32.toBitVec_inj.mp
  rw [show ((8:Int32).toUInt32 &&& Int32.toUInt32 31) = 8 from by decide, show ((8:Int32) &&& 31) = 8 from by decide]
  ext i hi
  by_cases h8 : i < 8
  · have h9 : 8 + i < 32 := by omega
    simp [BitVec.getElem_signExtend, BitVec.getElem_sshiftRight, jb255, h8, hi, h9, BitVec.getLsbD_eq_getElem]
  · simp [BitVec.getElem_signExtend, jb255, h8]
theorem jb0 (a : Int32) : ((a.toUInt32 >>> ((0:Int32).toUInt32 &&& Int32.toUInt32 31)).toInt32) &&& 255 = ((a >>> ((0:Int32) &&& 31)).toInt8.toInt32).toInt8.toInt32 &&& 255 := by
  apply Int32.toBitVec_inj.mp
  rw [show ((0:Int32).toUInt32 &&& Int32.toUInt32 31) = 0 from by decide, show ((0:Int32) &&& 31) = 0 from by decide]
  ext i hi
  by_cases h8 : i < 8
  · simp [BitVec.getElem_signExtend, jb255, h8, hi]
  · simp [BitVec.getElem_signExtend, jb255, h8]
theorem jb_nar (x : Int32) : vp_nar .byte x = x.toInt8.toInt32 := rfl
theorem jb_24 (a : Int32) : pfb a 24 = rf4b a 24 &&& 255 := jb24 a
theorem jb_16 (a : Int32) : pfb a 16 = rf4b a 16 &&& 255 := jb16 a
theorem jb_8 (a : Int32) : pfb a 8 = rf4b a 8 &&& 255 := jb8 a
theorem jb_0 (a : Int32) : pfb a 0 = rf4b a 0 &&& 255 := jb0 a
def jQ (S : cs_S) (σ : rf_S) (xo tp rc pk wt z y : Nat) : Prop := jX_t S σ xo tp z ∧ jX_p S σ xo rc pk y ∧ jX_w S σ wt
theorem jQ.up {S : cs_S} {σ : rf_S} {xo tp rc pk wt z y : Nat} {x b : Int32} (h : jQ S σ xo tp rc pk wt z y) (h1 : pk ≠ tp) (h2 : rc ≠ xo) (h3 : wt ≠ xo) (hz : z < 2100) (hx : x = b &&& 255) : jQ (pf1 S xo tp z x) (rf1 σ z b) xo tp rc pk wt (z + 1) y := by
  obtain ⟨⟨t1, t2, t3, t4⟩, ⟨p1, p2, p3, p4, p5, p6⟩, ⟨w1, w2, w3, w4, w5, w6⟩⟩ := h
  have ei : ∀ f a, ¬ (f = 1201 ∧ a = xo) → cs_i (pf1 S xo tp z x) f a = cs_i S f a := fun f a hn => by
    show cs_i (cs_ui (cs_uai S tp z x) 1201 xo _) f a = _
    rw [iui, if_neg hn, iuai]
  have ea : ∀ a j, cs_ai (pf1 S xo tp z x) a j = if a = tp ∧ j = z then x else cs_ai S a j := fun a j => rfl
  have er : ∀ f j, (rf1 σ z b).2.2.1 f j = if f = 1 ∧ j = z then b else σ.2.2.1 f j := fun f j => by
    show (rf_ui (rf_ua σ 1 z b) 2 _).2.2.1 f j = _
    rw [r3ui, r3ua]
  have e1 : ∀ k, k ≠ 2 → (rf1 σ z b).1 k = σ.1 k := fun k hk => by
    show (rf_ui (rf_ua σ 1 z b) 2 _).1 k = _
    rw [r1ui, if_neg hk, r1ua]
  refine ⟨⟨by show cs_i (cs_ui (cs_uai S tp z x) 1201 xo _) 1201 xo = _; rw [iui, if_pos ⟨rfl, rfl⟩], by omega, by show (rf_ui (rf_ua σ 1 z b) 2 _).1 2 = _; rw [r1ui, if_pos rfl], fun j hj => ?_⟩, ⟨?_, ?_, ?_, p4, ?_, fun j hj => ?_⟩, ?_, ?_, ?_, ?_, ?_, ?_⟩
  · rw [ea, er]
    by_cases hj2 : j = z
    · rw [if_pos ⟨rfl, hj2⟩, if_pos ⟨rfl, hj2⟩]
      exact hx
    · rw [if_neg (fun q => hj2 q.2), if_neg (fun q => hj2 q.2)]
      exact t4 j (by omega)
  · rw [ei _ _ (fun q => absurd q.1 (by decide)), e1 _ (by decide)]; exact p1
  · rw [ei _ _ (fun q => absurd q.1 (by decide)), e1 _ (by decide)]; exact p2
  · rw [ei _ _ (fun q => absurd q.1 (by decide))]; exact p3
  · rw [e1 _ (by decide)]; exact p5
  · rw [ea, er, if_neg (fun q => h1 q.1), if_neg (fun q => absurd q.1 (by decide))]
    exact p6 j hj
  · rw [ei _ _ (fun q => absurd q.1 (by decide)), e1 _ (by decide)]; exact w1
  · rw [ei _ _ (fun q => absurd q.1 (by decide)), e1 _ (by decide)]; exact w2
  · rw [ei _ _ (fun q => absurd q.1 (by decide)), e1 _ (by decide)]; exact w3
  · rw [ei _ _ (fun q => absurd q.1 (by decide)), e1 _ (by decide)]; exact w4
  · rw [ei _ _ (fun q => absurd q.1 (by decide)), e1 _ (by decide)]; exact w5
  · rw [ei _ _ (fun q => absurd q.1 (by decide)), e1 _ (by decide)]; exact w6
theorem jQ.up4 {S : cs_S} {σ : rf_S} {xo tp rc pk wt z y : Nat} {a : Int32} (h : jQ S σ xo tp rc pk wt z y) (h1 : pk ≠ tp) (h2 : rc ≠ xo) (h3 : wt ≠ xo) (hz : z + 4 ≤ 2100) : jQ (pf4 S xo tp z a) (rf4 σ z a) xo tp rc pk wt (z + 4) y :=
  (((h.up h1 h2 h3 (by omega) (jb_24 a)).up h1 h2 h3 (by omega) (jb_16 a)).up h1 h2 h3 (by omega) (jb_8 a)).up h1 h2 h3 (by omega) (jb_0 a)
section JY
variable {G : Nat → Nat} {xo ob tp sc kd pl am rv rc pk : Nat} {S S' : cs_S} {σ σ' : rf_S} {JL : Nat → cs_S → rf_S → Prop} {Cm Sm i u v : Nat} {xs : Nat → Int32} {K : cs_S → rf_S → Nat → Nat → Prop}
theorem jn.pf4 {z : Nat} {a : Int32} : jn xo sc rc tp kd pl am pk ob S (pf4 S xo tp z a) := by
  have h : ∀ (S : cs_S) (z : Nat) (x : Int32), jn xo sc rc tp kd pl am pk ob S (pf1 S xo tp z x) := fun S z x => (jn.uai (Or.inl (Eq.refl _))).trans (jn.ui (Or.inl (Eq.refl _)))
  exact (((h _ _ _).trans (h _ _ _)).trans (h _ _ _)).trans (h _ _ _)
theorem jr.rf4 {z : Nat} {a : Int32} : jr σ (rf4 σ z a) := by
  have h : ∀ (σ : rf_S) (z : Nat) (x : Int32), jr σ (rf1 σ z x) := fun σ z x => (jr.ua (Or.inl (Eq.refl _))).trans (jr.ui (Eq.refl _))
  exact (((h _ _ _).trans (h _ _ _)).trans (h _ _ _)).trans (h _ _ _)
theorem cf_C.pf4 {wt z : Nat} {a : Int32} (h : cf_C G S xo tp sc kd pl am rv rc pk wt) : cf_C G (pf4 S xo tp z a) xo tp sc kd pl am rv rc pk wt := by
  have h1 : ∀ (S : cs_S) (z : Nat) (x : Int32), cf_C G S xo tp sc kd pl am rv rc pk wt → cf_C G (pf1 S xo tp z x) xo tp sc kd pl am rv rc pk wt := fun S z x h => h
  exact h1 _ _ _ (h1 _ _ _ (h1 _ _ _ (h1 _ _ _ h)))
theorem jX_o.pf4 {z : Nat} {a : Int32} (h : jX_o S ob am rv) : jX_o (pf4 S xo tp z a) ob am rv := by
  have h1 : ∀ (S : cs_S) (z : Nat) (x : Int32), jX_o S ob am rv → jX_o (pf1 S xo tp z x) ob am rv := fun S z x h => h
  exact h1 _ _ _ (h1 _ _ _ (h1 _ _ _ (h1 _ _ _ h)))
theorem jX_feed (hN : jN JL xo ob tp sc kd pl am rc pk) (h : jX JL G xo ob tp sc kd pl am rv rc pk S σ) (kk : ∀ S σ, jX JL G xo ob tp sc kd pl am rv rc pk S σ → K S σ u v) : lw_feed Cm Sm xs G xo ob i K S σ u v := by
  obtain ⟨wt, z, y, hC, ht, hp, hw, ho, hL⟩ := id h
  obtain ⟨⟨a1, a2, a3, a4, a5⟩, ⟨b1, b2⟩, -, -, ⟨e1, e2, e3, e4⟩, ⟨f1, -⟩, g⟩ := id hC
  by_cases hz : z + 20 ≤ 2100
  · have hpk : pk ≠ tp := fun e => g.2.2.1 e.symm
    have hrc : rc ≠ xo := fun e => by rw [e, a1] at e1; cases e1
    have hwt : wt ≠ xo := fun e => by rw [e, a1] at f1; cases f1
    refine pf_feed ⟨a1, a2, b1, b2, ht.1⟩ hz (rf_feed ht.2.2.1 hz ⟨rfl, kk _ _ ?_⟩)
    have q0 : jQ S (rf_ui σ 0 0) xo tp rc pk wt z y := ⟨ht, hp, hw⟩
    have q := ((((q0.up4 (a := xs (i + 1)) hpk hrc hwt (by omega)).up4 (a := xs (i + 2)) hpk hrc hwt (by omega)).up4 (a := xs (i + 3)) hpk hrc hwt (by omega)).up4 (a := xs (i + 4)) hpk hrc hwt (by omega)).up4 (a := xs (i + 5)) hpk hrc hwt (by omega)
    exact ⟨wt, z + 20, y, hC.pf4.pf4.pf4.pf4.pf4, q.1, q.2.1, q.2.2, ho.pf4.pf4.pf4.pf4.pf4, hN wt S _ σ _ ((((jn.pf4.trans jn.pf4).trans jn.pf4).trans jn.pf4).trans jn.pf4) (((((jr.ui rfl).trans jr.rf4).trans jr.rf4).trans jr.rf4).trans jr.rf4 |>.trans jr.rf4) hL⟩
  · have hk := kk _ _ (h.thr hN 0)
    have hle : ¬ nI z + 20 ≤ 2100 := by
      rw [show nI z + 20 = nI (z + 20) from lw_ad z 20]
      intro hc
      have h2 := Int32.le_iff_toInt_le.mp hc
      have ht2 := ht.2.1
      rw [nI_toInt (by omega)] at h2
      have h3 : (2100 : Int32).toInt = 2100 := by decide
      rw [h3] at h2
      omega
    refine ⟨a1, fun r e => ⟨tp, e.trans a2, b1, fun hc => absurd ?_ hle, fun _ => ⟨fun hc => absurd ?_ hle, fun _ => ⟨rfl, hk⟩⟩⟩⟩
    · rw [ht.1, b2] at hc; exact hc
    · rw [ht.2.2.1] at hc; exact hc
theorem jX_octet (hN : jN JL xo ob tp sc kd pl am rc pk) (h : jX JL G xo ob tp sc kd pl am rv rc pk S σ) (kk : ∀ S σ, jX JL G xo ob tp sc kd pl am rv rc pk S σ → K S σ (u + 1) (v + 6)) (hu : u + 1 ≤ Cm) (hv : v + 6 ≤ Sm) : lw_octet Cm Sm xs G xo ob i K S σ u v := by
  obtain ⟨wt, z, y, hC, ht, hp, hw, ho, hL⟩ := id h
  obtain ⟨⟨a1, a2, a3, a4, a5⟩, ⟨b1, b2⟩, -, -, ⟨e1, e2, e3, e4⟩, ⟨f1, -⟩, g⟩ := id hC
  have e85 : cs_i S 703 rc = σ.1 85 := hp.2.2.1.trans hp.2.2.2.2.1.symm
  have bad : ∀ x, w_X12_octet_13 (fun b σ1 => wp_X12_thrown (fun t σ2 => t = 1 ∧ ((1 : Int32) = 0 → cs_k S ob = 21 ∧ vp_in 0 (cs_n S ob) ∧ cs_al S ob 0 = b.toInt64) ∧ K S σ2 (u + 1) (v + 6)) σ1) σ x :=
    fun x => ⟨fun hc => absurd hc (by decide), fun _ => ⟨rfl, fun hc => absurd hc (by decide), fun _ => ⟨rfl, fun hc => absurd hc (by decide), kk _ _ (h.thr hN 1)⟩⟩⟩
  refine ⟨1, 6, hu, hv, a1, fun hc => ⟨Nat.zero_le _, Nat.zero_le _, Nat.le_refl _, Nat.le_refl _, fun _ => bad _, fun hd => absurd hc hd⟩, fun hc => ⟨a1, fun r er => ⟨rc, er.trans a4, e1, fun hd => ?_, fun hd => ⟨Nat.zero_le _, Nat.zero_le _, Nat.le_refl _, Nat.le_refl _, fun he => absurd he hc, fun _ => ⟨fun he => absurd (by rw [e85]; exact he) hd, fun _ => bad _⟩⟩⟩⟩⟩
  have h0 : (0 : Int) ≤ (xs (i + 1)).toInt := by
    have := Int32.not_lt.mp hc
    simpa using Int32.le_iff_toInt_le.mp this
  have hd2 := Int32.lt_iff_toInt_lt.mp hd
  have hy := hp.2.2.2.1
  rw [hp.2.2.1, nI_toInt (by omega)] at hd2
  have hcl : (xs (i + 1)).toNatClampNeg < y := by
    show (xs (i + 1)).toInt.toNat < y
    omega
  have hin : ∀ n, y ≤ n → vp_in (xs (i + 1)) n := fun n hn q => by
    rcases q with q | q
    · exact hc q
    · omega
  have hb := hp.2.2.2.2.2 _ hcl
  have hd9 : xs (i + 1) < σ.1 85 := by rw [← e85]; exact hd
  refine fun r2 er2 => ⟨rc, er2.trans a4, e1, fun r3 er3 => ⟨pk, er3.trans e2, e3, hin _ (by rw [e4]; exact hy), ho.1, ?_, ?_⟩⟩
  · rw [ho.2.1]
    exact fun q => by
      rcases q with q | q
      · exact absurd q (by decide)
      · exact absurd q (by decide)
  · refine ⟨fun he => absurd he hc, fun _ => ⟨fun _ => ⟨fun _ => ⟨rfl, fun _ => ⟨hin _ (by show y ≤ rf_n 84; exact Nat.le_trans hy (by decide)), rfl, fun _ => ⟨ho.1, ?_, ?_⟩, kk _ _ ?_⟩, fun hq => absurd rfl hq⟩, fun hq => absurd rfl hq⟩, fun hq => absurd hd9 hq⟩⟩
    · show vp_in 0 (cs_n S ob)
      rw [ho.2.1]
      exact fun q => by
        rcases q with q | q
        · exact absurd q (by decide)
        · exact absurd q (by decide)
    · rw [alual, if_pos ⟨rfl, rfl⟩, hb]
      rfl
    · obtain ⟨⟨c1, c2, c3⟩, c4, c5, ⟨d1, d2, d3, d4, d5, d6, d7, d8, d9⟩, c6⟩ := id hC
      refine ⟨wt, z, y, ⟨⟨c1, c2, c3⟩, c4, c5, ⟨d1, d2, d3, d4, d5, d6, d7, d8, fun j => ?_⟩, c6⟩, ht, hp, hw, ho, hN wt S _ σ _ (jn.ual (Or.inr rfl)) (jr.ui rfl) hL⟩
      rw [alual, if_neg (fun q => ho.2.2.2 q.1.symm)]
      exact d9 j
end JY
