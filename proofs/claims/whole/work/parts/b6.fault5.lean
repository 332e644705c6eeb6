/-! ===== the reference's reading: a fault is noted only where it fails ===== -/
def trd (σ : rf_S) (W : (Int32 → rf_S → Prop) → Prop) (P : Int32 → rf_S → Prop) : Prop := ∃ r s, P r s ∧ (¬ r = 0 → s.1 5 = σ.1 5) ∧ ∀ Q : Int32 → rf_S → Prop, Q r s → W Q
def trk (σ : rf_S) (W : (Int32 → rf_S → Prop) → Prop) (P : Int32 → rf_S → Prop) : Prop := ∃ r s, P r s ∧ s.1 5 = σ.1 5 ∧ ∀ Q : Int32 → rf_S → Prop, Q r s → W Q
section TRD
variable {P : Int32 → rf_S → Prop} {σ : rf_S}
theorem trd.to {σ1 : rf_S} {W W' : (Int32 → rf_S → Prop) → Prop} (h : trd σ1 W P) (e : σ1.1 5 = σ.1 5) (g : ∀ Q, W Q → W' Q) : trd σ W' P := by
  obtain ⟨r, s, a, a5, b⟩ := h
  exact ⟨r, s, a, fun z => (a5 z).trans e, fun Q hQ => g Q (b Q hQ)⟩
theorem trk.to {σ1 : rf_S} {W W' : (Int32 → rf_S → Prop) → Prop} (h : trk σ1 W P) (e : σ1.1 5 = σ.1 5) (g : ∀ Q, W Q → W' Q) : trk σ W' P := by
  obtain ⟨r, s, a, a5, b⟩ := h
  exact ⟨r, s, a, a5.trans e, fun Q hQ => g Q (b Q hQ)⟩
theorem trd.one {W : (Int32 → rf_S → Prop) → Prop} {r : Int32} {s : rf_S} (h : P r s) (e : ¬ r = 0 → s.1 5 = σ.1 5) (g : ∀ Q : Int32 → rf_S → Prop, Q r s → W Q) : trd σ W P := ⟨r, s, h, e, g⟩
theorem trk.one {W : (Int32 → rf_S → Prop) → Prop} {r : Int32} {s : rf_S} (h : P r s) (e : s.1 5 = σ.1 5) (g : ∀ Q : Int32 → rf_S → Prop, Q r s → W Q) : trk σ W P := ⟨r, s, h, e, g⟩
theorem td_byteAt {p : Int32} (h : wp_X12_byteAt P σ p) : trk σ (fun Q => wp_X12_byteAt Q σ p) P := by
  by_cases c : σ.1 3 ≤ p
  · exact trk.one (h.1 c) (by first | exact (fun z => absurd rfl z) | rfl | (intros; simp_all [r1ui, r1ul, r1ua, r1ub])) (fun Q hQ => ⟨fun _ => hQ, fun z => absurd c z⟩)
  · exact trk.one (h.2 c).2 (by first | exact (fun z => absurd rfl z) | rfl | (intros; simp_all [r1ui, r1ul, r1ua, r1ub])) (fun Q hQ => ⟨fun z => absurd z c, fun _ => ⟨(h.2 c).1, hQ⟩⟩)
theorem td_count {lo hi : Int32} (h : wp_X12_readsCount P σ lo hi) : trd σ (fun Q => wp_X12_readsCount Q σ lo hi) P := by
  obtain ⟨r, s, a, h5s, re⟩ := td_byteAt h
  by_cases c : 0 ≤ r
  · by_cases c2 : r < lo
    · have := (a.1 c).1 c2
      exact trd.one this.2 (by first | exact (fun z => absurd rfl z) | rfl | (intros; simp_all [r1ui, r1ul, r1ua, r1ub])) (fun Q hQ => re _ ⟨fun _ => ⟨fun _ => ⟨rfl, hQ⟩, fun z => absurd c2 z⟩, fun z => absurd c z⟩)
    · by_cases c3 : r ≤ hi
      · exact trd.one (((a.1 c).2 c2).1 c3) (by first | exact (fun z => absurd rfl z) | rfl | (intros; simp_all [r1ui, r1ul, r1ua, r1ub])) (fun Q hQ => re _ ⟨fun _ => ⟨fun z => absurd z c2, fun _ => ⟨fun _ => hQ, fun z => absurd c3 z⟩⟩, fun z => absurd c z⟩)
      · exact trd.one (((a.1 c).2 c2).2 c3).2 (by first | exact (fun z => absurd rfl z) | rfl | (intros; simp_all [r1ui, r1ul, r1ua, r1ub])) (fun Q hQ => re _ ⟨fun _ => ⟨fun z => absurd z c2, fun _ => ⟨fun z => absurd z c3, fun _ => ⟨rfl, hQ⟩⟩⟩, fun z => absurd c z⟩)
  · exact trd.one (a.2 c).2 (by first | exact (fun z => absurd rfl z) | rfl | (intros; simp_all [r1ui, r1ul, r1ua, r1ub])) (fun Q hQ => re _ ⟨fun z => absurd z c, fun _ => ⟨rfl, hQ⟩⟩)
theorem td_uns (h : wp_X12_readsUnsigned P σ) : trd σ (fun Q => wp_X12_readsUnsigned Q σ) P := by
  have key : ∀ n (σ : rf_S) (x1 : Int32) (x2 : Int64) (x4 : Int32), w_X12_readsUnsigned_10 P n σ x1 x2 x4 → trd σ (fun Q => w_X12_readsUnsigned_10 Q n σ x1 x2 x4) P := by
    intro n
    induction n with
    | zero => intro σ x1 x2 x4 h; exact absurd h (fun z => z)
    | succ n ih =>
      intro σ x1 x2 x4 h
      by_cases c : 5 ≤ x4
      · exact trd.one (h.1 c).2 (by first | exact (fun z => absurd rfl z) | rfl | (intros; simp_all [r1ui, r1ul, r1ua, r1ub])) (fun Q hQ => ⟨fun _ => ⟨rfl, hQ⟩, fun z => absurd c z⟩)
      · obtain ⟨r, s, a, h5s, re⟩ := td_byteAt (h.2 c)
        have k97 : ∀ (σ : rf_S), w_X12_readsUnsigned_97 P σ x1 → trd σ (fun Q => w_X12_readsUnsigned_97 Q σ x1) P := fun σ y => trd.one (y.1 rfl).2 (by first | exact (fun z => absurd rfl z) | rfl | (intros; simp_all [r1ui, r1ul, r1ua, r1ub])) (fun Q hQ => ⟨fun _ => ⟨rfl, hQ⟩, fun z => absurd rfl z⟩)
        by_cases d0 : 0 ≤ r
        · have a1 := a.1 d0
          by_cases d1 : 128 ≤ r
          · exact (ih _ _ _ _ (a1.1 d1)).to (by first | exact (fun z => absurd rfl z) | rfl | (intros; simp_all [r1ui, r1ul, r1ua, r1ub])) (fun Q hQ => ⟨fun z => absurd z c, fun _ => re _ ⟨fun _ => ⟨fun _ => hQ, fun z => absurd d1 z⟩, fun z => absurd d0 z⟩⟩)
          · have a2 := a1.2 d1
            by_cases d2 : 0 < (lg_cmp (x2 ||| (((r &&& 127).toInt64) <<< ((7 * x4).toInt64 &&& 63))) 4294967295)
            · exact (k97 _ (a2.1 d2)).to (by first | exact (fun z => absurd rfl z) | rfl | (intros; simp_all [r1ui, r1ul, r1ua, r1ub])) (fun Q hQ => ⟨fun z => absurd z c, fun _ => re _ ⟨fun _ => ⟨fun z => absurd z d1, fun _ => ⟨fun _ => hQ, fun z => absurd d2 z⟩⟩, fun z => absurd d0 z⟩⟩)
            · by_cases d3 : 0 < r
              · exact trd.one ((a2.2 d2).1 d3).2 (by first | exact (fun z => absurd rfl z) | rfl | (intros; simp_all [r1ui, r1ul, r1ua, r1ub])) (fun Q hQ => ⟨fun z => absurd z c, fun _ => re _ ⟨fun _ => ⟨fun z => absurd z d1, fun _ => ⟨fun z => absurd z d2, fun _ => ⟨fun _ => ⟨rfl, hQ⟩, fun z => absurd d3 z⟩⟩⟩, fun z => absurd d0 z⟩⟩)
              · by_cases d4 : x4 = 0
                · exact trd.one (((a2.2 d2).2 d3).1 d4).2 (by first | exact (fun z => absurd rfl z) | rfl | (intros; simp_all [r1ui, r1ul, r1ua, r1ub])) (fun Q hQ => ⟨fun z => absurd z c, fun _ => re _ ⟨fun _ => ⟨fun z => absurd z d1, fun _ => ⟨fun z => absurd z d2, fun _ => ⟨fun z => absurd z d3, fun _ => ⟨fun _ => ⟨rfl, hQ⟩, fun z => absurd d4 z⟩⟩⟩⟩, fun z => absurd d0 z⟩⟩)
                · exact (k97 _ (((a2.2 d2).2 d3).2 d4)).to (by first | exact (fun z => absurd rfl z) | rfl | (intros; simp_all [r1ui, r1ul, r1ua, r1ub])) (fun Q hQ => ⟨fun z => absurd z c, fun _ => re _ ⟨fun _ => ⟨fun z => absurd z d1, fun _ => ⟨fun z => absurd z d2, fun _ => ⟨fun z => absurd z d3, fun _ => ⟨fun z => absurd z d4, fun _ => hQ⟩⟩⟩⟩, fun z => absurd d0 z⟩⟩)
        · exact trd.one (a.2 d0).2 (by first | exact (fun z => absurd rfl z) | rfl | (intros; simp_all [r1ui, r1ul, r1ua, r1ub])) (fun Q hQ => ⟨fun z => absurd z c, fun _ => re _ ⟨fun z => absurd z d0, fun _ => ⟨rfl, hQ⟩⟩⟩)
  obtain ⟨n, h⟩ := h
  exact (key n _ _ _ _ h).to (by first | exact (fun z => absurd rfl z) | rfl | (intros; simp_all [r1ui, r1ul, r1ua, r1ub])) (fun Q hQ => ⟨n, hQ⟩)
theorem td_let {x : Int32} (h : wp_X12_readsLetters P σ x) : trd σ (fun Q => wp_X12_readsLetters Q σ x) P := by
  have key : ∀ n (σ : rf_S) (x1 x2 : Int32), w_X12_readsLetters_12 P n σ x1 x2 → trd σ (fun Q => w_X12_readsLetters_12 Q n σ x1 x2) P := by
    intro n
    induction n with
    | zero => intro σ x1 x2 h; exact absurd h (fun z => z)
    | succ n ih =>
      intro σ x1 x2 h
      by_cases c : x1 ≤ x2
      · exact trd.one (h.1 c) (by first | exact (fun z => absurd rfl z) | rfl | (intros; simp_all [r1ui, r1ul, r1ua, r1ub])) (fun Q hQ => ⟨fun _ => hQ, fun z => absurd c z⟩)
      · obtain ⟨r, s, a, h5s, re⟩ := td_byteAt (h.2 c)
        by_cases d0 : 0 ≤ r
        · have a1 := a.1 d0
          by_cases d1 : r < 97
          · exact trd.one (a1.1 d1).2 (by first | exact (fun z => absurd rfl z) | rfl | (intros; simp_all [r1ui, r1ul, r1ua, r1ub])) (fun Q hQ => ⟨fun z => absurd z c, fun _ => re _ ⟨fun _ => ⟨fun _ => ⟨rfl, hQ⟩, fun z => absurd d1 z⟩, fun z => absurd d0 z⟩⟩)
          · by_cases d2 : r ≤ 122
            · have a2 := (a1.2 d1).1 d2
              by_cases d3 : 8 ≤ x2
              · exact (ih _ _ _ (a2.1 d3)).to (by first | exact (fun z => absurd rfl z) | rfl | (intros; simp_all [r1ui, r1ul, r1ua, r1ub])) (fun Q hQ => ⟨fun z => absurd z c, fun _ => re _ ⟨fun _ => ⟨fun z => absurd z d1, fun _ => ⟨fun _ => ⟨fun _ => hQ, fun z => absurd d3 z⟩, fun z => absurd d2 z⟩⟩, fun z => absurd d0 z⟩⟩)
              · exact (ih _ _ _ (a2.2 d3)).to (by first | exact (fun z => absurd rfl z) | rfl | (intros; simp_all [r1ui, r1ul, r1ua, r1ub])) (fun Q hQ => ⟨fun z => absurd z c, fun _ => re _ ⟨fun _ => ⟨fun z => absurd z d1, fun _ => ⟨fun _ => ⟨fun z => absurd z d3, fun _ => hQ⟩, fun z => absurd d2 z⟩⟩, fun z => absurd d0 z⟩⟩)
            · exact trd.one ((a1.2 d1).2 d2).2 (by first | exact (fun z => absurd rfl z) | rfl | (intros; simp_all [r1ui, r1ul, r1ua, r1ub])) (fun Q hQ => ⟨fun z => absurd z c, fun _ => re _ ⟨fun _ => ⟨fun z => absurd z d1, fun _ => ⟨fun z => absurd z d2, fun _ => ⟨rfl, hQ⟩⟩⟩, fun z => absurd d0 z⟩⟩)
        · exact trd.one (a.2 d0).2 (by first | exact (fun z => absurd rfl z) | rfl | (intros; simp_all [r1ui, r1ul, r1ua, r1ub])) (fun Q hQ => ⟨fun z => absurd z c, fun _ => re _ ⟨fun z => absurd z d0, fun _ => ⟨rfl, hQ⟩⟩⟩)
  obtain ⟨n, h⟩ := h
  exact (key n _ _ _ h).to (by first | exact (fun z => absurd rfl z) | rfl | (intros; simp_all [r1ui, r1ul, r1ua, r1ub])) (fun Q hQ => ⟨n, hQ⟩)
theorem td_mix {x y : Int32} (h : wp_X12_mixed P σ x y) : trk σ (fun Q => wp_X12_mixed Q σ x y) P := by
  have key : ∀ n (σ : rf_S) (x2 x3 : Int32), w_X12_mixed_6 P n σ x2 x3 → trk σ (fun Q => w_X12_mixed_6 Q n σ x2 x3) P := by
    intro n
    induction n with
    | zero => intro σ x2 x3 h; exact absurd h (fun z => z)
    | succ n ih =>
      intro σ x2 x3 h
      by_cases c : 8 ≤ x3
      · exact trk.one (h.1 c) (by first | exact (fun z => absurd rfl z) | rfl | (intros; simp_all [r1ui, r1ul, r1ua, r1ub])) (fun Q hQ => ⟨fun _ => hQ, fun z => absurd c z⟩)
      · by_cases d : 2 * x2 ≤ 255
        · exact (ih _ _ _ ((h.2 c).1 d)).to (by first | exact (fun z => absurd rfl z) | rfl | (intros; simp_all [r1ui, r1ul, r1ua, r1ub])) (fun Q hQ => ⟨fun z => absurd z c, fun _ => ⟨fun _ => hQ, fun z => absurd d z⟩⟩)
        · exact (ih _ _ _ ((h.2 c).2 d)).to (by first | exact (fun z => absurd rfl z) | rfl | (intros; simp_all [r1ui, r1ul, r1ua, r1ub])) (fun Q hQ => ⟨fun z => absurd z c, fun _ => ⟨fun z => absurd z d, fun _ => hQ⟩⟩)
  obtain ⟨n, h⟩ := h
  exact (key n _ _ _ h).to (by first | exact (fun z => absurd rfl z) | rfl | (intros; simp_all [r1ui, r1ul, r1ua, r1ub])) (fun Q hQ => ⟨n, hQ⟩)
theorem td_chk {x y : Int32} (h : wp_X12_checkOf P σ x y) : trk σ (fun Q => wp_X12_checkOf Q σ x y) P := by
  have key : ∀ n (σ : rf_S) (x2 x3 x4 : Int32), w_X12_checkOf_5 P n σ x2 x3 x4 → trk σ (fun Q => w_X12_checkOf_5 Q n σ x2 x3 x4) P := by
    intro n
    induction n with
    | zero => intro σ x2 x3 x4 h; exact absurd h (fun z => z)
    | succ n ih =>
      intro σ x2 x3 x4 h
      by_cases c : x2 ≤ x4
      · exact trk.one (h.1 c) (by first | exact (fun z => absurd rfl z) | rfl | (intros; simp_all [r1ui, r1ul, r1ua, r1ub])) (fun Q hQ => ⟨fun _ => hQ, fun z => absurd c z⟩)
      · obtain ⟨r, s, a, h5s, re⟩ := td_mix (h.2 c).2
        exact (ih _ _ _ _ a).to (by first | exact (fun z => absurd rfl z) | rfl | (intros; simp_all [r1ui, r1ul, r1ua, r1ub])) (fun Q hQ => ⟨fun z => absurd z c, fun _ => ⟨(h.2 c).1, re _ hQ⟩⟩)
  obtain ⟨n, h⟩ := h
  exact (key n _ _ _ _ h).to (by first | exact (fun z => absurd rfl z) | rfl | (intros; simp_all [r1ui, r1ul, r1ua, r1ub])) (fun Q hQ => ⟨n, hQ⟩)
theorem td_fld {x y : Int32} (h : wp_X12_readsField P σ x y) : trd σ (fun Q => wp_X12_readsField Q σ x y) P := by
  have k199 : ∀ n (σ : rf_S) (x1 x4 x5 : Int32), w_X12_readsField_199 P n σ x1 x4 x5 → trd σ (fun Q => w_X12_readsField_199 Q n σ x1 x4 x5) P := by
    intro n
    induction n with
    | zero => intro σ x1 x4 x5 h; exact absurd h (fun z => z)
    | succ n ih =>
      intro σ x1 x4 x5 h
      by_cases c : x4 ≤ x5
      · exact trd.one (h.1 c) (by first | exact (fun z => absurd rfl z) | rfl | (intros; simp_all [r1ui, r1ul, r1ua, r1ub])) (fun Q hQ => ⟨fun _ => hQ, fun z => absurd c z⟩)
      · obtain ⟨r, s, a, h5s, re⟩ := td_byteAt (h.2 c)
        by_cases d0 : 0 ≤ r
        · have a0 := (a.1 d0).1
          have a1 := (a.1 d0).2
          by_cases d1 : s.2.2.1 14 x1.toNatClampNeg = 1
          · have a2 := a1.2 d1
            by_cases d2 : r < 32
            · exact trd.one (a2.1 d2).2 (by first | exact (fun z => absurd rfl z) | rfl | (intros; simp_all [r1ui, r1ul, r1ua, r1ub])) (fun Q hQ => ⟨fun z => absurd z c, fun _ => re _ ⟨fun _ => ⟨a0, fun z => absurd d1 z, fun _ => ⟨fun _ => ⟨rfl, hQ⟩, fun z => absurd d2 z⟩⟩, fun z => absurd d0 z⟩⟩)
            · by_cases d3 : r ≤ 126
              · have a3 := (a2.2 d2).1 d3
                exact (ih _ _ _ _ a3.2).to (by first | exact (fun z => absurd rfl z) | rfl | (intros; simp_all [r1ui, r1ul, r1ua, r1ub])) (fun Q hQ => ⟨fun z => absurd z c, fun _ => re _ ⟨fun _ => ⟨a0, fun z => absurd d1 z, fun _ => ⟨fun z => absurd z d2, fun _ => ⟨fun _ => ⟨a3.1, hQ⟩, fun z => absurd d3 z⟩⟩⟩, fun z => absurd d0 z⟩⟩)
              · exact trd.one ((a2.2 d2).2 d3).2 (by first | exact (fun z => absurd rfl z) | rfl | (intros; simp_all [r1ui, r1ul, r1ua, r1ub])) (fun Q hQ => ⟨fun z => absurd z c, fun _ => re _ ⟨fun _ => ⟨a0, fun z => absurd d1 z, fun _ => ⟨fun z => absurd z d2, fun _ => ⟨fun z => absurd z d3, fun _ => ⟨rfl, hQ⟩⟩⟩⟩, fun z => absurd d0 z⟩⟩)
          · have a2 := a1.1 d1
            exact (ih _ _ _ _ a2.2.2).to (by first | exact (fun z => absurd rfl z) | rfl | (intros; simp_all [r1ui, r1ul, r1ua, r1ub])) (fun Q hQ => ⟨fun z => absurd z c, fun _ => re _ ⟨fun _ => ⟨a0, fun _ => ⟨a2.1, a2.2.1, hQ⟩, fun z => absurd z d1⟩, fun z => absurd d0 z⟩⟩)
        · exact trd.one (a.2 d0).2 (by first | exact (fun z => absurd rfl z) | rfl | (intros; simp_all [r1ui, r1ul, r1ua, r1ub])) (fun Q hQ => ⟨fun z => absurd z c, fun _ => re _ ⟨fun z => absurd z d0, fun _ => ⟨rfl, hQ⟩⟩⟩)
  have k67 : ∀ (σ : rf_S) (x1 : Int32), w_X12_readsField_67 P σ x1 → trd σ (fun Q => w_X12_readsField_67 Q σ x1) P := by
    intro σ x1 h
    obtain ⟨r, s, a, h5s, re⟩ := td_count h
    by_cases c : r = 0
    · exact trd.one (a.2 c) (by first | exact (fun z => absurd rfl z) | rfl | (intros; simp_all [r1ui, r1ul, r1ua, r1ub])) (fun Q hQ => re _ ⟨fun z => absurd c z, fun _ => hQ⟩)
    · have a0 := (a.1 c).1
      have a0' := (a.1 c).2.1
      have a1 := (a.1 c).2.2
      by_cases d0 : s.1 28 = 0
      · obtain ⟨r2, s2, b, h5s2, re2⟩ := td_uns (a1.2 d0)
        by_cases e : r2 = 0
        · exact trd.one (b.2 e) (by first | exact (fun z => absurd rfl z) | rfl | (intros; simp_all [r1ui, r1ul, r1ua, r1ub])) (fun Q hQ => re _ ⟨fun _ => ⟨a0, a0', fun z => absurd d0 z, fun _ => re2 _ ⟨fun z => absurd e z, fun _ => hQ⟩⟩, fun z => absurd z c⟩)
        · exact trd.one (b.1 e).2 (by first | exact (fun z => absurd rfl z) | rfl | (intros; simp_all [r1ui, r1ul, r1ua, r1ub])) (fun Q hQ => re _ ⟨fun _ => ⟨a0, a0', fun z => absurd d0 z, fun _ => re2 _ ⟨fun _ => ⟨(b.1 e).1, hQ⟩, fun z => absurd z e⟩⟩, fun z => absurd z c⟩)
      · by_cases d1 : s.1 28 = 1
        · obtain ⟨r2, s2, b, h5s2, re2⟩ := td_count ((a1.1 d0).2 d1)
          by_cases e : r2 = 0
          · exact trd.one (b.2 e) (by first | exact (fun z => absurd rfl z) | rfl | (intros; simp_all [r1ui, r1ul, r1ua, r1ub])) (fun Q hQ => re _ ⟨fun _ => ⟨a0, a0', fun _ => ⟨fun z => absurd d1 z, fun _ => re2 _ ⟨fun z => absurd e z, fun _ => hQ⟩⟩, fun z => absurd z d0⟩, fun z => absurd z c⟩)
          · obtain ⟨b1, b2, n, b3⟩ := b.1 e
            exact (k199 n _ _ _ _ b3).to (by first | exact (fun z => absurd rfl z) | rfl | (intros; simp_all [r1ui, r1ul, r1ua, r1ub])) (fun Q hQ => re _ ⟨fun _ => ⟨a0, a0', fun _ => ⟨fun z => absurd d1 z, fun _ => re2 _ ⟨fun _ => ⟨b1, b2, n, hQ⟩, fun z => absurd z e⟩⟩, fun z => absurd z d0⟩, fun z => absurd z c⟩)
        · obtain ⟨b1, n, b3⟩ := (a1.1 d0).1 d1
          exact (k199 n _ _ _ _ b3).to (by first | exact (fun z => absurd rfl z) | rfl | (intros; simp_all [r1ui, r1ul, r1ua, r1ub])) (fun Q hQ => re _ ⟨fun _ => ⟨a0, a0', fun _ => ⟨fun _ => ⟨b1, n, hQ⟩, fun z => absurd z d1⟩, fun z => absurd z d0⟩, fun z => absurd z c⟩)
  obtain ⟨r, s, a, h5s, re⟩ := td_count h
  by_cases c : r = 0
  · exact trd.one (a.1 c) (by first | exact (fun z => absurd rfl z) | rfl | (intros; simp_all [r1ui, r1ul, r1ua, r1ub])) (fun Q hQ => re _ ⟨fun _ => hQ, fun z => absurd c z⟩)
  · obtain ⟨r2, s2, b, h5s2, re2⟩ := td_let (a.2 c)
    by_cases c2 : r2 = 0
    · exact trd.one (b.2 c2) (by first | exact (fun z => absurd rfl z) | rfl | (intros; simp_all [r1ui, r1ul, r1ua, r1ub])) (fun Q hQ => re _ ⟨fun z => absurd z c, fun _ => re2 _ ⟨fun z => absurd c2 z, fun _ => hQ⟩⟩)
    · have b0 := (b.1 c2).1
      have b1 := (b.1 c2).2
      by_cases d : y ≤ 0
      · exact (k67 _ _ (b1.1 d)).to (by first | exact (fun z => absurd rfl z) | rfl | (intros; simp_all [r1ui, r1ul, r1ua, r1ub])) (fun Q hQ => re _ ⟨fun z => absurd z c, fun _ => re2 _ ⟨fun _ => ⟨b0, fun _ => hQ, fun z => absurd d z⟩, fun z => absurd z c2⟩⟩)
      · obtain ⟨b2, b3, b4⟩ := b1.2 d
        by_cases d2 : 0 < (lg_cmp ((rf_ub s2 13 x.toNatClampNeg (s2.2.1 29)).2.2.2 13 x.toNatClampNeg) ((rf_ub s2 13 x.toNatClampNeg (s2.2.1 29)).2.2.2 13 (x - 1).toNatClampNeg))
        · exact (k67 _ _ (b4.1 d2)).to (by first | exact (fun z => absurd rfl z) | rfl | (intros; simp_all [r1ui, r1ul, r1ua, r1ub])) (fun Q hQ => re _ ⟨fun z => absurd z c, fun _ => re2 _ ⟨fun _ => ⟨b0, fun z => absurd z d, fun _ => ⟨b2, b3, fun _ => hQ, fun z => absurd d2 z⟩⟩, fun z => absurd z c2⟩⟩)
        · exact trd.one (b4.2 d2).2 (by first | exact (fun z => absurd rfl z) | rfl | (intros; simp_all [r1ui, r1ul, r1ua, r1ub])) (fun Q hQ => re _ ⟨fun z => absurd z c, fun _ => re2 _ ⟨fun _ => ⟨b0, fun z => absurd z d, fun _ => ⟨b2, b3, fun z => absurd z d2, fun _ => ⟨rfl, hQ⟩⟩⟩, fun z => absurd z c2⟩⟩)
theorem td_rec {x : Int32} (h : wp_X12_readsRecord P σ x) : trd σ (fun Q => wp_X12_readsRecord Q σ x) P := by
  have k173 : ∀ n (σ : rf_S) (x1 x2 x6 x7 : Int32), w_X12_readsRecord_173 P n σ x1 x2 x6 x7 → trd σ (fun Q => w_X12_readsRecord_173 Q n σ x1 x2 x6 x7) P := by
    intro n
    induction n with
    | zero => intro σ x1 x2 x6 x7 h; exact absurd h (fun z => z)
    | succ n ih =>
      intro σ x1 x2 x6 x7 h
      have h0 := h.1
      by_cases c : σ.2.2.1 9 x1.toNatClampNeg ≤ x7
      · obtain ⟨rc, sc, a, h5sc, re⟩ := td_chk (h.2.1 c)
        obtain ⟨r, s, b, h5s, re2⟩ := td_byteAt a
        by_cases d : r = rc
        · exact trd.one (b.2 d) (by first | exact (fun z => absurd rfl z) | rfl | (intros; simp_all [r1ui, r1ul, r1ua, r1ub])) (fun Q hQ => ⟨h0, fun _ => re _ (re2 _ ⟨fun z => absurd d z, fun _ => hQ⟩), fun z => absurd c z⟩)
        · by_cases d2 : 0 ≤ r
          · exact trd.one ((b.1 d).1 d2).2 (by first | exact (fun z => absurd rfl z) | rfl | (intros; simp_all [r1ui, r1ul, r1ua, r1ub])) (fun Q hQ => ⟨h0, fun _ => re _ (re2 _ ⟨fun _ => ⟨fun _ => ⟨rfl, hQ⟩, fun z => absurd d2 z⟩, fun z => absurd z d⟩), fun z => absurd c z⟩)
          · exact trd.one ((b.1 d).2 d2).2 (by first | exact (fun z => absurd rfl z) | rfl | (intros; simp_all [r1ui, r1ul, r1ua, r1ub])) (fun Q hQ => ⟨h0, fun _ => re _ (re2 _ ⟨fun _ => ⟨fun z => absurd z d2, fun _ => ⟨rfl, hQ⟩⟩, fun z => absurd z d⟩), fun z => absurd c z⟩)
      · obtain ⟨r, s, a, h5s, re⟩ := td_fld (h.2.2 c)
        by_cases d : r = 0
        · exact trd.one (a.2 d) (by first | exact (fun z => absurd rfl z) | rfl | (intros; simp_all [r1ui, r1ul, r1ua, r1ub])) (fun Q hQ => ⟨h0, fun z => absurd z c, fun _ => re _ ⟨fun z => absurd d z, fun _ => hQ⟩⟩)
        · exact (ih _ _ _ _ _ (a.1 d)).to (by first | exact (fun z => absurd rfl z) | rfl | (intros; simp_all [r1ui, r1ul, r1ua, r1ub])) (fun Q hQ => ⟨h0, fun z => absurd z c, fun _ => re _ ⟨fun _ => hQ, fun z => absurd z d⟩⟩)
  obtain ⟨r0, s0, a, h5s0, re⟩ := td_byteAt h
  by_cases c : r0 = 229
  · obtain ⟨r, s, a, h5s, re1⟩ := td_uns (a.1 c)
    have in1 : ∀ Q : Int32 → rf_S → Prop, wp_X12_readsUnsigned _ _ → wp_X12_readsRecord Q σ x := fun Q hQ => re _ ⟨fun _ => hQ, fun z => absurd c z⟩
    by_cases c2 : r = 0
    · exact trd.one (a.2 c2) (by first | exact (fun z => absurd rfl z) | rfl | (intros; simp_all [r1ui, r1ul, r1ua, r1ub])) (fun Q hQ => in1 Q (re1 _ ⟨fun z => absurd c2 z, fun _ => hQ⟩))
    · have a1 := a.1 c2
      by_cases d1 : 0 < (lg_cmp (((s.1 22).toInt64) + (s.2.1 27)) 2000000000)
      · exact trd.one (a1.1 d1).2 (by first | exact (fun z => absurd rfl z) | rfl | (intros; simp_all [r1ui, r1ul, r1ua, r1ub])) (fun Q hQ => in1 Q (re1 _ ⟨fun _ => ⟨fun _ => ⟨rfl, hQ⟩, fun z => absurd d1 z⟩, fun z => absurd z c2⟩))
      · by_cases d2 : 0 ≤ (lg_cmp (((s.1 22).toInt64) + (s.2.1 27)) ((s.1 21).toInt64))
        · obtain ⟨r2, s2, b, h5s2, re2⟩ := td_count ((a1.2 d1).1 d2)
          have in2 : ∀ Q : Int32 → rf_S → Prop, wp_X12_readsCount _ _ 1 12 → wp_X12_readsRecord Q σ x := fun Q hQ => in1 Q (re1 _ ⟨fun _ => ⟨fun z => absurd z d1, fun _ => ⟨fun _ => hQ, fun z => absurd d2 z⟩⟩, fun z => absurd z c2⟩)
          by_cases e : r2 = 0
          · exact trd.one (b.1 e) (by first | exact (fun z => absurd rfl z) | rfl | (intros; simp_all [r1ui, r1ul, r1ua, r1ub])) (fun Q hQ => in2 Q (re2 _ ⟨fun _ => hQ, fun z => absurd e z⟩))
          · obtain ⟨r3, s3, b3, h5s3, re3⟩ := td_let (b.2 e)
            by_cases e2 : r3 = 0
            · exact trd.one (b3.2 e2) (by first | exact (fun z => absurd rfl z) | rfl | (intros; simp_all [r1ui, r1ul, r1ua, r1ub])) (fun Q hQ => in2 Q (re2 _ ⟨fun z => absurd z e, fun _ => re3 _ ⟨fun z => absurd e2 z, fun _ => hQ⟩⟩))
            · obtain ⟨i1, i2, b4⟩ := b3.1 e2
              obtain ⟨r4, s4, b5, h5s4, re4⟩ := td_count b4
              by_cases e3 : r4 = 0
              · exact trd.one (b5.2 e3) (by first | exact (fun z => absurd rfl z) | rfl | (intros; simp_all [r1ui, r1ul, r1ua, r1ub])) (fun Q hQ => in2 Q (re2 _ ⟨fun z => absurd z e, fun _ => re3 _ ⟨fun _ => ⟨i1, i2, re4 _ ⟨fun z => absurd e3 z, fun _ => hQ⟩⟩, fun z => absurd z e2⟩⟩))
              · obtain ⟨i3, n, b6⟩ := b5.1 e3
                exact (k173 n _ _ _ _ _ b6).to (by first | exact (fun z => absurd rfl z) | rfl | (intros; simp_all [r1ui, r1ul, r1ua, r1ub])) (fun Q hQ => in2 Q (re2 _ ⟨fun z => absurd z e, fun _ => re3 _ ⟨fun _ => ⟨i1, i2, re4 _ ⟨fun _ => ⟨i3, n, hQ⟩, fun z => absurd z e3⟩⟩, fun z => absurd z e2⟩⟩))
        · exact trd.one ((a1.2 d1).2 d2).2 (by first | exact (fun z => absurd rfl z) | rfl | (intros; simp_all [r1ui, r1ul, r1ua, r1ub])) (fun Q hQ => in1 Q (re1 _ ⟨fun _ => ⟨fun z => absurd z d1, fun _ => ⟨fun z => absurd z d2, fun _ => ⟨rfl, hQ⟩⟩⟩, fun z => absurd z c2⟩))
  · exact trd.one (a.2 c).2 (by first | exact (fun z => absurd rfl z) | rfl | (intros; simp_all [r1ui, r1ul, r1ua, r1ub])) (fun Q hQ => re _ ⟨fun z => absurd z c, fun _ => ⟨rfl, hQ⟩⟩)
end TRD
