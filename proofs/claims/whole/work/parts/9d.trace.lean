/-! ===== the reference's reading comes to an end ===== -/
/-- W ends somewhere, and P holds there -/
def trc (W : (Int32 → rf_S → Prop) → Prop) (P : Int32 → rf_S → Prop) : Prop := ∃ r s, P r s ∧ ∀ Q : Int32 → rf_S → Prop, Q r s → W Q
section TR
variable {P : Int32 → rf_S → Prop} {σ : rf_S}
theorem trc.to {W W' : (Int32 → rf_S → Prop) → Prop} (h : trc W P) (g : ∀ Q, W Q → W' Q) : trc W' P := by
  obtain ⟨r, s, a, b⟩ := h
  exact ⟨r, s, a, fun Q hQ => g Q (b Q hQ)⟩
theorem trc.one {W : (Int32 → rf_S → Prop) → Prop} {r : Int32} {s : rf_S} (h : P r s) (g : ∀ Q : Int32 → rf_S → Prop, Q r s → W Q) : trc W P := ⟨r, s, h, g⟩
theorem tr_byteAt {p : Int32} (h : wp_X12_byteAt P σ p) : trc (fun Q => wp_X12_byteAt Q σ p) P := by
  by_cases c : σ.1 3 ≤ p
  · exact trc.one (h.1 c) (fun Q hQ => ⟨fun _ => hQ, fun z => absurd c z⟩)
  · exact trc.one (h.2 c).2 (fun Q hQ => ⟨fun z => absurd z c, fun _ => ⟨(h.2 c).1, hQ⟩⟩)
theorem tr_count {lo hi : Int32} (h : wp_X12_readsCount P σ lo hi) : trc (fun Q => wp_X12_readsCount Q σ lo hi) P := by
  obtain ⟨r, s, a, re⟩ := tr_byteAt h
  by_cases c : 0 ≤ r
  · by_cases c2 : r < lo
    · have := (a.1 c).1 c2
      exact trc.one this.2 (fun Q hQ => re _ ⟨fun _ => ⟨fun _ => ⟨rfl, hQ⟩, fun z => absurd c2 z⟩, fun z => absurd c z⟩)
    · by_cases c3 : r ≤ hi
      · exact trc.one (((a.1 c).2 c2).1 c3) (fun Q hQ => re _ ⟨fun _ => ⟨fun z => absurd z c2, fun _ => ⟨fun _ => hQ, fun z => absurd c3 z⟩⟩, fun z => absurd c z⟩)
      · exact trc.one (((a.1 c).2 c2).2 c3).2 (fun Q hQ => re _ ⟨fun _ => ⟨fun z => absurd z c2, fun _ => ⟨fun z => absurd z c3, fun _ => ⟨rfl, hQ⟩⟩⟩, fun z => absurd c z⟩)
  · exact trc.one (a.2 c).2 (fun Q hQ => re _ ⟨fun z => absurd z c, fun _ => ⟨rfl, hQ⟩⟩)
theorem tr_uns (h : wp_X12_readsUnsigned P σ) : trc (fun Q => wp_X12_readsUnsigned Q σ) P := by
  have key : ∀ n (σ : rf_S) (x1 : Int32) (x2 : Int64) (x4 : Int32), w_X12_readsUnsigned_10 P n σ x1 x2 x4 → trc (fun Q => w_X12_readsUnsigned_10 Q n σ x1 x2 x4) P := by
    intro n
    induction n with
    | zero => intro σ x1 x2 x4 h; exact absurd h (fun z => z)
    | succ n ih =>
      intro σ x1 x2 x4 h
      by_cases c : 5 ≤ x4
      · exact trc.one (h.1 c).2 (fun Q hQ => ⟨fun _ => ⟨rfl, hQ⟩, fun z => absurd c z⟩)
      · obtain ⟨r, s, a, re⟩ := tr_byteAt (h.2 c)
        have k97 : ∀ (σ : rf_S), w_X12_readsUnsigned_97 P σ x1 → trc (fun Q => w_X12_readsUnsigned_97 Q σ x1) P := fun σ y => trc.one (y.1 rfl).2 (fun Q hQ => ⟨fun _ => ⟨rfl, hQ⟩, fun z => absurd rfl z⟩)
        by_cases d0 : 0 ≤ r
        · have a1 := a.1 d0
          by_cases d1 : 128 ≤ r
          · exact (ih _ _ _ _ (a1.1 d1)).to (fun Q hQ => ⟨fun z => absurd z c, fun _ => re _ ⟨fun _ => ⟨fun _ => hQ, fun z => absurd d1 z⟩, fun z => absurd d0 z⟩⟩)
          · have a2 := a1.2 d1
            by_cases d2 : 0 < (lg_cmp (x2 ||| (((r &&& 127).toInt64) <<< ((7 * x4).toInt64 &&& 63))) 4294967295)
            · exact (k97 _ (a2.1 d2)).to (fun Q hQ => ⟨fun z => absurd z c, fun _ => re _ ⟨fun _ => ⟨fun z => absurd z d1, fun _ => ⟨fun _ => hQ, fun z => absurd d2 z⟩⟩, fun z => absurd d0 z⟩⟩)
            · by_cases d3 : 0 < r
              · exact trc.one ((a2.2 d2).1 d3).2 (fun Q hQ => ⟨fun z => absurd z c, fun _ => re _ ⟨fun _ => ⟨fun z => absurd z d1, fun _ => ⟨fun z => absurd z d2, fun _ => ⟨fun _ => ⟨rfl, hQ⟩, fun z => absurd d3 z⟩⟩⟩, fun z => absurd d0 z⟩⟩)
              · by_cases d4 : x4 = 0
                · exact trc.one (((a2.2 d2).2 d3).1 d4).2 (fun Q hQ => ⟨fun z => absurd z c, fun _ => re _ ⟨fun _ => ⟨fun z => absurd z d1, fun _ => ⟨fun z => absurd z d2, fun _ => ⟨fun z => absurd z d3, fun _ => ⟨fun _ => ⟨rfl, hQ⟩, fun z => absurd d4 z⟩⟩⟩⟩, fun z => absurd d0 z⟩⟩)
                · exact (k97 _ (((a2.2 d2).2 d3).2 d4)).to (fun Q hQ => ⟨fun z => absurd z c, fun _ => re _ ⟨fun _ => ⟨fun z => absurd z d1, fun _ => ⟨fun z => absurd z d2, fun _ => ⟨fun z => absurd z d3, fun _ => ⟨fun z => absurd z d4, fun _ => hQ⟩⟩⟩⟩, fun z => absurd d0 z⟩⟩)
        · exact trc.one (a.2 d0).2 (fun Q hQ => ⟨fun z => absurd z c, fun _ => re _ ⟨fun z => absurd z d0, fun _ => ⟨rfl, hQ⟩⟩⟩)
  obtain ⟨n, h⟩ := h
  exact (key n _ _ _ _ h).to (fun Q hQ => ⟨n, hQ⟩)
theorem tr_let {x : Int32} (h : wp_X12_readsLetters P σ x) : trc (fun Q => wp_X12_readsLetters Q σ x) P := by
  have key : ∀ n (σ : rf_S) (x1 x2 : Int32), w_X12_readsLetters_12 P n σ x1 x2 → trc (fun Q => w_X12_readsLetters_12 Q n σ x1 x2) P := by
    intro n
    induction n with
    | zero => intro σ x1 x2 h; exact absurd h (fun z => z)
    | succ n ih =>
      intro σ x1 x2 h
      by_cases c : x1 ≤ x2
      · exact trc.one (h.1 c) (fun Q hQ => ⟨fun _ => hQ, fun z => absurd c z⟩)
      · obtain ⟨r, s, a, re⟩ := tr_byteAt (h.2 c)
        by_cases d0 : 0 ≤ r
        · have a1 := a.1 d0
          by_cases d1 : r < 97
          · exact trc.one (a1.1 d1).2 (fun Q hQ => ⟨fun z => absurd z c, fun _ => re _ ⟨fun _ => ⟨fun _ => ⟨rfl, hQ⟩, fun z => absurd d1 z⟩, fun z => absurd d0 z⟩⟩)
          · by_cases d2 : r ≤ 122
            · have a2 := (a1.2 d1).1 d2
              by_cases d3 : 8 ≤ x2
              · exact (ih _ _ _ (a2.1 d3)).to (fun Q hQ => ⟨fun z => absurd z c, fun _ => re _ ⟨fun _ => ⟨fun z => absurd z d1, fun _ => ⟨fun _ => ⟨fun _ => hQ, fun z => absurd d3 z⟩, fun z => absurd d2 z⟩⟩, fun z => absurd d0 z⟩⟩)
              · exact (ih _ _ _ (a2.2 d3)).to (fun Q hQ => ⟨fun z => absurd z c, fun _ => re _ ⟨fun _ => ⟨fun z => absurd z d1, fun _ => ⟨fun _ => ⟨fun z => absurd z d3, fun _ => hQ⟩, fun z => absurd d2 z⟩⟩, fun z => absurd d0 z⟩⟩)
            · exact trc.one ((a1.2 d1).2 d2).2 (fun Q hQ => ⟨fun z => absurd z c, fun _ => re _ ⟨fun _ => ⟨fun z => absurd z d1, fun _ => ⟨fun z => absurd z d2, fun _ => ⟨rfl, hQ⟩⟩⟩, fun z => absurd d0 z⟩⟩)
        · exact trc.one (a.2 d0).2 (fun Q hQ => ⟨fun z => absurd z c, fun _ => re _ ⟨fun z => absurd z d0, fun _ => ⟨rfl, hQ⟩⟩⟩)
  obtain ⟨n, h⟩ := h
  exact (key n _ _ _ h).to (fun Q hQ => ⟨n, hQ⟩)
theorem tr_mix {x y : Int32} (h : wp_X12_mixed P σ x y) : trc (fun Q => wp_X12_mixed Q σ x y) P := by
  have key : ∀ n (σ : rf_S) (x2 x3 : Int32), w_X12_mixed_6 P n σ x2 x3 → trc (fun Q => w_X12_mixed_6 Q n σ x2 x3) P := by
    intro n
    induction n with
    | zero => intro σ x2 x3 h; exact absurd h (fun z => z)
    | succ n ih =>
      intro σ x2 x3 h
      by_cases c : 8 ≤ x3
      · exact trc.one (h.1 c) (fun Q hQ => ⟨fun _ => hQ, fun z => absurd c z⟩)
      · by_cases d : 2 * x2 ≤ 255
        · exact (ih _ _ _ ((h.2 c).1 d)).to (fun Q hQ => ⟨fun z => absurd z c, fun _ => ⟨fun _ => hQ, fun z => absurd d z⟩⟩)
        · exact (ih _ _ _ ((h.2 c).2 d)).to (fun Q hQ => ⟨fun z => absurd z c, fun _ => ⟨fun z => absurd z d, fun _ => hQ⟩⟩)
  obtain ⟨n, h⟩ := h
  exact (key n _ _ _ h).to (fun Q hQ => ⟨n, hQ⟩)
theorem tr_chk {x y : Int32} (h : wp_X12_checkOf P σ x y) : trc (fun Q => wp_X12_checkOf Q σ x y) P := by
  have key : ∀ n (σ : rf_S) (x2 x3 x4 : Int32), w_X12_checkOf_5 P n σ x2 x3 x4 → trc (fun Q => w_X12_checkOf_5 Q n σ x2 x3 x4) P := by
    intro n
    induction n with
    | zero => intro σ x2 x3 x4 h; exact absurd h (fun z => z)
    | succ n ih =>
      intro σ x2 x3 x4 h
      by_cases c : x2 ≤ x4
      · exact trc.one (h.1 c) (fun Q hQ => ⟨fun _ => hQ, fun z => absurd c z⟩)
      · obtain ⟨r, s, a, re⟩ := tr_mix (h.2 c).2
        exact (ih _ _ _ _ a).to (fun Q hQ => ⟨fun z => absurd z c, fun _ => ⟨(h.2 c).1, re _ hQ⟩⟩)
  obtain ⟨n, h⟩ := h
  exact (key n _ _ _ _ h).to (fun Q hQ => ⟨n, hQ⟩)
theorem tr_fld {x y : Int32} (h : wp_X12_readsField P σ x y) : trc (fun Q => wp_X12_readsField Q σ x y) P := by
  have k199 : ∀ n (σ : rf_S) (x1 x4 x5 : Int32), w_X12_readsField_199 P n σ x1 x4 x5 → trc (fun Q => w_X12_readsField_199 Q n σ x1 x4 x5) P := by
    intro n
    induction n with
    | zero => intro σ x1 x4 x5 h; exact absurd h (fun z => z)
    | succ n ih =>
      intro σ x1 x4 x5 h
      by_cases c : x4 ≤ x5
      · exact trc.one (h.1 c) (fun Q hQ => ⟨fun _ => hQ, fun z => absurd c z⟩)
      · obtain ⟨r, s, a, re⟩ := tr_byteAt (h.2 c)
        by_cases d0 : 0 ≤ r
        · have a0 := (a.1 d0).1
          have a1 := (a.1 d0).2
          by_cases d1 : s.2.2.1 14 x1.toNatClampNeg = 1
          · have a2 := a1.2 d1
            by_cases d2 : r < 32
            · exact trc.one (a2.1 d2).2 (fun Q hQ => ⟨fun z => absurd z c, fun _ => re _ ⟨fun _ => ⟨a0, fun z => absurd d1 z, fun _ => ⟨fun _ => ⟨rfl, hQ⟩, fun z => absurd d2 z⟩⟩, fun z => absurd d0 z⟩⟩)
            · by_cases d3 : r ≤ 126
              · have a3 := (a2.2 d2).1 d3
                exact (ih _ _ _ _ a3.2).to (fun Q hQ => ⟨fun z => absurd z c, fun _ => re _ ⟨fun _ => ⟨a0, fun z => absurd d1 z, fun _ => ⟨fun z => absurd z d2, fun _ => ⟨fun _ => ⟨a3.1, hQ⟩, fun z => absurd d3 z⟩⟩⟩, fun z => absurd d0 z⟩⟩)
              · exact trc.one ((a2.2 d2).2 d3).2 (fun Q hQ => ⟨fun z => absurd z c, fun _ => re _ ⟨fun _ => ⟨a0, fun z => absurd d1 z, fun _ => ⟨fun z => absurd z d2, fun _ => ⟨fun z => absurd z d3, fun _ => ⟨rfl, hQ⟩⟩⟩⟩, fun z => absurd d0 z⟩⟩)
          · have a2 := a1.1 d1
            exact (ih _ _ _ _ a2.2.2).to (fun Q hQ => ⟨fun z => absurd z c, fun _ => re _ ⟨fun _ => ⟨a0, fun _ => ⟨a2.1, a2.2.1, hQ⟩, fun z => absurd z d1⟩, fun z => absurd d0 z⟩⟩)
        · exact trc.one (a.2 d0).2 (fun Q hQ => ⟨fun z => absurd z c, fun _ => re _ ⟨fun z => absurd z d0, fun _ => ⟨rfl, hQ⟩⟩⟩)
  have k67 : ∀ (σ : rf_S) (x1 : Int32), w_X12_readsField_67 P σ x1 → trc (fun Q => w_X12_readsField_67 Q σ x1) P := by
    intro σ x1 h
    obtain ⟨r, s, a, re⟩ := tr_count h
    by_cases c : r = 0
    · exact trc.one (a.2 c) (fun Q hQ => re _ ⟨fun z => absurd c z, fun _ => hQ⟩)
    · have a0 := (a.1 c).1
      have a0' := (a.1 c).2.1
      have a1 := (a.1 c).2.2
      by_cases d0 : s.1 28 = 0
      · obtain ⟨r2, s2, b, re2⟩ := tr_uns (a1.2 d0)
        by_cases e : r2 = 0
        · exact trc.one (b.2 e) (fun Q hQ => re _ ⟨fun _ => ⟨a0, a0', fun z => absurd d0 z, fun _ => re2 _ ⟨fun z => absurd e z, fun _ => hQ⟩⟩, fun z => absurd z c⟩)
        · exact trc.one (b.1 e).2 (fun Q hQ => re _ ⟨fun _ => ⟨a0, a0', fun z => absurd d0 z, fun _ => re2 _ ⟨fun _ => ⟨(b.1 e).1, hQ⟩, fun z => absurd z e⟩⟩, fun z => absurd z c⟩)
      · by_cases d1 : s.1 28 = 1
        · obtain ⟨r2, s2, b, re2⟩ := tr_count ((a1.1 d0).2 d1)
          by_cases e : r2 = 0
          · exact trc.one (b.2 e) (fun Q hQ => re _ ⟨fun _ => ⟨a0, a0', fun _ => ⟨fun z => absurd d1 z, fun _ => re2 _ ⟨fun z => absurd e z, fun _ => hQ⟩⟩, fun z => absurd z d0⟩, fun z => absurd z c⟩)
          · obtain ⟨b1, b2, n, b3⟩ := b.1 e
            exact (k199 n _ _ _ _ b3).to (fun Q hQ => re _ ⟨fun _ => ⟨a0, a0', fun _ => ⟨fun z => absurd d1 z, fun _ => re2 _ ⟨fun _ => ⟨b1, b2, n, hQ⟩, fun z => absurd z e⟩⟩, fun z => absurd z d0⟩, fun z => absurd z c⟩)
        · obtain ⟨b1, n, b3⟩ := (a1.1 d0).1 d1
          exact (k199 n _ _ _ _ b3).to (fun Q hQ => re _ ⟨fun _ => ⟨a0, a0', fun _ => ⟨fun _ => ⟨b1, n, hQ⟩, fun z => absurd z d1⟩, fun z => absurd z d0⟩, fun z => absurd z c⟩)
  obtain ⟨r, s, a, re⟩ := tr_count h
  by_cases c : r = 0
  · exact trc.one (a.1 c) (fun Q hQ => re _ ⟨fun _ => hQ, fun z => absurd c z⟩)
  · obtain ⟨r2, s2, b, re2⟩ := tr_let (a.2 c)
    by_cases c2 : r2 = 0
    · exact trc.one (b.2 c2) (fun Q hQ => re _ ⟨fun z => absurd z c, fun _ => re2 _ ⟨fun z => absurd c2 z, fun _ => hQ⟩⟩)
    · have b0 := (b.1 c2).1
      have b1 := (b.1 c2).2
      by_cases d : y ≤ 0
      · exact (k67 _ _ (b1.1 d)).to (fun Q hQ => re _ ⟨fun z => absurd z c, fun _ => re2 _ ⟨fun _ => ⟨b0, fun _ => hQ, fun z => absurd d z⟩, fun z => absurd z c2⟩⟩)
      · obtain ⟨b2, b3, b4⟩ := b1.2 d
        by_cases d2 : 0 < (lg_cmp ((rf_ub s2 13 x.toNatClampNeg (s2.2.1 29)).2.2.2 13 x.toNatClampNeg) ((rf_ub s2 13 x.toNatClampNeg (s2.2.1 29)).2.2.2 13 (x - 1).toNatClampNeg))
        · exact (k67 _ _ (b4.1 d2)).to (fun Q hQ => re _ ⟨fun z => absurd z c, fun _ => re2 _ ⟨fun _ => ⟨b0, fun z => absurd z d, fun _ => ⟨b2, b3, fun _ => hQ, fun z => absurd d2 z⟩⟩, fun z => absurd z c2⟩⟩)
        · exact trc.one (b4.2 d2).2 (fun Q hQ => re _ ⟨fun z => absurd z c, fun _ => re2 _ ⟨fun _ => ⟨b0, fun z => absurd z d, fun _ => ⟨b2, b3, fun z => absurd z d2, fun _ => ⟨rfl, hQ⟩⟩⟩, fun z => absurd z c2⟩⟩)
theorem tr_rec {x : Int32} (h : wp_X12_readsRecord P σ x) : trc (fun Q => wp_X12_readsRecord Q σ x) P := by
  have k173 : ∀ n (σ : rf_S) (x1 x2 x6 x7 : Int32), w_X12_readsRecord_173 P n σ x1 x2 x6 x7 → trc (fun Q => w_X12_readsRecord_173 Q n σ x1 x2 x6 x7) P := by
    intro n
    induction n with
    | zero => intro σ x1 x2 x6 x7 h; exact absurd h (fun z => z)
    | succ n ih =>
      intro σ x1 x2 x6 x7 h
      have h0 := h.1
      by_cases c : σ.2.2.1 9 x1.toNatClampNeg ≤ x7
      · obtain ⟨rc, sc, a, re⟩ := tr_chk (h.2.1 c)
        obtain ⟨r, s, b, re2⟩ := tr_byteAt a
        by_cases d : r = rc
        · exact trc.one (b.2 d) (fun Q hQ => ⟨h0, fun _ => re _ (re2 _ ⟨fun z => absurd d z, fun _ => hQ⟩), fun z => absurd c z⟩)
        · by_cases d2 : 0 ≤ r
          · exact trc.one ((b.1 d).1 d2).2 (fun Q hQ => ⟨h0, fun _ => re _ (re2 _ ⟨fun _ => ⟨fun _ => ⟨rfl, hQ⟩, fun z => absurd d2 z⟩, fun z => absurd z d⟩), fun z => absurd c z⟩)
          · exact trc.one ((b.1 d).2 d2).2 (fun Q hQ => ⟨h0, fun _ => re _ (re2 _ ⟨fun _ => ⟨fun z => absurd z d2, fun _ => ⟨rfl, hQ⟩⟩, fun z => absurd z d⟩), fun z => absurd c z⟩)
      · obtain ⟨r, s, a, re⟩ := tr_fld (h.2.2 c)
        by_cases d : r = 0
        · exact trc.one (a.2 d) (fun Q hQ => ⟨h0, fun z => absurd z c, fun _ => re _ ⟨fun z => absurd d z, fun _ => hQ⟩⟩)
        · exact (ih _ _ _ _ _ (a.1 d)).to (fun Q hQ => ⟨h0, fun z => absurd z c, fun _ => re _ ⟨fun _ => hQ, fun z => absurd z d⟩⟩)
  obtain ⟨r0, s0, a, re⟩ := tr_byteAt h
  by_cases c : r0 = 229
  · obtain ⟨r, s, a, re1⟩ := tr_uns (a.1 c)
    have in1 : ∀ Q : Int32 → rf_S → Prop, wp_X12_readsUnsigned _ _ → wp_X12_readsRecord Q σ x := fun Q hQ => re _ ⟨fun _ => hQ, fun z => absurd c z⟩
    by_cases c2 : r = 0
    · exact trc.one (a.2 c2) (fun Q hQ => in1 Q (re1 _ ⟨fun z => absurd c2 z, fun _ => hQ⟩))
    · have a1 := a.1 c2
      by_cases d1 : 0 < (lg_cmp (((s.1 22).toInt64) + (s.2.1 27)) 2000000000)
      · exact trc.one (a1.1 d1).2 (fun Q hQ => in1 Q (re1 _ ⟨fun _ => ⟨fun _ => ⟨rfl, hQ⟩, fun z => absurd d1 z⟩, fun z => absurd z c2⟩))
      · by_cases d2 : 0 ≤ (lg_cmp (((s.1 22).toInt64) + (s.2.1 27)) ((s.1 21).toInt64))
        · obtain ⟨r2, s2, b, re2⟩ := tr_count ((a1.2 d1).1 d2)
          have in2 : ∀ Q : Int32 → rf_S → Prop, wp_X12_readsCount _ _ 1 12 → wp_X12_readsRecord Q σ x := fun Q hQ => in1 Q (re1 _ ⟨fun _ => ⟨fun z => absurd z d1, fun _ => ⟨fun _ => hQ, fun z => absurd d2 z⟩⟩, fun z => absurd z c2⟩)
          by_cases e : r2 = 0
          · exact trc.one (b.1 e) (fun Q hQ => in2 Q (re2 _ ⟨fun _ => hQ, fun z => absurd e z⟩))
          · obtain ⟨r3, s3, b3, re3⟩ := tr_let (b.2 e)
            by_cases e2 : r3 = 0
            · exact trc.one (b3.2 e2) (fun Q hQ => in2 Q (re2 _ ⟨fun z => absurd z e, fun _ => re3 _ ⟨fun z => absurd e2 z, fun _ => hQ⟩⟩))
            · obtain ⟨i1, i2, b4⟩ := b3.1 e2
              obtain ⟨r4, s4, b5, re4⟩ := tr_count b4
              by_cases e3 : r4 = 0
              · exact trc.one (b5.2 e3) (fun Q hQ => in2 Q (re2 _ ⟨fun z => absurd z e, fun _ => re3 _ ⟨fun _ => ⟨i1, i2, re4 _ ⟨fun z => absurd e3 z, fun _ => hQ⟩⟩, fun z => absurd z e2⟩⟩))
              · obtain ⟨i3, n, b6⟩ := b5.1 e3
                exact (k173 n _ _ _ _ _ b6).to (fun Q hQ => in2 Q (re2 _ ⟨fun z => absurd z e, fun _ => re3 _ ⟨fun _ => ⟨i1, i2, re4 _ ⟨fun _ => ⟨i3, n, hQ⟩, fun z => absurd z e3⟩⟩, fun z => absurd z e2⟩⟩))
        · exact trc.one ((a1.2 d1).2 d2).2 (fun Q hQ => in1 Q (re1 _ ⟨fun _ => ⟨fun z => absurd z d1, fun _ => ⟨fun z => absurd z d2, fun _ => ⟨rfl, hQ⟩⟩⟩, fun z => absurd z c2⟩))
  · exact trc.one (a.2 c).2 (fun Q hQ => re _ ⟨fun z => absurd z c, fun _ => ⟨rfl, hQ⟩⟩)
end TR
