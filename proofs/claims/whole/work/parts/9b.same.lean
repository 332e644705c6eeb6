/-! ===== the reference's reading ends in one way alone ===== -/
section DT
variable {X : Prop} {P P' : Int32 → rf_S → Prop} {σ : rf_S}
theorem dt_byteAt {p : Int32} (k : ∀ r s, P r s → P' r s → X) (h : wp_X12_byteAt P σ p) (h' : wp_X12_byteAt P' σ p) : X := by
  by_cases c : σ.1 3 ≤ p
  · exact k _ _ (h.1 c) (h'.1 c)
  · exact k _ _ (h.2 c).2 (h'.2 c).2
theorem dt_count {lo hi : Int32} (k : ∀ r s, P r s → P' r s → X) (h : wp_X12_readsCount P σ lo hi) (h' : wp_X12_readsCount P' σ lo hi) : X := by
  refine dt_byteAt (fun r s a b => ?_) h h'
  by_cases c : 0 ≤ r
  · by_cases c2 : r < lo
    · exact k _ _ ((a.1 c).1 c2).2 ((b.1 c).1 c2).2
    · by_cases c3 : r ≤ hi
      · exact k _ _ (((a.1 c).2 c2).1 c3) (((b.1 c).2 c2).1 c3)
      · exact k _ _ (((a.1 c).2 c2).2 c3).2 (((b.1 c).2 c2).2 c3).2
  · exact k _ _ (a.2 c).2 (b.2 c).2
theorem dt_uns (k : ∀ r s, P r s → P' r s → X) (h : wp_X12_readsUnsigned P σ) (h' : wp_X12_readsUnsigned P' σ) : X := by
  have key : ∀ n n' (σ : rf_S) (x1 : Int32) (x2 : Int64) (x4 : Int32), w_X12_readsUnsigned_10 P n σ x1 x2 x4 → w_X12_readsUnsigned_10 P' n' σ x1 x2 x4 → X := by
    intro n
    induction n with
    | zero => intro n' σ x1 x2 x4 h; exact absurd h (fun z => z)
    | succ n ih =>
      intro n' σ x1 x2 x4 h h'
      cases n' with
      | zero => exact absurd h' (fun z => z)
      | succ n' =>
        by_cases c : 5 ≤ x4
        · exact k _ _ (h.1 c).2 (h'.1 c).2
        · refine dt_byteAt (fun r s a b => ?_) (h.2 c) (h'.2 c)
          have h97 : ∀ (σ : rf_S), w_X12_readsUnsigned_97 P σ x1 → w_X12_readsUnsigned_97 P' σ x1 → X := fun σ y y' => k _ _ (y.1 rfl).2 (y'.1 rfl).2
          by_cases d0 : 0 ≤ r
          · have a1 := a.1 d0
            have b1 := b.1 d0
            by_cases d1 : 128 ≤ r
            · exact ih n' _ _ _ _ (a1.1 d1) (b1.1 d1)
            · have a2 := a1.2 d1
              have b2 := b1.2 d1
              by_cases d2 : 0 < (lg_cmp (x2 ||| (((r &&& 127).toInt64) <<< ((7 * x4).toInt64 &&& 63))) 4294967295)
              · exact h97 _ (a2.1 d2) (b2.1 d2)
              · by_cases d3 : 0 < r
                · exact k _ _ ((a2.2 d2).1 d3).2 ((b2.2 d2).1 d3).2
                · by_cases d4 : x4 = 0
                  · exact k _ _ (((a2.2 d2).2 d3).1 d4).2 (((b2.2 d2).2 d3).1 d4).2
                  · exact h97 _ (((a2.2 d2).2 d3).2 d4) (((b2.2 d2).2 d3).2 d4)
          · exact k _ _ (a.2 d0).2 (b.2 d0).2
  obtain ⟨n, h⟩ := h
  obtain ⟨n', h'⟩ := h'
  exact key n n' _ _ _ _ h h'
theorem dt_let {x : Int32} (k : ∀ r s, P r s → P' r s → X) (h : wp_X12_readsLetters P σ x) (h' : wp_X12_readsLetters P' σ x) : X := by
  have key : ∀ n n' (σ : rf_S) (x1 x2 : Int32), w_X12_readsLetters_12 P n σ x1 x2 → w_X12_readsLetters_12 P' n' σ x1 x2 → X := by
    intro n
    induction n with
    | zero => intro n' σ x1 x2 h; exact absurd h (fun z => z)
    | succ n ih =>
      intro n' σ x1 x2 h h'
      cases n' with
      | zero => exact absurd h' (fun z => z)
      | succ n' =>
        by_cases c : x1 ≤ x2
        · exact k _ _ (h.1 c) (h'.1 c)
        · refine dt_byteAt (fun r s a b => ?_) (h.2 c) (h'.2 c)
          by_cases d0 : 0 ≤ r
          · have a1 := a.1 d0
            have b1 := b.1 d0
            by_cases d1 : r < 97
            · exact k _ _ (a1.1 d1).2 (b1.1 d1).2
            · by_cases d2 : r ≤ 122
              · have a2 := (a1.2 d1).1 d2
                have b2 := (b1.2 d1).1 d2
                by_cases d3 : 8 ≤ x2
                · exact ih n' _ _ _ (a2.1 d3) (b2.1 d3)
                · exact ih n' _ _ _ (a2.2 d3) (b2.2 d3)
              · exact k _ _ ((a1.2 d1).2 d2).2 ((b1.2 d1).2 d2).2
          · exact k _ _ (a.2 d0).2 (b.2 d0).2
  obtain ⟨n, h⟩ := h
  obtain ⟨n', h'⟩ := h'
  exact key n n' _ _ _ h h'
theorem dt_mix {x y : Int32} (k : ∀ r s, P r s → P' r s → X) (h : wp_X12_mixed P σ x y) (h' : wp_X12_mixed P' σ x y) : X := by
  have key : ∀ n n' (σ : rf_S) (x2 x3 : Int32), w_X12_mixed_6 P n σ x2 x3 → w_X12_mixed_6 P' n' σ x2 x3 → X := by
    intro n
    induction n with
    | zero => intro n' σ x2 x3 h; exact absurd h (fun z => z)
    | succ n ih =>
      intro n' σ x2 x3 h h'
      cases n' with
      | zero => exact absurd h' (fun z => z)
      | succ n' =>
        by_cases c : 8 ≤ x3
        · exact k _ _ (h.1 c) (h'.1 c)
        · by_cases d : 2 * x2 ≤ 255
          · exact ih n' _ _ _ ((h.2 c).1 d) ((h'.2 c).1 d)
          · exact ih n' _ _ _ ((h.2 c).2 d) ((h'.2 c).2 d)
  obtain ⟨n, h⟩ := h
  obtain ⟨n', h'⟩ := h'
  exact key n n' _ _ _ h h'
theorem dt_chk {x y : Int32} (k : ∀ r s, P r s → P' r s → X) (h : wp_X12_checkOf P σ x y) (h' : wp_X12_checkOf P' σ x y) : X := by
  have key : ∀ n n' (σ : rf_S) (x2 x3 x4 : Int32), w_X12_checkOf_5 P n σ x2 x3 x4 → w_X12_checkOf_5 P' n' σ x2 x3 x4 → X := by
    intro n
    induction n with
    | zero => intro n' σ x2 x3 x4 h; exact absurd h (fun z => z)
    | succ n ih =>
      intro n' σ x2 x3 x4 h h'
      cases n' with
      | zero => exact absurd h' (fun z => z)
      | succ n' =>
        by_cases c : x2 ≤ x4
        · exact k _ _ (h.1 c) (h'.1 c)
        · exact dt_mix (fun r s a b => ih n' _ _ _ _ a b) (h.2 c).2 (h'.2 c).2
  obtain ⟨n, h⟩ := h
  obtain ⟨n', h'⟩ := h'
  exact key n n' _ _ _ _ h h'
theorem dt_fld {x y : Int32} (k : ∀ r s, P r s → P' r s → X) (h : wp_X12_readsField P σ x y) (h' : wp_X12_readsField P' σ x y) : X := by
  have k199 : ∀ n n' (σ : rf_S) (x1 x4 x5 : Int32), w_X12_readsField_199 P n σ x1 x4 x5 → w_X12_readsField_199 P' n' σ x1 x4 x5 → X := by
    intro n
    induction n with
    | zero => intro n' σ x1 x4 x5 h; exact absurd h (fun z => z)
    | succ n ih =>
      intro n' σ x1 x4 x5 h h'
      cases n' with
      | zero => exact absurd h' (fun z => z)
      | succ n' =>
        by_cases c : x4 ≤ x5
        · exact k _ _ (h.1 c) (h'.1 c)
        · refine dt_byteAt (fun r s a b => ?_) (h.2 c) (h'.2 c)
          by_cases d0 : 0 ≤ r
          · have a1 := (a.1 d0).2
            have b1 := (b.1 d0).2
            by_cases d1 : s.2.2.1 14 x1.toNatClampNeg = 1
            · have a2 := a1.2 d1
              have b2 := b1.2 d1
              by_cases d2 : r < 32
              · exact k _ _ (a2.1 d2).2 (b2.1 d2).2
              · by_cases d3 : r ≤ 126
                · exact ih n' _ _ _ _ ((a2.2 d2).1 d3).2 ((b2.2 d2).1 d3).2
                · exact k _ _ ((a2.2 d2).2 d3).2 ((b2.2 d2).2 d3).2
            · exact ih n' _ _ _ _ (a1.1 d1).2.2 (b1.1 d1).2.2
          · exact k _ _ (a.2 d0).2 (b.2 d0).2
  have k67 : ∀ (σ : rf_S) (x1 : Int32), w_X12_readsField_67 P σ x1 → w_X12_readsField_67 P' σ x1 → X := by
    intro σ x1 h h'
    refine dt_count (fun r s a b => ?_) h h'
    by_cases c : r = 0
    · exact k _ _ (a.2 c) (b.2 c)
    · have a1 := (a.1 c).2.2
      have b1 := (b.1 c).2.2
      by_cases d0 : s.1 28 = 0
      · refine dt_uns (fun r s a b => ?_) (a1.2 d0) (b1.2 d0)
        by_cases e : r = 0
        · exact k _ _ (a.2 e) (b.2 e)
        · exact k _ _ (a.1 e).2 (b.1 e).2
      · by_cases d1 : s.1 28 = 1
        · refine dt_count (fun r s a b => ?_) ((a1.1 d0).2 d1) ((b1.1 d0).2 d1)
          by_cases e : r = 0
          · exact k _ _ (a.2 e) (b.2 e)
          · obtain ⟨n, h⟩ := (a.1 e).2.2
            obtain ⟨n', h'⟩ := (b.1 e).2.2
            exact k199 n n' _ _ _ _ h h'
        · obtain ⟨n, h⟩ := ((a1.1 d0).1 d1).2
          obtain ⟨n', h'⟩ := ((b1.1 d0).1 d1).2
          exact k199 n n' _ _ _ _ h h'
  refine dt_count (fun r s a b => ?_) h h'
  by_cases c : r = 0
  · exact k _ _ (a.1 c) (b.1 c)
  · refine dt_let (fun r s a b => ?_) (a.2 c) (b.2 c)
    by_cases c2 : r = 0
    · exact k _ _ (a.2 c2) (b.2 c2)
    · have a1 := (a.1 c2).2
      have b1 := (b.1 c2).2
      by_cases d : y ≤ 0
      · exact k67 _ _ (a1.1 d) (b1.1 d)
      · have a2 := (a1.2 d).2.2
        have b2 := (b1.2 d).2.2
        by_cases d2 : 0 < (lg_cmp ((rf_ub s 13 x.toNatClampNeg (s.2.1 29)).2.2.2 13 x.toNatClampNeg) ((rf_ub s 13 x.toNatClampNeg (s.2.1 29)).2.2.2 13 (x - 1).toNatClampNeg))
        · exact k67 _ _ (a2.1 d2) (b2.1 d2)
        · exact k _ _ (a2.2 d2).2 (b2.2 d2).2
theorem dt_rec {x : Int32} (k : ∀ r s, P r s → P' r s → X) (h : wp_X12_readsRecord P σ x) (h' : wp_X12_readsRecord P' σ x) : X := by
  have k173 : ∀ n n' (σ : rf_S) (x1 x2 x6 x7 : Int32), w_X12_readsRecord_173 P n σ x1 x2 x6 x7 → w_X12_readsRecord_173 P' n' σ x1 x2 x6 x7 → X := by
    intro n
    induction n with
    | zero => intro n' σ x1 x2 x6 x7 h; exact absurd h (fun z => z)
    | succ n ih =>
      intro n' σ x1 x2 x6 x7 h h'
      cases n' with
      | zero => exact absurd h' (fun z => z)
      | succ n' =>
        by_cases c : σ.2.2.1 9 x1.toNatClampNeg ≤ x7
        · refine dt_chk (fun rc sc a b => ?_) (h.2.1 c) (h'.2.1 c)
          refine dt_byteAt (fun r s a b => ?_) a b
          by_cases d : r = rc
          · exact k _ _ (a.2 d) (b.2 d)
          · by_cases d2 : 0 ≤ r
            · exact k _ _ ((a.1 d).1 d2).2 ((b.1 d).1 d2).2
            · exact k _ _ ((a.1 d).2 d2).2 ((b.1 d).2 d2).2
        · refine dt_fld (fun r s a b => ?_) (h.2.2 c) (h'.2.2 c)
          by_cases d : r = 0
          · exact k _ _ (a.2 d) (b.2 d)
          · exact ih n' _ _ _ _ _ (a.1 d) (b.1 d)
  refine dt_byteAt (fun r0 s0 a b => ?_) h h'
  by_cases c : r0 = 229
  · refine dt_uns (fun r s a b => ?_) (a.1 c) (b.1 c)
    by_cases c2 : r = 0
    · exact k _ _ (a.2 c2) (b.2 c2)
    · have a1 := a.1 c2
      have b1 := b.1 c2
      by_cases d1 : 0 < (lg_cmp (((s.1 22).toInt64) + (s.2.1 27)) 2000000000)
      · exact k _ _ (a1.1 d1).2 (b1.1 d1).2
      · by_cases d2 : 0 ≤ (lg_cmp (((s.1 22).toInt64) + (s.2.1 27)) ((s.1 21).toInt64))
        · refine dt_count (fun r s a b => ?_) ((a1.2 d1).1 d2) ((b1.2 d1).1 d2)
          by_cases e : r = 0
          · exact k _ _ (a.1 e) (b.1 e)
          · refine dt_let (fun r s a b => ?_) (a.2 e) (b.2 e)
            by_cases e2 : r = 0
            · exact k _ _ (a.2 e2) (b.2 e2)
            · refine dt_count (fun r s a b => ?_) (a.1 e2).2.2 (b.1 e2).2.2
              by_cases e3 : r = 0
              · exact k _ _ (a.2 e3) (b.2 e3)
              · obtain ⟨n, h⟩ := (a.1 e3).2
                obtain ⟨n', h'⟩ := (b.1 e3).2
                exact k173 n n' _ _ _ _ _ h h'
        · exact k _ _ ((a1.2 d1).2 d2).2 ((b1.2 d1).2 d2).2
  · exact k _ _ (a.2 c).2 (b.2 c).2
/-- two ends are one -/
theorem rec_one {x r r' : Int32} {s s' : rf_S} (h : ∀ Q : Int32 → rf_S → Prop, Q r s → wp_X12_readsRecord Q σ x) (h' : ∀ Q : Int32 → rf_S → Prop, Q r' s' → wp_X12_readsRecord Q σ x) : r = r' ∧ s = s' :=
  dt_rec (P := fun a b => a = r ∧ b = s) (P' := fun a b => a = r' ∧ b = s') (fun _ _ a b => ⟨a.1.symm.trans b.1, a.2.symm.trans b.2⟩) (h _ ⟨rfl, rfl⟩) (h' _ ⟨rfl, rfl⟩)
end DT
