/-! ===== the class: chains ===== -/
/-- a row of events -/
def rwW (S : cs_S) (sr k : Nat) (R : Nat → Option Nat) : Prop := cs_k S sr = 23 ∧ cs_n S sr = k ∧ ∀ j, j < k → cs_ar S sr j = R j ∧ ∀ b, R j = some b → cs_k S b = 5
/-- what it becomes -/
def rwN (R : Nat → Option Nat) (H : Nat) (br : Bool) (q0 j : Nat) : Option Nat := if j = 0 then (if H.testBit 0 = true then some q0 else if br = true then none else R 0) else if br = true then none else if H.testBit j = true then R (j - 1) else R j
def rwO (R : Nat → Option Nat) (H k q0 : Nat) : Option Nat := if k = 1 then some q0 else if H.testBit (k - 1) = true then R (k - 2) else R (k - 1)
def rwM (R : Nat → Option Nat) (H j i : Nat) : Option Nat := if j < i then (if H.testBit i = true then R (i - 1) else R i) else R i
def rwE (sr s x : Nat) : Prop := s = 5 ∧ x = sr
section CCH
variable {G : Nat → Nat} {S : cs_S} {ra sr k H q0 mc ms u v : Nat} {R : Nat → Option Nat} {br : Bool} {x4 : Int32} {post : Int32 → cs_S → Prop}
theorem rwW.fx {S' : cs_S} (h : rwW S sr k R) (hF : fX (fun s _ x => s = 5 ∧ x = sr) S S') {R' : Nat → Option Nat} (hr : ∀ j, j < k → cs_ar S' sr j = R' j) (hb : ∀ j, j < k → ∀ b, R' j = some b → cs_k S b = 5) : rwW S' sr k R' := by
  obtain ⟨h1, h2, h3⟩ := h
  obtain ⟨a1, a2, -⟩ := hF sr (by omega)
  refine ⟨a1.trans h1, a2.trans h2, fun j hj => ⟨hr j hj, fun b hbj => ?_⟩⟩
  have := hb j hj b hbj
  exact (hF b (by omega)).1.trans this
theorem cch_33 (hu : u ≤ mc) (hv : v ≤ ms) (hra : cs_k S ra = 9) {a : Nat} (ha : cs_k S a = 6) (h512 : cs_r S 512 a = some sr) (hR : rwW S sr k R) (hk1 : 1 ≤ k) (hk5 : k ≤ 5) (hH : H < 64) (hq0 : cs_k S q0 = 5) (hb : (br = true → ¬ x4 = 0) ∧ (br = false → x4 = 0))
    (hpost : ∀ S' res, fX (fun s _ x => s = 5 ∧ x = sr) S S' → rwW S' sr k (rwN R H br q0) → ((H.testBit (k - 1) = true ∧ ∃ s, rwO R H k q0 = some s ∧ ¬ cs_i S 400 s ≤ cs_i S 400 q0 - cs_i S 810 ra ∧ res = cs_i S 405 s) ∨ (res = -1 ∧ ¬ (H.testBit (k - 1) = true ∧ ∃ s, rwO R H k q0 = some s ∧ ¬ cs_i S 400 s ≤ cs_i S 400 q0 - cs_i S 810 ra))) → post res S') :
    w_X7_findChain_33 post G mc ms S u v ra (some a) (some q0) (nI H) x4 (nI (k - 1)) := by
  obtain ⟨r1, r2, r3⟩ := id hR
  have Rk : ∀ j, j < k → ∀ b, R j = some b → cs_k S b = 5 := fun j hj => (r3 j hj).2
  have Mk : ∀ j i, i < k → ∀ b, rwM R H j i = some b → cs_k S b = 5 := fun j i hi b hb' => by
    unfold rwM at hb'
    split at hb'
    · split at hb'
      · exact Rk _ (by omega) b hb'
      · exact Rk _ hi b hb'
    · exact Rk _ hi b hb'
  have Sk : ∀ b, rwO R H k q0 = some b → cs_k S b = 5 := fun b hb' => by
    unfold rwO at hb'
    split at hb'
    · cases hb'; exact hq0
    · split at hb'
      · exact Rk _ (by omega) b hb'
      · exact Rk _ (by omega) b hb'
  have evI : ∀ S', fX (fun s _ x => s = 5 ∧ x = sr) S S' → ∀ b, cs_k S b = 5 → cs_k S' b = 5 ∧ ∀ f, cs_i S' f b = cs_i S f b := fun S' hF b hb' => by
    obtain ⟨a1, a2, a3, -⟩ := hF b (by omega)
    exact ⟨a1.trans hb', fun f => a3 f (fun z => by rw [z.2, r1] at hb'; cases hb')⟩
  -- the end
  have at181 : ∀ S1 (x8 : Option Nat) (x9 : Int32), fX (fun s _ x => s = 5 ∧ x = sr) S S1 → (∀ j, j < k → cs_ar S1 sr j = if br = true then none else rwM R H 0 j) → ((x9 = 1 ∧ H.testBit (k - 1) = true ∧ ∃ s, x8 = some s ∧ rwO R H k q0 = some s ∧ ¬ cs_i S 400 s ≤ cs_i S 400 q0 - cs_i S 810 ra) ∨ (x9 = 0 ∧ ¬ (H.testBit (k - 1) = true ∧ ∃ s, rwO R H k q0 = some s ∧ ¬ cs_i S 400 s ≤ cs_i S 400 q0 - cs_i S 810 ra))) → w_X7_findChain_181 post G mc ms S1 u v (some q0) (some sr) (if H.testBit 0 = true then 1 else 0) x8 x9 := by
    intro S1 x8 x9 hF hrow hx
    have fin : ∀ S2, fX (fun s _ x => s = 5 ∧ x = sr) S S2 → rwW S2 sr k (rwN R H br q0) → w_X7_findChain_191 post G mc ms S2 u v x8 x9 := fun S2 hF2 hrw => by
      refine ⟨hu, hv, fun z => ⟨hu, hv, hpost S2 _ hF2 hrw (Or.inr ⟨rfl, ?_⟩)⟩, fun z => ?_⟩
      · rcases hx with y | y
        · rw [y.1] at z; exact absurd z (by decide)
        · exact y.2
      · rcases hx with ⟨y1, y2, s, y3, y4, y5⟩ | y
        · obtain ⟨e1, e2⟩ := evI S2 hF2 s (Sk s y4)
          exact ⟨s, y3, e1, hu, hv, hpost S2 _ hF2 hrw (Or.inl ⟨y2, s, y4, y5, e2 405⟩)⟩
        · exact absurd y.1 z
    obtain ⟨a1, a2, -⟩ := hF sr (by omega)
    refine ⟨hu, hv, fun z => ?_, fun z => ⟨sr, rfl, a1.trans r1, by rw [a2, r2]; exact nI_in (c := 0) (by omega) (by omega), fun b hb' => by cases hb'; exact (evI S1 hF q0 hq0).1, fun S27 e27 => ?_⟩⟩
    · have h0 : ¬ H.testBit 0 = true := fun y => by rw [if_pos y] at z; exact absurd z (by decide)
      refine fin S1 hF (hR.fx hF (fun j hj => ?_) (fun j hj b hb' => ?_))
      · rw [hrow j hj]
        unfold rwN rwM
        by_cases c : j = 0
        · subst c
          rw [if_neg (Nat.lt_irrefl 0), if_pos rfl, if_neg h0]
        · rw [if_neg c, if_pos (Nat.pos_of_ne_zero c)]
      · unfold rwN at hb'
        rw [if_neg h0] at hb'
        split at hb'
        · split at hb'
          · cases hb'
          · exact Rk 0 (by omega) b hb'
        · split at hb'
          · cases hb'
          · split at hb'
            · exact Rk _ (by omega) b hb'
            · exact Rk _ hj b hb'
    · have h0 : H.testBit 0 = true := by
        by_cases y : H.testBit 0 = true
        · exact y
        · rw [if_neg y] at z; exact absurd rfl z
      subst e27
      have hF2 : fX (fun s _ x => s = 5 ∧ x = sr) S (cs_uar S1 sr (0 : Int32).toNatClampNeg (some q0)) := hF.uar (Or.inl ⟨rfl, rfl⟩)
      refine fin _ hF2 (hR.fx hF2 (fun j hj => ?_) (fun j hj b hb' => ?_))
      · rw [aruar]
        by_cases c : j = 0
        · subst c
          rw [if_pos ⟨rfl, rfl⟩]
          unfold rwN
          rw [if_pos rfl, if_pos h0]
        · rw [if_neg (fun z => c z.2), hrow j hj]
          unfold rwN rwM
          rw [if_neg c, if_pos (Nat.pos_of_ne_zero c)]
      · unfold rwN at hb'
        rw [if_pos h0] at hb'
        split at hb'
        · cases hb'; exact hq0
        · split at hb'
          · cases hb'
          · split at hb'
            · exact Rk _ (by omega) b hb'
            · exact Rk _ hj b hb'
  have at151 : ∀ S1 (x8 : Option Nat) (x9 : Int32), fX (fun s _ x => s = 5 ∧ x = sr) S S1 → (∀ j, j < k → cs_ar S1 sr j = rwM R H 0 j) → ((x9 = 1 ∧ H.testBit (k - 1) = true ∧ ∃ s, x8 = some s ∧ rwO R H k q0 = some s ∧ ¬ cs_i S 400 s ≤ cs_i S 400 q0 - cs_i S 810 ra) ∨ (x9 = 0 ∧ ¬ (H.testBit (k - 1) = true ∧ ∃ s, rwO R H k q0 = some s ∧ ¬ cs_i S 400 s ≤ cs_i S 400 q0 - cs_i S 810 ra))) → w_X7_findChain_151 post G mc ms S1 u v (some q0) x4 (some sr) (if H.testBit 0 = true then 1 else 0) x8 x9 := by
    intro S1 x8 x9 hF hrow hx
    refine ⟨hu, hv, fun z => ?_, fun z => ?_⟩
    · have hbr : ¬ br = true := fun y => hb.1 y z
      exact at181 S1 x8 x9 hF (fun j hj => by rw [if_neg hbr]; exact hrow j hj) hx
    · have hbr : br = true := by
        cases br with
        | true => rfl
        | false => exact absurd (hb.2 rfl) z
      have loop : ∀ n i S2, i + n = k → fX (fun s _ x => s = 5 ∧ x = sr) S S2 → (∀ j, j < i → cs_ar S2 sr j = none) → w_X7_findChain_161 post G mc ms (n + 1) S2 u v (some q0) (some sr) (if H.testBit 0 = true then 1 else 0) x8 x9 (nI i) := by
        intro n
        induction n with
        | zero =>
          intro i S2 hi hF2 hall
          obtain ⟨a1, a2, -⟩ := hF2 sr (by omega)
          refine ⟨hu, hv, sr, rfl, a1.trans r1, fun _ => at181 S2 x8 x9 hF2 (fun j hj => by rw [if_pos hbr]; exact hall j (by omega)) hx, fun z => ?_⟩
          rw [a2, r2] at z
          exact absurd (nI_le (a := k) (b := i) (by omega) (by omega)) z
        | succ n ih =>
          intro i S2 hi hF2 hall
          obtain ⟨a1, a2, -⟩ := hF2 sr (by omega)
          refine ⟨hu, hv, sr, rfl, a1.trans r1, fun z => ?_, fun _ => ⟨by rw [a2, r2]; exact nI_in (by omega) (by omega), fun b hb' => (nomatch hb'), fun S30 e30 => ?_⟩⟩
          · rw [a2, r2] at z
            exact absurd z (nI_ge (by omega) (by omega))
          · subst e30
            rw [nI_1, nI_clamp (by omega)]
            refine ih (i + 1) _ (by omega) (hF2.uar (Or.inl ⟨rfl, rfl⟩)) (fun j hj => ?_)
            rw [aruar]
            by_cases c : j = i
            · rw [if_pos ⟨rfl, c⟩]
            · rw [if_neg (fun z => c z.2)]; exact hall j (by omega)
      exact ⟨k + 1, loop k 0 S1 (by omega) hF (fun j hj => absurd hj (by omega))⟩
  have at112 : ∀ S1, fX (fun s _ x => s = 5 ∧ x = sr) S S1 → (∀ j, j < k → cs_ar S1 sr j = rwM R H 0 j) → w_X7_findChain_112 post G mc ms S1 u v ra (some q0) (nI H) x4 (nI (k - 1)) (some sr) (if H.testBit 0 = true then 1 else 0) (rwO R H k q0) := by
    intro S1 hF hrow
    have bt := bt_c H hH (k - 1) (by omega)
    have at150 : ∀ x8, ¬ (H.testBit (k - 1) = true ∧ ∃ s, rwO R H k q0 = some s ∧ ¬ cs_i S 400 s ≤ cs_i S 400 q0 - cs_i S 810 ra) → w_X7_findChain_150 post G mc ms S1 u v (some q0) x4 (some sr) (if H.testBit 0 = true then 1 else 0) x8 := fun x8 z => ⟨hu, hv, at151 S1 x8 0 hF hrow (Or.inr ⟨rfl, z⟩)⟩
    refine ⟨hu, hv, fun z => at150 _ (fun y => z (bt.2.mpr y.1)), fun z => ⟨fun hn => at150 _ (fun y => ?_), fun b31 e31 => ?_⟩⟩
    · obtain ⟨s, y1, -⟩ := y.2
      rw [hn] at y1; cases y1
    · obtain ⟨e1, e2⟩ := evI S1 hF b31 (Sk _ e31)
      obtain ⟨p1, p2⟩ := evI S1 hF q0 hq0
      obtain ⟨a1, -, a3, -⟩ := hF ra (by omega)
      have h810 : cs_i S1 810 ra = cs_i S 810 ra := a3 810 (fun z => by rw [z.2, r1] at hra; cases hra)
      refine ⟨e1, q0, rfl, p1, a1.trans hra, fun y => at150 _ (fun w => ?_), fun y => at151 S1 _ 1 hF hrow (Or.inl ⟨rfl, bt.2.mp z, b31, rfl, e31, ?_⟩)⟩
      · obtain ⟨s, w1, w2⟩ := w.2
        rw [e31] at w1; cases w1
        rw [e2, p2, h810] at y
        exact w2 y
      · rw [e2, p2, h810] at y
        exact y
  have at96 : ∀ S1, fX (fun s _ x => s = 5 ∧ x = sr) S S1 → (∀ j, j < k → cs_ar S1 sr j = rwM R H 0 j) → w_X7_findChain_96 post G mc ms S1 u v ra (some q0) (nI H) x4 (nI (k - 1)) (some sr) (if H.testBit 0 = true then 1 else 0) := by
    intro S1 hF hrow
    obtain ⟨a1, a2, -⟩ := hF sr (by omega)
    refine ⟨hu, hv, fun z => ⟨sr, rfl, a1.trans r1, by rw [a2, r2]; exact nI_in (by omega) (by omega), fun r38 e38 => ?_⟩, fun z => ?_⟩
    · have hk : k ≠ 1 := fun y => z (by rw [y]; rfl)
      rw [e38, nI_clamp (by omega), hrow (k - 1) (by omega)]
      have : rwM R H 0 (k - 1) = rwO R H k q0 := by
        unfold rwM rwO
        rw [if_pos (by omega), if_neg hk, show k - 1 - 1 = k - 2 from by omega]
      rw [this]
      exact at112 S1 hF hrow
    · have hk : k = 1 := by
        have := (nI_eq (a := k - 1) (b := 0) (by omega) (by omega)).mp z
        omega
      have : some q0 = rwO R H k q0 := by unfold rwO; rw [if_pos hk]
      have h := at112 S1 hF hrow
      rw [← this] at h
      exact h
  have loop : ∀ j S1, j < k → fX (fun s _ x => s = 5 ∧ x = sr) S S1 → (∀ i, i < k → cs_ar S1 sr i = rwM R H j i) → w_X7_findChain_51 post G mc ms (j + 1) S1 u v ra (some q0) (nI H) x4 (nI (k - 1)) (some sr) (nI j) := by
    intro j
    induction j with
    | zero =>
      intro S1 hj hF hrow
      have b0 := (bt_a H hH).2.1
      refine ⟨hu, hv, fun _ => ⟨fun z => ?_, fun z => ?_⟩, fun z => absurd (nI_le (a := 0) (b := 0) (by omega) (by omega)) z⟩
      · have h := at96 S1 hF hrow
        rw [if_neg (fun y => z (b0.mpr y))] at h
        exact h
      · have h := at96 S1 hF hrow
        rw [if_pos (b0.mp z)] at h
        exact h
    | succ j ih =>
      intro S1 hj hF hrow
      obtain ⟨a1, a2, -⟩ := hF sr (by omega)
      have bt := bt_c H hH (j + 1) (by omega)
      have em1 : nI (j + 1) + (-1) = nI j := by rw [nI_m1, nI_pred]
      have es1 : nI (j + 1) - 1 = nI j := nI_pred j
      refine ⟨hu, hv, fun z => absurd z (nI_ge (a := 0) (b := j + 1) (by omega) (by omega)), fun _ => ⟨fun z => ⟨hu, hv, ?_⟩, fun z => ⟨sr, rfl, a1.trans r1, by rw [a2, r2, es1]; exact nI_in (by omega) (by omega), fun r41 e41 => ⟨by rw [a2, r2]; exact nI_in (by omega) (by omega), fun b hb' => ?_, fun S42 e42 => ⟨hu, hv, ?_⟩⟩⟩⟩⟩
      · rw [em1]
        refine ih S1 (by omega) hF (fun i hi => ?_)
        rw [hrow i hi]
        unfold rwM
        by_cases c : i = j + 1
        · subst c
          rw [if_neg (Nat.lt_irrefl _), if_pos (show j < j + 1 from by omega), if_neg (fun y => z (bt.2.mpr y))]
        · by_cases c1 : j + 1 < i
          · rw [if_pos c1, if_pos (show j < i from by omega)]
          · rw [if_neg c1, if_neg (show ¬ j < i from by omega)]
      · rw [es1, nI_clamp (by omega), hrow j (by omega)] at e41
        rw [e41] at hb'
        exact (evI S1 hF b (Mk _ _ (by omega) b hb')).1
      · subst e42
        rw [em1, nI_clamp (by omega)]
        rw [es1, nI_clamp (by omega), hrow j (by omega)] at e41
        refine ih _ (by omega) (hF.uar (Or.inl ⟨rfl, rfl⟩)) (fun i hi => ?_)
        rw [aruar]
        by_cases c : i = j + 1
        · subst c
          rw [if_pos ⟨rfl, rfl⟩, e41]
          unfold rwM
          rw [if_neg (show ¬ j + 1 < j from by omega), if_pos (show j < j + 1 from by omega), if_pos (bt.2.mp z), Nat.add_sub_cancel]
        · rw [if_neg (fun y => c y.2), hrow i hi]
          unfold rwM
          by_cases c1 : j + 1 < i
          · rw [if_pos c1, if_pos (show j < i from by omega)]
          · rw [if_neg c1, if_neg (show ¬ j < i from by omega)]
  refine ⟨hu, hv, a, rfl, ha, fun r45 e45 => ⟨sr, e45.trans h512, r1, k - 1 + 1, ?_⟩⟩
  rw [r2]
  have e1 : (Int32.ofNat k - 1 : Int32) = nI (k - 1) := by
    have := nI_pred (k - 1)
    rw [show k - 1 + 1 = k from by omega] at this
    exact this
  rw [e1, if_neg (fun z => absurd (Int32.not_lt.mpr (nI_le (a := k - 1) (b := k - 1) (Nat.le_refl _) (by omega))) (fun y => y z))]
  refine loop (k - 1) S (by omega) fX.rfl (fun i hi => ?_)
  rw [(r3 i hi).1]
  unfold rwM
  rw [if_neg (by omega)]
end CCH
/-- what stands in a place of the row -/
noncomputable def chV (ev : Nat → Nat) (M : Nat → Nat → Prop) (U : Nat → Prop) (p j : Nat) : Option Nat := match cfn M j p with
  | some o => @ite _ (∀ x, o < x → x < p → ¬ U x) (Classical.propDecidable _) (some (ev o)) none
  | none => none
section CHV
variable {ev : Nat → Nat} {M : Nat → Nat → Prop} {U : Nat → Prop} {p j : Nat}
theorem chV_y {o : Nat} (h : cfn M j p = some o) (hc : ∀ x, o < x → x < p → ¬ U x) : chV ev M U p j = some (ev o) := by
  unfold chV; rw [h]; exact if_pos hc
theorem chV_c {o : Nat} (h : cfn M j p = some o) (hc : ¬ ∀ x, o < x → x < p → ¬ U x) : chV ev M U p j = none := by
  unfold chV; rw [h]; exact if_neg hc
theorem chV_n (h : cfn M j p = none) : chV ev M U p j = none := by
  unfold chV; rw [h]
theorem chV_of {a : Nat} (h : chV ev M U p j = some a) : ∃ o, cfn M j p = some o ∧ (∀ x, o < x → x < p → ¬ U x) ∧ a = ev o := by
  cases c : cfn M j p with
  | none => rw [chV_n c] at h; cases h
  | some o =>
    by_cases d : ∀ x, o < x → x < p → ¬ U x
    · rw [chV_y c d] at h; cases h; exact ⟨o, rfl, d, rfl⟩
    · rw [chV_c c d] at h; cases h
/-- the same chain, one event later -/
theorem chV_up {i : Nat} (h : cfn M j (p + 1) = cfn M i p) : chV ev M U (p + 1) j = @ite _ (U p) (Classical.propDecidable _) none (chV ev M U p i) := by
  cases c : cfn M i p with
  | none => rw [chV_n (h.trans c), chV_n c]; by_cases d : U p <;> simp [d]
  | some o =>
    have hlt := cfn_lt _ _ _ c
    by_cases d : U p
    · rw [if_pos d, chV_c (h.trans c) (fun z => z p hlt (by omega) d)]
    · rw [if_neg d]
      by_cases g : ∀ x, o < x → x < p → ¬ U x
      · rw [chV_y c g, chV_y (h.trans c) (fun x h1 h2 => by
          by_cases e : x = p
          · rw [e]; exact d
          · exact g x h1 (by omega))]
      · rw [chV_c c g, chV_c (h.trans c) (fun z => g (fun x h1 h2 => z x h1 (by omega)))]
theorem chV_same (hM : ∀ j, ¬ M j p) (hU : ¬ U p) : chV ev M U (p + 1) j = chV ev M U p j := by
  have h : cfn M j (p + 1) = cfn M j p := by
    cases j with
    | zero => show lst (M 0) (p + 1) = lst (M 0) p; rw [lst_no (hM 0)]
    | succ j => rw [cfn, cfn, lst_no (hM _)]
  rw [chV_up h, if_neg hU]
theorem chV_step {H : Nat} {br : Bool} (hM : M j p ↔ H.testBit j = true) (hU : U p ↔ br = true) : chV ev M U (p + 1) j = rwN (chV ev M U p) H br (ev p) j := by
  have hite : ∀ X : Option Nat, (@ite _ (U p) (Classical.propDecidable _) none X) = if br = true then none else X := fun X => by
    by_cases d : U p
    · rw [if_pos d, if_pos (hU.mp d)]
    · rw [if_neg d, if_neg (fun z => d (hU.mpr z))]
  unfold rwN
  cases j with
  | zero =>
    rw [if_pos rfl]
    by_cases c : M 0 p
    · rw [if_pos (hM.mp c)]
      exact chV_y (show lst (M 0) (p + 1) = some p from lst_yes c) (fun x h1 h2 => absurd h1 (by omega))
    · rw [if_neg (fun z => c (hM.mpr z)), chV_up (show cfn M 0 (p + 1) = cfn M 0 p from lst_no c), hite]
  | succ j =>
    rw [if_neg (Nat.succ_ne_zero j)]
    by_cases c : M (j + 1) p
    · rw [if_pos (hM.mp c), chV_up (i := j) (by rw [cfn, lst_yes c]), hite]; rfl
    · rw [if_neg (fun z => c (hM.mpr z)), chV_up (i := j + 1) (by rw [cfn, cfn, lst_no c]), hite]
theorem cfn_no (h : ∀ j o, o < p → ¬ M j o) : cfn M j p = none := by
  cases j with
  | zero => exact lst_of_none p (h 0)
  | succ j => rw [cfn, lst_of_none p (h _)]
end CHV
def oX (S : cs_S) (Ow Ow' : Nat → Prop) : Prop := (∀ a, Ow a → Ow' a) ∧ ∀ a, cs_k S a ≠ 0 → Ow' a → Ow a
theorem oX.rfl {S : cs_S} {Ow : Nat → Prop} : oX S Ow Ow := ⟨fun _ h => h, fun _ _ h => h⟩
theorem oX.u {S : cs_S} {Ow : Nat → Prop} {q : Nat} (hq : cs_k S q = 0) : oX S Ow (oU Ow q) := ⟨fun _ h => Or.inl h, fun a ha h => by
  rcases h with h | h
  · exact h
  · rw [h] at ha; exact absurd hq ha⟩
theorem oX.trans {S S1 : cs_S} {E : Nat → Nat → Nat → Prop} {Ow Ow1 Ow2 : Nat → Prop} (h : oX S Ow Ow1) (hF : fX E S S1) (g : oX S1 Ow1 Ow2) : oX S Ow Ow2 := ⟨fun a z => g.1 a (h.1 a z), fun a ha z => h.2 a ha (g.2 a (hF.live ha) z)⟩
/-- the rows of a rule that looks for chains -/
def chI (S : cs_S) (Ow : Nat → Prop) (ko ev sr : Nat → Nat) (Kf : Nat → Prop) (M : Nat → Nat → Nat → Prop) (U : Nat → Nat → Prop) (k p : Nat) : Prop :=
  (∀ f, Kf f → cs_k S (ko f) = 6 ∧ Ow (ko f) ∧ cs_r S 512 (ko f) = some (sr f) ∧ Ow (sr f) ∧ rwW S (sr f) k (chV ev (M f) (U f) p)) ∧ (∀ f f', Kf f → Kf f' → ko f = ko f' → f = f') ∧ ∀ f f', Kf f → Kf f' → sr f = sr f' → f = f'
def chE (S : cs_S) (Ow : Nat → Prop) (s f x : Nat) : Prop := Ow x ∧ ((cs_k S x = 6 ∧ f = 512) ∨ (cs_k S x = 23 ∧ s = 5))
section CHI
variable {G : Nat → Nat} {S : cs_S} {Ow : Nat → Prop} {ra f0 H k p mc ms : Nat} {ko ev sr : Nat → Nat} {Kf Kf' : Nat → Prop} {M : Nat → Nat → Nat → Prop} {U : Nat → Nat → Prop} {br : Bool} {x4 : Int32} {post : Int32 → cs_S → Prop}
theorem cch (h : chI S Ow ko ev sr Kf M U k p) (hK : ∀ f, Kf' f ↔ Kf f ∨ f = f0) (hko : cs_k S (ko f0) = 6 ∧ Ow (ko f0)) (hnew : ¬ Kf f0 → cs_r S 512 (ko f0) = none ∧ (∀ f, Kf f → ko f ≠ ko f0) ∧ ∀ j o, o < p → ¬ M f0 j o) (hra : cs_k S ra = 9) (h806 : cs_i S 806 ra = nI k) (hk1 : 1 ≤ k) (hk5 : k ≤ 5) (hH : H < 64) (hev : cs_k S (ev p) = 5) (hb : (br = true → ¬ x4 = 0) ∧ (br = false → x4 = 0)) (hm : 1 ≤ mc) (hms : 5 ≤ ms)
    (hM : ∀ j, j < k → (M f0 j p ↔ H.testBit j = true)) (hU : U f0 p ↔ br = true) (hMo : ∀ f, Kf f → f ≠ f0 → (∀ j, ¬ M f j p) ∧ ¬ U f p)
    (hpost : ∀ S' Ow' sr' res, fX (chE S Ow) S S' → oX S Ow Ow' → chI S' Ow' ko ev sr' Kf' M U k (p + 1) → ((H.testBit (k - 1) = true ∧ ∃ s, rwO (chV ev (M f0) (U f0) p) H k (ev p) = some s ∧ cs_k S s = 5 ∧ ¬ cs_i S 400 s ≤ cs_i S 400 (ev p) - cs_i S 810 ra ∧ res = cs_i S 405 s) ∨ (res = -1 ∧ ¬ (H.testBit (k - 1) = true ∧ ∃ s, rwO (chV ev (M f0) (U f0) p) H k (ev p) = some s ∧ ¬ cs_i S 400 s ≤ cs_i S 400 (ev p) - cs_i S 810 ra))) → post res S') :
    wp_X7_findChain post G mc ms S ra (some (ko f0)) (some (ev p)) (nI H) x4 := by
  obtain ⟨h1, h2, h3⟩ := id h
  have ek : nI k - 1 = nI (k - 1) := by
    have := nI_pred (k - 1)
    rw [show k - 1 + 1 = k from by omega] at this
    exact this
  have others : ∀ f, Kf f → f ≠ f0 → chV ev (M f) (U f) (p + 1) = chV ev (M f) (U f) p := fun f hk hf => funext fun j => chV_same (hMo f hk hf).1 (hMo f hk hf).2
  -- the row of the key, as it is or new
  have go : ∀ S1 Ow1 s0 u v, u ≤ mc → v ≤ ms → fX (chE S Ow) S S1 → oX S Ow Ow1 → cs_r S1 512 (ko f0) = some s0 → Ow1 s0 → rwW S1 s0 k (chV ev (M f0) (U f0) p) → (∀ f, Kf f → f ≠ f0 → cs_r S1 512 (ko f) = some (sr f) ∧ sr f ≠ s0) → (∀ f, Kf f → f ≠ f0 → ∀ j, cs_ar S1 (sr f) j = cs_ar S (sr f) j) → w_X7_findChain_33 post G mc ms S1 u v ra (some (ko f0)) (some (ev p)) (nI H) x4 (nI (k - 1)) := by
    intro S1 Ow1 s0 u v hu hv hF hO h512 hs0 hrw hoth hrow
    have kk : ∀ x n, cs_k S x = n → n ≠ 0 → cs_k S1 x = n := fun x n z1 z2 => (hF x (by rw [z1]; exact z2)).1.trans z1
    have e400 : ∀ x, cs_k S x = 5 → ∀ f, cs_i S1 f x = cs_i S f x := fun x hx f => (hF x (by omega)).2.2.1 f (fun z => by have := z.2; omega)
    have e810 : cs_i S1 810 ra = cs_i S 810 ra := (hF ra (by omega)).2.2.1 810 (fun z => by have := z.2; omega)
    refine cch_33 (k := k) (R := chV ev (M f0) (U f0) p) (br := br) hu hv (kk ra 9 hra (by decide)) (kk _ 6 hko.1 (by decide)) h512 hrw hk1 hk5 hH (kk _ 5 hev (by decide)) hb (fun S2 res hF2 hR2 hres => ?_)
    have rS : ∀ s, rwO (chV ev (M f0) (U f0) p) H k (ev p) = some s → H.testBit (k - 1) = true → cs_k S1 s = 5 := fun s hs hbit => by
      unfold rwO at hs
      split at hs
      · cases hs; exact kk _ 5 hev (by decide)
      · exact (hrw.2.2 (k - 2) (by omega)).2 s hs
    have live5 : ∀ s, cs_k S1 s = 5 → rwO (chV ev (M f0) (U f0) p) H k (ev p) = some s → H.testBit (k - 1) = true → cs_k S s = 5 := fun s hs1 hs hbit => by
      unfold rwO at hs
      split at hs
      · cases hs; exact hev
      · by_cases hkf : Kf f0
        · exact ((h1 f0 hkf).2.2.2.2.2.2 (k - 2) (by omega)).2 s hs
        · obtain ⟨o, ho, -⟩ := chV_of hs
          rw [cfn_no (hnew hkf).2.2] at ho
          cases ho
    have hF3 : fX (chE S Ow) S S2 := hF.tr hF2 (fun s f a ha z => by
      have hk : cs_k S1 a = 23 := by rw [z.2]; exact hrw.1
      exact ⟨hO.2 a ha (by rw [z.2]; exact hs0), Or.inr ⟨by rw [← (hF a ha).1]; exact hk, z.1⟩⟩)
    refine hpost S2 Ow1 (prU sr f0 s0) res hF3 hO ⟨fun f hf => ?_, fun f f' z1 z2 z3 => ?_, fun f f' z1 z2 z3 => ?_⟩ ?_
    · by_cases c : f = f0
      · subst c
        rw [prU_r]
        refine ⟨(hF2 _ (by rw [kk _ 6 hko.1 (by decide)]; decide)).1.trans (kk _ 6 hko.1 (by decide)), hO.1 _ hko.2, ?_, hs0, ?_⟩
        · rw [(hF2 _ (by rw [kk _ 6 hko.1 (by decide)]; decide)).2.2.2.2.1 512 (fun z => absurd z.1 (by decide))]; exact h512
        · obtain ⟨r1, r2, r3⟩ := hR2
          refine ⟨r1, r2, fun j hj => ?_⟩
          rw [chV_step (hM j hj) hU]
          exact r3 j hj
      · have hf' : Kf f := by
          rcases (hK f).mp hf with z | z
          · exact z
          · exact absurd z c
        obtain ⟨k1, k2, k3, k4, k5⟩ := h1 f hf'
        obtain ⟨o1, o2⟩ := hoth f hf' c
        have l1 := kk _ 6 k1 (by decide)
        have l2 := kk _ 23 k5.1 (by decide)
        rw [prU_o c, others f hf' c]
        refine ⟨(hF2 _ (by rw [l1]; decide)).1.trans l1, hO.1 _ k2, ?_, hO.1 _ k4, (hF2 _ (by rw [l2]; decide)).1.trans l2, ?_, fun j hj => ⟨?_, fun b hb' => ?_⟩⟩
        · rw [(hF2 _ (by rw [l1]; decide)).2.2.2.2.1 512 (fun z => absurd z.1 (by decide))]; exact o1
        · rw [(hF2 _ (by rw [l2]; decide)).2.1, (hF (sr f) (by rw [k5.1]; decide)).2.1]; exact k5.2.1
        · rw [(hF2 _ (by rw [l2]; decide)).2.2.2.2.2.2.2 j (fun z => o2 z.2), hrow f hf' c j]; exact (k5.2.2 j hj).1
        · have q1 := (k5.2.2 j hj).2 b hb'
          have q2 := kk _ 5 q1 (by decide)
          exact (hF2 b (by rw [q2]; decide)).1.trans q2
    · rcases (hK f).mp z1 with y1 | y1
      · rcases (hK f').mp z2 with y2 | y2
        · exact h2 f f' y1 y2 z3
        · by_cases c : Kf f0
          · rw [y2] at z3 ⊢; exact h2 f f0 y1 c z3
          · rw [y2] at z3; exact absurd z3 ((hnew c).2.1 f y1)
      · rcases (hK f').mp z2 with y2 | y2
        · by_cases c : Kf f0
          · rw [y1] at z3 ⊢; exact h2 f0 f' c y2 z3
          · rw [y1] at z3; exact absurd z3.symm ((hnew c).2.1 f' y2)
        · rw [y1, y2]
    · by_cases c : f = f0
      · by_cases c' : f' = f0
        · rw [c, c']
        · have hf' : Kf f' := by
            rcases (hK f').mp z2 with z | z
            · exact z
            · exact absurd z c'
          rw [c, prU_r, prU_o c'] at z3
          exact absurd z3.symm (hoth f' hf' c').2
      · have hf : Kf f := by
          rcases (hK f).mp z1 with z | z
          · exact z
          · exact absurd z c
        by_cases c' : f' = f0
        · rw [c', prU_r, prU_o c] at z3
          exact absurd z3 (hoth f hf c).2
        · have hf' : Kf f' := by
            rcases (hK f').mp z2 with z | z
            · exact z
            · exact absurd z c'
          rw [prU_o c, prU_o c'] at z3
          exact h3 f f' hf hf' z3
    · rcases hres with ⟨z1, s, z2, z3, z4⟩ | ⟨z1, z2⟩
      · have s5 := live5 s (rS s z2 z1) z2 z1
        rw [e400 s s5, e400 _ hev, e810] at z3
        rw [e400 s s5] at z4
        exact Or.inl ⟨z1, s, z2, s5, z3, z4⟩
      · refine Or.inr ⟨z1, fun y => z2 ?_⟩
        obtain ⟨y1, s, y2, y3⟩ := y
        have s5 := live5 s (rS s y2 y1) y2 y1
        refine ⟨y1, s, y2, ?_⟩
        rw [e400 s s5, e400 _ hev, e810]
        exact y3
  refine ⟨hra, fun _ => ⟨ko f0, rfl, hko.1, fun r51 e51 => ⟨fun en => ?_, fun b52 e52 => ?_⟩⟩, fun z => ?_⟩
  · rw [h806, nI_clamp (by omega)]
    have hkf : ¬ Kf f0 := fun z => by
      rw [e51, (h1 f0 z).2.2.1] at en; cases en
    refine ⟨fun z => absurd (nI_pos' (by omega)) (Int32.not_le.mpr z), by omega, by omega, by omega, fun q hq S54 e54 => ?_⟩
    subst e54
    have nq : ∀ x, cs_k S x ≠ 0 → x ≠ q := fun x hx e => by rw [e] at hx; exact hx hq
    refine ⟨by rw [knewA, if_neg (nq _ (by rw [hko.1]; decide))]; exact hko.1, fun S56 e56 => ?_⟩
    subst e56
    rw [ek]
    refine go _ (oU Ow q) q _ _ (by omega) (by omega) ((fX.rfl.newA hq).ur (Or.inl ⟨hko.2, Or.inl ⟨hko.1, rfl⟩⟩)) (oX.u hq) (by rw [rur, if_pos ⟨rfl, rfl⟩]) (Or.inr rfl) ⟨?_, ?_, fun j hj => ?_⟩ (fun f hf c => ⟨?_, ?_⟩) (fun f hf c j => ?_)
    · show cs_k (cs_newA S q 23 k) q = 23
      rw [knewA, if_pos rfl]
    · show cs_n (cs_newA S q 23 k) q = k
      rw [nnewA, if_pos rfl]
    · rw [chV_n (cfn_no (hnew hkf).2.2)]
      refine ⟨?_, fun b hb' => (nomatch hb')⟩
      show cs_ar (cs_newA S q 23 k) q j = none
      rw [arnewA, if_pos rfl]
    · rw [rur, if_neg (fun z => (hnew hkf).2.1 f hf z.2)]; exact (h1 f hf).2.2.1
    · exact nq _ (by rw [(h1 f hf).2.2.2.2.1]; decide)
    · show cs_ar (cs_newA S q 23 k) (sr f) j = cs_ar S (sr f) j
      rw [arnewA, if_neg (nq _ (by rw [(h1 f hf).2.2.2.2.1]; decide))]
  · have hkf : Kf f0 := by
      by_cases c : Kf f0
      · exact c
      · rw [e51, (hnew c).1] at e52; cases e52
    obtain ⟨k1, k2, k3, k4, k5⟩ := h1 f0 hkf
    rw [h806, ek]
    exact go S Ow (sr f0) 0 0 (by omega) (by omega) fX.rfl oX.rfl k3 k4 k5 (fun f hf c => ⟨(h1 f hf).2.2.1, fun z => c (h3 f f0 hf hkf z)⟩) (fun _ _ _ _ => rfl)
  · rw [h806, ek] at z
    exact absurd (nI_pos' (by omega)) z
end CHI
