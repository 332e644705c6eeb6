/-! ===== the order of words ===== -/
theorem i64_toInt {a : Nat} (h : a < 2 ^ 63) : (Int64.ofNat a).toInt = (a : Int) := Int64.toInt_ofNat_of_lt h
theorem i64_lt {a b : Nat} (ha : a < 2 ^ 63) (hb : b < 2 ^ 63) : Int64.ofNat a < Int64.ofNat b ↔ a < b := by
  rw [Int64.lt_iff_toInt_lt, i64_toInt ha, i64_toInt hb]
  omega
theorem i64_inj {a b : Nat} (ha : a < 2 ^ 63) (hb : b < 2 ^ 63) : Int64.ofNat a = Int64.ofNat b ↔ a = b := by
  rw [← Int64.toInt_inj, i64_toInt ha, i64_toInt hb]
  omega
theorem lg_pos {x y : Int64} : 0 < lg_cmp x y ↔ y < x := by
  unfold lg_cmp
  by_cases h1 : x > y
  · rw [if_pos h1]; exact ⟨fun _ => h1, fun _ => by decide⟩
  · rw [if_neg h1]
    refine ⟨fun h => ?_, fun h => absurd h h1⟩
    by_cases h2 : x = y
    · rw [if_pos h2] at h; exact absurd h (by decide)
    · rw [if_neg h2] at h; exact absurd h (by decide)
theorem lg_nn {x y : Int64} : 0 ≤ lg_cmp x y ↔ y ≤ x := by
  have e : x = y ∨ y < x ∨ x < y := by
    rw [← Int64.toInt_inj, Int64.lt_iff_toInt_lt, Int64.lt_iff_toInt_lt]
    omega
  unfold lg_cmp
  by_cases h1 : x > y
  · rw [if_pos h1]; exact ⟨fun _ => Int64.le_iff_toInt_le.mpr (Int.le_of_lt (Int64.lt_iff_toInt_lt.mp h1)), fun _ => by decide⟩
  · rw [if_neg h1]
    by_cases h2 : x = y
    · rw [if_pos h2]; exact ⟨fun _ => by rw [h2]; exact Int64.le_iff_toInt_le.mpr (Int.le_refl _), fun _ => by decide⟩
    · rw [if_neg h2]
      refine ⟨fun h => absurd h (by decide), fun h => ?_⟩
      exfalso
      have h3 : x < y := by
        rcases e with e | e | e
        · exact absurd e h2
        · exact absurd e h1
        · exact e
      have a1 := Int64.lt_iff_toInt_lt.mp h3
      have a2 := Int64.le_iff_toInt_le.mp h
      omega
theorem first_diff (f g : Nat → Nat) : ∀ N, (∀ i, i < N → f i = g i) ∨ ∃ i, i < N ∧ (∀ j, j < i → f j = g j) ∧ f i ≠ g i := by
  intro N
  induction N with
  | zero => exact Or.inl (fun i hi => absurd hi (by omega))
  | succ N ih =>
    rcases ih with ih | ⟨i, h1, h2, h3⟩
    · by_cases h : f N = g N
      · refine Or.inl (fun i hi => ?_)
        by_cases e : i = N
        · rw [e]; exact h
        · exact ih i (by omega)
      · exact Or.inr ⟨N, by omega, ih, h⟩
    · exact Or.inr ⟨i, by omega, h2, h3⟩
theorem w8_lt {f : Nat → Nat} (hf : ∀ i, f i ≤ 26) : ∀ i, w8 f i < 2 ^ 8 := by
  intro i
  have := hf i
  unfold w8
  split
  · decide
  · show _ < 256; omega
theorem w8_63 {f : Nat → Nat} (hf : ∀ i, f i ≤ 26) : dg 8 8 (w8 f) 8 < 2 ^ 63 := by
  have h := dg_less 8 8 (w8 f) (fun i => if i = 0 then 128 else 0) (w8_lt hf) (fun i => by show (if i = 0 then 128 else 0) < 2 ^ 8; split <;> decide) 0 (by decide) (fun j hj => absurd hj (by omega)) (by
    have := hf 0
    show w8 f 0 < 128
    unfold w8
    split
    · decide
    · omega)
  have e : dg 8 8 (fun i => if i = 0 then 128 else 0) 8 = 2 ^ 63 := by decide
  rw [e] at h
  exact h
theorem w5_60 {f : Nat → Nat} (hf : ∀ i, f i ≤ 26) : dg 5 12 f 12 < 2 ^ 63 :=
  Nat.lt_trans (dg_small 5 12 f (fun i => by have := hf i; show f i < 32; omega) 12 (Nat.le_refl _)) (by decide)
theorem wd_26 {n : Nat} {f : Nat → Nat} (h : ∀ i, (i < n ∧ 1 ≤ f i ∧ f i ≤ 26) ∨ (n ≤ i ∧ f i = 0)) : ∀ i, f i ≤ 26 := fun i => by
  have := h i
  omega
theorem w8_mono {f g : Nat → Nat} {i : Nat} (h : f i < g i) : w8 f i < w8 g i := by
  unfold w8
  rw [if_neg (by omega : ¬ g i = 0)]
  split <;> omega
theorem w8_same {f g : Nat → Nat} {i : Nat} (h : f i = g i) : w8 f i = w8 g i := by
  unfold w8
  rw [h]
theorem wd_ord {n n' : Nat} {c h l c' h' l' : Int64} (a : wdR n c h l) (a' : wdR n' c' h' l') (hn : n ≤ 8) (hn' : n' ≤ 8) : 0 < lg_cmp c c' ↔ 0 < lg_cmp h h' := by
  obtain ⟨f, a1, a2, a3, a4, a5⟩ := a
  obtain ⟨g, b1, b2, b3, b4, b5⟩ := a'
  have hf := wd_26 a2
  have hg := wd_26 b2
  have hf5 : ∀ i, f i < 2 ^ 5 := fun i => by have := hf i; show f i < 32; omega
  have hg5 : ∀ i, g i < 2 ^ 5 := fun i => by have := hg i; show g i < 32; omega
  rw [lg_pos, lg_pos, a3, a4, b3, b4, i64_lt (w5_60 hg) (w5_60 hf), i64_lt (w8_63 hg) (w8_63 hf)]
  rcases first_diff f g 12 with e | ⟨i, e1, e2, e3⟩
  · rw [dg_cong 5 12 f g 12 e, dg_cong 8 8 (w8 f) (w8 g) 8 (fun i hi => w8_same (e i (by omega)))]
    omega
  · have hi8 : i < 8 := by
      have h1 := a2 i
      have h2 := b2 i
      omega
    by_cases hlt : f i < g i
    · have h1 := dg_less 5 12 f g hf5 hg5 i e1 e2 hlt
      have h2 := dg_less 8 8 (w8 f) (w8 g) (w8_lt hf) (w8_lt hg) i hi8 (fun j hj => w8_same (e2 j hj)) (w8_mono hlt)
      omega
    · have hlt2 : g i < f i := by omega
      have h1 := dg_less 5 12 g f hg5 hf5 i e1 (fun j hj => (e2 j hj).symm) hlt2
      have h2 := dg_less 8 8 (w8 g) (w8 f) (w8_lt hg) (w8_lt hf) i hi8 (fun j hj => (w8_same (e2 j hj)).symm) (w8_mono hlt2)
      omega
theorem wd_pos {n : Nat} {c h l : Int64} (a : wdR n c h l) (hn : 1 ≤ n) : 0 < lg_cmp c 0 := by
  obtain ⟨f, a1, a2, a3, a4, a5⟩ := a
  have hf := wd_26 a2
  have hf5 : ∀ i, f i < 2 ^ 5 := fun i => by have := hf i; show f i < 32; omega
  have h1 := dg_less 5 12 (fun _ => 0) f (fun _ => by decide) hf5 0 (by decide) (fun j hj => absurd hj (by omega)) (by have := a2 0; show 0 < f 0; omega)
  rw [lg_pos, a3]
  exact (i64_lt (a := 0) (by decide) (w5_60 hf)).mpr (by omega)
/-- equal on one side as on the other -/
theorem wd_eq {n n' : Nat} {c h l c' h' l' : Int64} (a : wdR n c h l) (a' : wdR n' c' h' l') : c = c' ↔ h = h' ∧ l = l' := by
  obtain ⟨f, a1, a2, a3, a4, a5⟩ := a
  obtain ⟨g, b1, b2, b3, b4, b5⟩ := a'
  have hf := wd_26 a2
  have hg := wd_26 b2
  have hf8 : ∀ i, (fun i => f (i + 8)) i ≤ 26 := fun i => hf (i + 8)
  have hg8 : ∀ i, (fun i => g (i + 8)) i ≤ 26 := fun i => hg (i + 8)
  have hf5 : ∀ i, f i < 2 ^ 5 := fun i => by have := hf i; show f i < 32; omega
  have hg5 : ∀ i, g i < 2 ^ 5 := fun i => by have := hg i; show g i < 32; omega
  rw [a3, a4, a5, b3, b4, b5, i64_inj (w5_60 hf) (w5_60 hg), i64_inj (w8_63 hf) (w8_63 hg), i64_inj (w8_63 hf8) (w8_63 hg8)]
  have winj : ∀ {x y : Nat → Nat} {i : Nat}, w8 x i = w8 y i → x i = y i := by
    intro x y i e
    unfold w8 at e
    by_cases e1 : x i = 0
    · rw [if_pos e1] at e
      by_cases e2 : y i = 0
      · omega
      · rw [if_neg e2] at e; omega
    · rw [if_neg e1] at e
      by_cases e2 : y i = 0
      · rw [if_pos e2] at e; omega
      · rw [if_neg e2] at e; omega
  constructor
  · intro e
    have e1 := dg_inj 5 12 f g hf5 hg5 e
    have e2 : ∀ i, f i = g i := fun i => by
      by_cases hi : i < 12
      · exact e1 i hi
      · have h1 := a2 i
        have h2 := b2 i
        omega
    exact ⟨dg_cong 8 8 _ _ 8 (fun i _ => w8_same (e2 i)), dg_cong 8 8 _ _ 8 (fun i _ => w8_same (f := fun i => f (i + 8)) (g := fun i => g (i + 8)) (e2 (i + 8)))⟩
  · rintro ⟨e1, e2⟩
    have d1 := dg_inj 8 8 (w8 f) (w8 g) (w8_lt hf) (w8_lt hg) e1
    have d2 := dg_inj 8 8 (w8 (fun i => f (i + 8))) (w8 (fun i => g (i + 8))) (w8_lt hf8) (w8_lt hg8) e2
    refine dg_cong 5 12 f g 12 (fun i hi => ?_)
    by_cases hi8 : i < 8
    · exact winj (d1 i hi8)
    · have := winj (x := fun i => f (i + 8)) (y := fun i => g (i + 8)) (d2 (i - 8) (by omega))
      have e : i - 8 + 8 = i := by omega
      show f i = g i
      have h3 : f (i - 8 + 8) = g (i - 8 + 8) := this
      rw [e] at h3
      exact h3
/-- a time that is not refused -/
theorem tm_ok {t : Int64} {nw : Nat} (hnw : nw ≤ 2000000000) (h1 : ¬ 0 < lg_cmp t 2000000000) (h2 : 0 ≤ lg_cmp t (nI nw).toInt64) : ∃ tn, nw ≤ tn ∧ tn ≤ 2000000000 ∧ t.toInt32 = nI tn := by
  rw [lg_pos] at h1
  rw [lg_nn, Int64.le_iff_toInt_le, Int32.toInt_toInt64, nI_toInt (by omega)] at h2
  have h3 : t.toInt ≤ 2000000000 := by
    apply Int.not_lt.mp
    intro h
    exact h1 (Int64.lt_iff_toInt_lt.mpr h)
  refine ⟨t.toInt.toNat, by omega, by omega, ?_⟩
  apply Int32.toInt_inj.mp
  rw [nI_toInt (by omega), Int64.toInt_toInt32, Int.bmod_def]
  have e : t.toInt % ((2 ^ 32 : Nat) : Int) = t.toInt := Int.emod_eq_of_lt (by omega) (by
    have : ((2 ^ 32 : Nat) : Int) = 4294967296 := by decide
    omega)
  rw [e, if_pos]
  · omega
  · have : ((2 ^ 32 : Nat) : Int) = 4294967296 := by decide
    rw [this]
    omega
