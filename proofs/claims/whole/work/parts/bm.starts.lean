/-! ===== what a chain holds: the class ===== -/
theorem nI_s1 (c : Nat) : nI (c + 1) - 1 = nI c := by
  have e1 : nI (c + 1) = nI c + 1 := (nI_add c 1).symm
  rw [e1, Int32.add_sub_cancel]
/-- what stands in place j of the starts of a key and is young -/
def gSt (S : cs_S) (x1 : Int32) (sr j : Nat) : Prop := ∃ b, cs_ar S sr j = some b ∧ ¬ cs_i S 400 b ≤ x1
noncomputable def gKy (S : cs_S) (x1 : Int32) (k a : Nat) : Int := sS (gSt S x1 ((cs_r S 512 a).getD 0)) (fun _ => 1) 0 (k - 1)
section CST
variable {G : Nat → Nat} {S : cs_S} {post : Int32 → cs_S → Prop} {k4 : cs_S → Nat → Int32 → Int32 → Int32 → Prop} {k21 : cs_S → Nat → Int32 → Int32 → Int32 → Option Nat → Prop} {ra k sr bt nb : Nat} {x1 x3 : Int32} {x4 : Option Nat} {bl : Nat → List Nat}
theorem c_s36 (h9 : cs_k S ra = 9) (h806 : cs_i S 806 ra = nI k) (hk1 : 1 ≤ k) (hk5 : k ≤ 5) (hs : cs_k S sr = 23) (hn : cs_n S sr = k) (h5 : ∀ j b, j < k → cs_ar S sr j = some b → cs_k S b = 5) : ∀ d kk (c : Int), kk + d = k - 1 → w_X7_startsSince_89 post G k4 k21 S ra x1 (yI (c + sS (gSt S x1 sr) (fun _ => 1) kk d)) x3 x4 → w_X7_startsSince_36 post G k4 k21 (d + 1) S ra x1 (yI c) x3 x4 (some sr) (nI kk) := by
  have e8 : cs_i S 806 ra - 1 = nI (k - 1) := by
    rw [h806, show k = k - 1 + 1 from by omega]
    exact nI_s1 _
  intro d
  induction d with
  | zero =>
    intro kk c hd hp
    have e : c + sS (gSt S x1 sr) (fun _ => 1) kk 0 = c := Int.add_zero c
    rw [e] at hp
    refine ⟨fun z => (nomatch z), fun b22 e22 => ?_⟩
    cases e22
    refine ⟨hs, fun _ => hp, fun _ => ⟨h9, fun _ => hp, fun z => absurd ?_ z⟩⟩
    rw [e8]; exact nI_le (by omega) (by omega)
  | succ d ih =>
    intro kk c hd hp
    rw [sS_down] at hp
    have ck : (nI kk).toNatClampNeg = kk := nI_clamp (by omega)
    have e1 : nI kk + 1 = nI (kk + 1) := lw_ad kk 1
    have no : ¬ gSt S x1 sr kk → w_X7_startsSince_83 post G k4 k21 (w_X7_startsSince_36 post G k4 k21 (d + 1)) S ra x1 (yI c) x3 x4 (some sr) (nI kk) := fun q => by
      rw [one_n q, hl_0] at hp
      show w_X7_startsSince_36 post G k4 k21 (d + 1) S ra x1 (yI c) x3 x4 (some sr) (nI kk + 1)
      rw [e1]
      exact ih (kk + 1) c (by omega) hp
    refine ⟨fun z => (nomatch z), fun b22 e22 => ?_⟩
    cases e22
    have hin : vp_in (nI kk) (cs_n S sr) := by rw [hn]; exact nI_in (by omega) (by omega)
    refine ⟨hs, fun z => absurd ?_ (nI_ge (a := kk) (b := k) (by omega) (by omega)), fun _ => ⟨h9, fun z => absurd ?_ (nI_ge (a := kk) (b := k - 1) (by omega) (by omega)), fun _ => ⟨hin, fun r25 e25 => ⟨fun hz => no ?_, fun b26 e26 => ⟨hin, fun r27 e27 => ⟨b26, ?_, ?_, fun hc => no ?_, fun hc => ?_⟩⟩⟩⟩⟩⟩
    · rw [hn] at z; exact z
    · rw [e8] at z; exact z
    · rintro ⟨b, q1, -⟩
      rw [e25, ck, q1] at hz; cases hz
    · rw [e27, ← e25]; exact e26
    · rw [e25, ck] at e26; exact h5 kk b26 (by omega) e26
    · rintro ⟨b, q1, q2⟩
      rw [e25, ck, q1] at e26
      cases e26
      exact q2 hc
    · rw [e25, ck] at e26
      rw [one_y (show gSt S x1 sr kk from ⟨b26, e26, hc⟩), hl_1] at hp
      show w_X7_startsSince_36 post G k4 k21 (d + 1) S ra x1 (yI c + 1) x3 x4 (some sr) (nI kk + 1)
      rw [yI_1, e1]
      exact ih (kk + 1) (c + 1) (by omega) hp
theorem c_s21 (h9 : cs_k S ra = 9) (h806 : cs_i S 806 ra = nI k) (hk1 : 1 ≤ k) (hk5 : k ≤ 5) : ∀ (l : List Nat) rf (c : Int), chn S 502 l rf → (∀ a, a ∈ l → cs_k S a = 6 ∧ ∃ sr, cs_r S 512 a = some sr ∧ cs_k S sr = 23 ∧ cs_n S sr = k ∧ ∀ j b, j < k → cs_ar S sr j = some b → cs_k S b = 5) → k4 S ra x1 (yI (c + lsm (gKy S x1 k) l)) (x3 + 1) → ∀ j, l.length < j → w_X7_startsSince_21 post G k4 j S ra x1 (yI c) x3 rf := by
  intro l
  induction l with
  | nil =>
    intro rf c hc _ hp j hj
    obtain ⟨j, rfl⟩ : ∃ j', j = j' + 1 := ⟨j - 1, by have : ([] : List Nat).length = 0 := rfl; omega⟩
    have e : rf = none := hc
    have e2 : c + lsm (gKy S x1 k) [] = c := Int.add_zero c
    rw [e2] at hp
    exact ⟨fun _ => hp, fun b z => by rw [e] at z; cases z⟩
  | cons a l ih =>
    intro rf c hc ha hp j hj
    rw [List.length_cons] at hj
    obtain ⟨j, rfl⟩ : ∃ j', j = j' + 1 := ⟨j - 1, by omega⟩
    obtain ⟨c1, c2⟩ := hc
    obtain ⟨a1, sr, a2, a3, a4, a5⟩ := ha a (List.mem_cons_self ..)
    refine ⟨fun z => (by rw [c1] at z; cases z), fun b30 e30 => ?_⟩
    rw [c1] at e30
    cases e30
    refine ⟨a1, fun r32 e32 => ⟨k - 1 + 1, ?_⟩⟩
    rw [e32, a2]
    refine c_s36 h9 h806 hk1 hk5 a3 a4 a5 (k - 1) 0 c (by omega) ⟨a, rfl, a1, fun r21 e21 => ?_⟩
    have e5 : gKy S x1 k a = sS (gSt S x1 sr) (fun _ => 1) 0 (k - 1) := by
      unfold gKy
      rw [a2]; rfl
    rw [e21]
    refine ih _ _ c2 (fun b hb => ha b (List.mem_cons_of_mem _ hb)) ?_ j (by omega)
    rw [← e5, Int.add_assoc]
    exact hp
theorem c_st (h9 : cs_k S ra = 9) (h806 : cs_i S 806 ra = nI k) (hk1 : 1 ≤ k) (hk5 : k ≤ 5) (h816 : cs_r S 816 ra = some bt) (kbt : cs_k S bt = 25) (nbt : cs_n S bt = nb) (hnb : nb ≤ 128) (hbl : ∀ i, i < nb → chn S 502 (bl i) (cs_ar S bt i) ∧ ∀ a, a ∈ bl i → cs_k S a = 6 ∧ ∃ sr, cs_r S 512 a = some sr ∧ cs_k S sr = 23 ∧ cs_n S sr = k ∧ ∀ j b, j < k → cs_ar S sr j = some b → cs_k S b = 5) (hp : post (yI (lsm (gKy S x1 k) (flt bl nb))) S) : wp_X7_startsSince post G S ra x1 := by
  have key : ∀ d i, i + d = nb → w_X7_startsSince_4 post G (d + 1) S ra x1 (yI (lsm (gKy S x1 k) (flt bl i))) (nI i) := by
    intro d
    induction d with
    | zero =>
      intro i hd
      have : i = nb := by omega
      subst this
      refine ⟨h9, fun r34 e34 => ⟨bt, e34.trans h816, kbt, fun _ => hp, fun z => absurd ?_ z⟩⟩
      rw [nbt]; exact Int32.le_refl _
    | succ d ih =>
      intro i hd
      have ci : (nI i).toNatClampNeg = i := nI_clamp (by omega)
      have e1 : nI i + 1 = nI (i + 1) := lw_ad i 1
      obtain ⟨b1, b2⟩ := hbl i (by omega)
      refine ⟨h9, fun r34 e34 => ⟨bt, e34.trans h816, kbt, fun z => absurd ?_ (nI_ge (a := i) (b := nb) (by omega) (by omega)), fun _ r37 e37 => ⟨bt, e37.trans h816, kbt, ?_, fun r40 e40 => ⟨(bl i).length + 1, ?_⟩⟩⟩⟩
      · rw [nbt] at z; exact z
      · rw [nbt]; exact nI_in (by omega) (by omega)
      · rw [e40, ci]
        refine c_s21 h9 h806 hk1 hk5 (bl i) _ _ b1 b2 ?_ _ (Nat.lt_succ_self _)
        rw [← lsm_app, e1]
        exact ih (i + 1) (by omega)
  exact ⟨nb + 1, key nb 0 (by omega)⟩
end CST
