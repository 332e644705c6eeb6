/-! ===== the list of what was told ===== -/
def cpF (n : Nat) : Nat := if n = 0 then 0 else if n ≤ 10 then 10 else if n ≤ 15 then 15 else if n ≤ 22 then 22 else if n ≤ 33 then 33 else if n ≤ 49 then 49 else if n ≤ 73 then 73 else if n ≤ 109 then 109 else if n ≤ 163 then 163 else if n ≤ 244 then 244 else if n ≤ 366 then 366 else 549
def gC (n : Nat) : Nat := if n = cpF n then 1 else 0
def gS (n : Nat) : Nat := if n = cpF n then cpF (n + 1) else 0
/-- what the list may still grow: cells and slots -/
def gP (n : Nat) : Nat := if n = 0 then 11 else if n ≤ 10 then 10 else if n ≤ 15 then 9 else if n ≤ 22 then 8 else if n ≤ 33 then 7 else if n ≤ 49 then 6 else if n ≤ 73 then 5 else if n ≤ 109 then 4 else if n ≤ 163 then 3 else if n ≤ 244 then 2 else if n ≤ 366 then 1 else 0
def gT (n : Nat) : Nat := if n = 0 then 1633 else if n ≤ 10 then 1623 else if n ≤ 15 then 1608 else if n ≤ 22 then 1586 else if n ≤ 33 then 1553 else if n ≤ 49 then 1504 else if n ≤ 73 then 1431 else if n ≤ 109 then 1322 else if n ≤ 163 then 1159 else if n ≤ 244 then 915 else if n ≤ 366 then 549 else 0
theorem cpF_a : ∀ n, n < 500 → n ≤ cpF n ∧ (n ≠ cpF n → cpF (n + 1) = cpF n ∧ n < cpF n) ∧ (n = cpF n → n < cpF (n + 1) ∧ (0 < n → cpF (n + 1) = n + n / 2 ∧ 1 < n / 2)) ∧ gC n + gP (n + 1) ≤ gP n ∧ gS n + gT (n + 1) ≤ gT n := by decide +kernel
theorem sh1 : ∀ n, n < 500 → Int32.ofNat n >>> (1 &&& 31) = nI (n / 2) := by decide +kernel
theorem cpF_le (n : Nat) : cpF n ≤ 549 := by
  unfold cpF
  repeat' split
  all_goals omega
def tlW (G : Nat → Nat) (S : cs_S) (tl ed na : Nat) (al : Nat → Nat) : Prop := cs_k S tl = 1 ∧ cs_r S 1 tl = some ed ∧ cs_k S ed = 27 ∧ cs_n S ed = cpF na ∧ cs_i S 2 tl = nI na ∧ (na = 0 → ed = G 1) ∧ ∀ i, i < na → cs_ar S ed i = some (al i) ∧ cs_k S (al i) = 2
section TLW
variable {G : Nat → Nat} {S : cs_S} {tl ed na q mc ms : Nat} {al : Nat → Nat}
theorem cadd_11 {post : cs_S → Prop} {u v : Nat} (hu : u ≤ mc) (hv : v ≤ ms) (h1 : cs_k S tl = 1) (h2 : cs_r S 1 tl = some ed) (h3 : cs_k S ed = 27) (h4 : cs_n S ed = cpF (na + 1)) (hlt : na < cpF (na + 1)) (hna : na < 500) (h7 : ∀ i, i < na → cs_ar S ed i = some (al i) ∧ cs_k S (al i) = 2) (hq : cs_k S q = 2)
    (hp : ∀ S', fX (fun s f a => (a = tl ∧ s = 0 ∧ f = 2) ∨ (s = 5 ∧ a = ed)) S S' → tlW G S' tl ed (na + 1) (prU al na q) → post S') : w_Jx4a65c_add_72be8_11 post G mc ms S u v tl (some q) (some ed) (nI na) := by
  have hle := cpF_le (na + 1)
  refine ⟨hu, hv, ed, rfl, h3, by rw [h4]; exact nI_in hlt (by omega), fun b e => by cases e; exact hq, fun S10 e10 => ⟨?_, fun S12 e12 => ?_⟩⟩
  · rw [e10]; exact h1
  · subst e10
    subst e12
    rw [nI_clamp (by omega)]
    refine hp _ ((fX.rfl.uar (Or.inl (Or.inr ⟨rfl, rfl⟩))).ui (Or.inl (Or.inl ⟨rfl, rfl, rfl⟩))) ⟨h1, h2, h3, h4, ?_, fun z => absurd z (by omega), fun i hi => ?_⟩
    · rw [iui, if_pos ⟨rfl, rfl⟩, nI_1]
    · show cs_ar (cs_uar S ed na (some q)) ed i = some (prU al na q i) ∧ cs_k S (prU al na q i) = 2
      rw [aruar]
      by_cases c : i = na
      · rw [if_pos ⟨rfl, c⟩, c, prU_r]; exact ⟨rfl, hq⟩
      · rw [if_neg (fun z => c z.2), prU_o c]; exact h7 i (by omega)
theorem cadd {post : Int32 → cs_S → Prop} (h : tlW G S tl ed na al) (hna : na < 500) (hq : cs_k S q = 2) (hc : gC na ≤ mc) (hs : gS na ≤ ms)
    (hp : ∀ S' ed', fX (fun s f a => a = tl ∨ (s = 5 ∧ a = ed ∧ 0 < na)) S S' → (ed' = ed ∨ cs_k S ed' = 0) → tlW G S' tl ed' (na + 1) (prU al na q) → post 1 S') : wp_Jx4a65c_add_9ea2d post G mc ms S tl (some q) := by
  obtain ⟨h1, h2, h3, h4, h5, h6, h7⟩ := h
  obtain ⟨f1, f2, f3, -⟩ := cpF_a na hna
  have hle := cpF_le na
  have hle1 := cpF_le (na + 1)
  have tne : tl ≠ ed := fun e => by rw [e, h3] at h1; cases h1
  refine ⟨h1, fun S7 e7 => ⟨by rw [e7]; exact h1, fun r9 e9 => ⟨mc, ms, by omega, by omega, ?_⟩⟩⟩
  have hF7 : fX (fun s f a => a = tl ∨ (s = 5 ∧ a = ed ∧ 0 < na)) S S7 := by rw [e7]; exact fX.rfl.ui (Or.inl (Or.inl rfl))
  have r7 : ∀ f a, cs_r S7 f a = cs_r S f a := fun f a => by rw [e7]; rfl
  have k7 : ∀ a, cs_k S7 a = cs_k S a := fun a => by rw [e7]; rfl
  have n7 : ∀ a, cs_n S7 a = cs_n S a := fun a => by rw [e7]; rfl
  have i7 : cs_i S7 2 tl = nI na := by rw [e7, iui, if_neg (fun z => absurd z.1 (by decide))]; exact h5
  have a7 : ∀ a j, cs_ar S7 a j = cs_ar S a j := fun a j => by rw [e7]; rfl
  have eq9 : r9 = some ed := by rw [e9, r7]; exact h2
  rw [eq9, i7]
  refine ⟨ed, rfl, (k7 _).trans h3, fun z => ?_, fun z => ⟨(k7 _).trans h1, mc, ms, by omega, by omega, ?_⟩⟩
  · have hne : na ≠ cpF na := fun y => z (by rw [n7, h4, ← y]; rfl)
    obtain ⟨g1, g2⟩ := f2 hne
    refine cadd_11 (G := G) (al := al) (by omega) (by omega) ((k7 _).trans h1) ((r7 _ _).trans h2) ((k7 _).trans h3) (by rw [n7, h4, g1]) (by omega) hna (fun i hi => by rw [a7, k7]; exact h7 i hi) ((k7 _).trans hq) (fun S' hF ht => hp S' ed (hF7.trans (hF.mono (fun s f a y => ?_))) (Or.inl rfl) ht)
    rcases y with y | y
    · exact Or.inl y.1
    · refine Or.inr ⟨y.1, y.2, ?_⟩
      have : na ≠ 0 := fun w => by rw [w] at hne; exact hne rfl
      omega
  · have hcp : na = cpF na := by
      rw [n7, h4] at z
      exact (nI_eq (by omega) (by omega)).mp z
    obtain ⟨g1, g2⟩ := f3 hcp
    have hc1 : 1 ≤ mc := by unfold gC at hc; rw [if_pos hcp] at hc; exact hc
    have hs1 : cpF (na + 1) ≤ ms := by unfold gS at hs; rw [if_pos hcp] at hs; exact hs
    -- once the row is there
    have fin : ∀ S2 q2 u v, u ≤ mc → v ≤ ms → cs_k S7 q2 = 0 → fX (fun s f a => a = tl) S7 S2 → cs_k S2 tl = 1 → cs_k S2 q2 = 27 → cs_n S2 q2 = cpF (na + 1) → (∀ i, i < na → cs_ar S2 q2 i = cs_ar S ed i) → w_Jx4a65c_add_72be8_11 (fun S10 => post 1 S10) G mc ms (cs_ur S2 1 tl (some q2)) u v tl (some q) (some q2) (nI na) := by
      intro S2 q2 u v hu hv hq2 hF2 k1 k2 n2 a2
      have hd : cs_k S q2 = 0 := hF7.dead hq2
      have kq : cs_k S2 q = 2 := (hF2 q (by rw [k7, hq]; decide)).1.trans ((k7 _).trans hq)
      refine cadd_11 (G := G) (al := al) hu hv k1 (by rw [rur, if_pos ⟨rfl, rfl⟩]) k2 n2 g1 hna (fun i hi => ⟨(a2 i hi).trans (h7 i hi).1, ?_⟩) kq (fun S' hF ht => hp S' q2 ?_ (Or.inr hd) ht)
      · have := (h7 i hi).2
        exact (hF2 _ (by rw [k7, this]; decide)).1.trans ((k7 _).trans this)
      · have hF3 : fX (fun s f a => a = tl ∨ (s = 5 ∧ a = ed ∧ 0 < na)) S (cs_ur S2 1 tl (some q2)) := (hF7.trans (hF2.mono (fun s f a y => Or.inl y))).ur (Or.inl (Or.inl rfl))
        refine hF3.tr hF (fun s f a ha y => ?_)
        rcases y with y | y
        · exact Or.inl y.1
        · rw [y.2] at ha; exact absurd hd ha
    refine ⟨(k7 _).trans h1, mc, ms, by omega, by omega, (k7 _).trans h1, fun r23 e23 => ⟨ed, by rw [e23, r7]; exact h2, (k7 _).trans h3, fun y => ⟨by omega, by omega, ?_⟩, fun y r26 e26 => ⟨fun _ => ?_, fun w => ?_⟩⟩⟩
    · -- it was not empty
      rw [n7, h4, ← hcp] at y ⊢
      have hpos : 0 < na := by
        refine Nat.pos_of_ne_zero (fun w => ?_)
        rw [w] at y
        exact absurd y (by decide)
      obtain ⟨c1, c2⟩ := g2 hpos
      rw [i7]
      have e1 : nI na + 1 - Int32.ofNat na = 1 := by
        rw [nI_1]
        show nI (na + 1) - nI na = 1
        rw [show nI (na + 1) = nI na + 1 from (nI_1 na).symm]
        rw [Int32.add_comm, Int32.add_sub_cancel]
      have e2 : Int32.ofNat na >>> (1 &&& 31) = nI (na / 2) := by
        exact sh1 na hna
      rw [e1, e2]
      have e3 : (if (1 : Int32) < nI (na / 2) then nI (na / 2) else 1) = nI (na / 2) := by
        rw [if_pos]
        exact (nI_lt (a := 1) (b := na / 2) c2 (by omega))
      have e4 : Int32.ofNat na + nI (na / 2) = nI (cpF (na + 1)) := by
        rw [c1]
        exact nI_add na (na / 2)
      unfold wp_J8_newLength_cabcc
      rw [e3, e4]
      refine ⟨fun w => absurd w (nI_ge (a := 0) (b := cpF (na + 1)) (by omega) (by omega)), fun _ => ⟨fun w => absurd (nI_le (a := cpF (na + 1)) (b := 2147483639) (by omega) (by decide)) (Int32.not_le.mpr w), fun _ => ⟨(k7 _).trans h1, fun r18 e18 => ⟨mc, ms, by omega, by omega, ed, by rw [e18, r7]; exact h2, (k7 _).trans h3, by rw [n7, h4]; omega, mc, ms, by omega, by omega, fun w => absurd rfl w, fun _ => ?_⟩⟩⟩⟩
      rw [nI_clamp (by omega)]
      refine ⟨fun w => absurd (nI_pos' (by omega)) (Int32.not_le.mpr w), by omega, by omega, by omega, fun q2 hq2 S13 e13 => ?_⟩
      subst e13
      have nq : ∀ a, cs_k S7 a ≠ 0 → a ≠ q2 := fun a ha e => ha (by rw [e]; exact hq2)
      have ned : ed ≠ q2 := nq _ (by rw [k7, h3]; decide)
      have ntl : tl ≠ q2 := nq _ (by rw [k7, h1]; decide)
      have nn1 : cs_n (cs_newA S7 q2 27 (cpF (na + 1))) ed = na := by rw [nnewA, if_neg ned, n7, h4, ← hcp]
      have nn2 : cs_n (cs_newA S7 q2 27 (cpF (na + 1))) q2 = cpF (na + 1) := by rw [nnewA, if_pos rfl]
      have emin : (if nI (cpF (na + 1)) < Int32.ofNat na then nI (cpF (na + 1)) else Int32.ofNat na) = nI na := by
        rw [if_neg]
        · rfl
        · exact fun w => absurd (nI_le (a := na) (b := cpF (na + 1)) (by omega) (by omega)) (Int32.not_le.mpr w)
      refine ⟨by omega, by omega, ed, rfl, by rw [knewA, if_neg ned, k7]; exact h3, q2, rfl, by rw [knewA, if_pos rfl], by rw [nn1]; omega, by rw [nn2]; omega, ?_⟩
      rw [nn1, nn2, emin, nI_clamp (by omega)]
      refine ⟨fun w => absurd (nI_pos' (by omega)) (Int32.not_le.mpr w), Nat.le_refl _, by omega, fun j hj b' hb' => ?_, fun S11 e11 => ?_⟩
      · rw [arnewA, if_neg ned, a7, (h7 j hj).1] at hb'
        cases hb'
        rw [knewA, if_neg (nq _ (by rw [k7, (h7 j hj).2]; decide)), k7]
        exact (h7 j hj).2
      · subst e11
        refine ⟨?_, fun S21 e21 => ?_⟩
        · show cs_k (cs_newA S7 q2 27 (cpF (na + 1))) tl = 1
          rw [knewA, if_neg ntl, k7]; exact h1
        · subst e21
          refine fin _ q2 _ _ (by omega) (by omega) hq2 ?_ ?_ ?_ ?_ (fun i hi => ?_)
          · intro a ha
            have hne := nq a ha
            obtain ⟨y1, y2, y3, y4, y5, y6, y7, y8⟩ := (fX.rfl (E := fun s f a => a = tl) (S := S7)).newA hq2 (k := 27) (n := cpF (na + 1)) a ha
            refine ⟨y1, y2, y3, y4, y5, y6, y7, fun g hg => ?_⟩
            show va_up (fun a j => cs_ar (cs_newA S7 q2 27 (cpF (na + 1))) a j) q2 _ a g = _
            unfold va_up
            rw [if_neg hne]
            exact y8 g hg
          · show cs_k (cs_newA S7 q2 27 (cpF (na + 1))) tl = 1
            rw [knewA, if_neg ntl, k7]; exact h1
          · show cs_k (cs_newA S7 q2 27 (cpF (na + 1))) q2 = 27
            rw [knewA, if_pos rfl]
          · exact nn2
          · show va_up (fun a j => cs_ar (cs_newA S7 q2 27 (cpF (na + 1))) a j) q2 (va_cpy (cs_ar (cs_newA S7 q2 27 (cpF (na + 1))) ed) (cs_ar (cs_newA S7 q2 27 (cpF (na + 1))) q2) 0 0 na) q2 i = _
            unfold va_up va_cpy
            rw [if_pos rfl, if_pos ⟨by omega, by omega⟩, Nat.zero_add, Nat.sub_zero, arnewA, if_neg ned, a7]
    · -- the first
      have hz : na = 0 := by
        rw [n7, h4, ← hcp] at y
        by_cases c : na = 0
        · exact c
        · exact absurd (nI_lt (a := 0) (b := na) (by omega) (by omega)) y
      subst hz
      have e10 : (if (10 : Int32) < cs_i S7 2 tl + 1 then cs_i S7 2 tl + 1 else 10) = nI 10 := by rw [i7]; decide
      rw [e10, nI_clamp (by decide)]
      have hs10 : 10 ≤ ms := hs1
      refine ⟨by decide, by decide, by omega, by omega, fun q2 hq2 S28 e28 => ?_⟩
      subst e28
      have ntl : tl ≠ q2 := fun e => by rw [← e, k7, h1] at hq2; cases hq2
      have kt : cs_k (cs_newA S7 q2 27 10) tl = 1 := by rw [knewA, if_neg ntl, k7]; exact h1
      refine ⟨kt, fun S30 e30 => ?_⟩
      subst e30
      exact fin _ q2 _ _ (by omega) (by omega) hq2 (fX.rfl.newA hq2) kt (by rw [knewA, if_pos rfl]) (by rw [nnewA, if_pos rfl]; rfl) (fun i hi => absurd hi (by omega))
    · -- never
      have hz : na = 0 := by
        rw [n7, h4, ← hcp] at y
        by_cases c : na = 0
        · exact c
        · exact absurd (nI_lt (a := 0) (b := na) (by omega) (by omega)) y
      exact absurd (by rw [e26, r7, h2, h6 hz]) w
end TLW
