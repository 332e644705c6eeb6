/-! ===== conditions that grow: one part more, one group more ===== -/
/-- what trees of the first cn nodes hold stays -/
def prS (σ σ' : rf_S) (bk cn : Nat) : Prop := ∀ d m (t : cT d), inB bk cn m → rLv σ d t → rR σ d m t → rR σ' d m t ∧ rLv σ' d t ∧ ∀ S, cLv S σ d t → cLv S σ' d t
theorem prS.of {bf : Nat → Nat} {z bk nr i cn : Nat} {nm : Nat → Int64} {σ σ' : rf_S} (h : rA bf z bk nr nm i cn σ) (hc : cn ≤ 1100) (hF : pF bk cn σ σ') : prS σ σ' bk cn := by
  intro d m t hm hl hr
  have hN := h.2.2.2.2.1.2.2.1
  have hT := h.2.2.2.2.1.2.2.2
  have hbk := h.2.2.1.2.2
  have hE := hF.ek hc
  exact ⟨rR_bk hN hbk hc (fun k n h1 h2 hn => hE.1 k n h1 (by omega) hn) d m t hm hl hr, rLv_bk hN hbk hc hE d m t hm hl hr, fun S hc' => cLv_bk hN hbk hc hE hT d m t hm hl hr hc'⟩
/-- a new group, still empty -/
def LJ (G cx : Nat → Nat) (bf : Nat → Nat) (z c nr : Nat) (ra : Nat → Nat) (nm : Nat → Int64) (D i1 : Nat) (σ : rf_S) (pend : Option Nat) (S Sx : cs_S) (E q : Nat) (L : List (List (cT D))) : Prop :=
  pA G cx bf z c nr ra nm i1 Sx ∧ fX (pE (cx 0)) S Sx ∧ (cs_k S E = 0 ∧ cs_k Sx E = 3 ∧ cs_i Sx 200 E = 32 ∧ cs_r Sx 206 E = none ∧ cs_r Sx 205 E = some q) ∧
  (cs_k S q = 0 ∧ cs_k Sx q = 3 ∧ q ≠ E ∧ cs_i Sx 200 q = 33 ∧ cs_r Sx 206 q = none ∧ cs_r Sx 205 q = none) ∧
  ∃ Fz : Nat → Prop, (∀ y, Fz y → cs_k S y = 0 ∧ cs_k Sx y ≠ 0 ∧ y ≠ E ∧ y ≠ q) ∧ chQ Sx (rcB Sx Fz D) (cs_r Sx 204 E) L q ∧
    ((pend = none ∧ L = []) ∨ ∃ no, pend = some no ∧ L ≠ [] ∧ rR σ (D + 1) no (.inr (.inr L))) ∧ cLv Sx σ (D + 1) (.inr (.inr L)) ∧ rLv σ (D + 1) (.inr (.inr L))
section GRW
variable {G cx : Nat → Nat} {bf : Nat → Nat} {z c bk nr i1 i2 D na nd N cn1 x : Nat} {ra : Nat → Nat} {nm : Nat → Int64} {σ σ' : rf_S} {S Sx S24 Sx' : cs_S} {E b : Nat} {pend : Option Nat} {ls : List (List (cT D))} {ts : List (cT D)} {tl t : cT D}
theorem pA.c3 {E9 : Nat → Nat → Nat → Prop} {i : Nat} (h : pA G cx bf z c nr ra nm i Sx) (hF : fX E9 Sx Sx') (hE : ∀ s f a, E9 s f a → cs_k Sx a = 3) : pA G cx bf z c nr ra nm i Sx' := by
  refine h.fx hF (fun s f a q => ⟨fun j hj e => ?_, fun r hr e => ?_⟩)
  · have k3 := hE s f a q
    obtain ⟨⟨s1, -⟩, ⟨s2, -⟩, ⟨s3, -⟩, ⟨s4, -⟩, ⟨s5, -⟩, ⟨s6, -⟩, ⟨s7, -⟩, -⟩ := h.1
    rw [e] at k3
    have hj : j = 0 ∨ j = 1 ∨ j = 2 ∨ j = 3 ∨ j = 4 ∨ j = 5 ∨ j = 6 := by omega
    rcases hj with rfl | rfl | rfl | rfl | rfl | rfl | rfl <;> omega
  · have k3 := hE s f a q
    have := (h.1.2.2.2.2.2.2.2.2.2.1 r hr).2.1
    rw [e] at k3
    omega
theorem pQ.c3 {E9 : Nat → Nat → Nat → Prop} {fk fp : Int32} (h : pQ G cx bf z c nr ra nm fk fp Sx) (hF : fX E9 Sx Sx') (hE : ∀ s f a, E9 s f a → cs_k Sx a = 3) : pQ G cx bf z c nr ra nm fk fp Sx' := by
  refine h.fx hF (fun s f a q => ⟨fun j hj e => ?_, fun r hr e => ?_⟩)
  · have k3 := hE s f a q
    obtain ⟨⟨s1, -⟩, ⟨s2, -⟩, ⟨s3, -⟩, ⟨s4, -⟩, ⟨s5, -⟩, ⟨s6, -⟩, ⟨s7, -⟩, -⟩ := h.1
    rw [e] at k3
    have hj : j = 0 ∨ j = 1 ∨ j = 2 ∨ j = 3 ∨ j = 4 ∨ j = 5 ∨ j = 6 := by omega
    rcases hj with rfl | rfl | rfl | rfl | rfl | rfl | rfl <;> omega
  · have k3 := hE s f a q
    have := (h.1.2.2.2.2.2.2.2.2.2.1 r hr).2.1
    rw [e] at k3
    omega
/-- what the parser's steps leave of a Cond -/
theorem pEl {a : Nat} (h : fX (pE (cx 0)) Sx Sx') (ha : cs_k Sx a ≠ 0) : cs_k Sx' a = cs_k Sx a ∧ cs_i Sx' 200 a = cs_i Sx 200 a ∧ ∀ f, cs_r Sx' f a = cs_r Sx f a := by
  obtain ⟨k, -, i, -, r, -⟩ := h a ha
  exact ⟨k, i 200 (fun q => by have := q.2.2; omega), fun f => r f (fun q => absurd q.1 (by decide))⟩
/-- one part more in the last group -/
theorem LI.app (h : LI G cx bf z c nr ra nm D i1 σ na pend S Sx E b ls ts tl) (f1 : fX (pE (cx 0)) Sx S24) (h2 : pA G cx bf z c nr ra nm i2 Sx') (f2 : fX (pE (cx 0)) S24 Sx') (x1 : cs_k S24 x = 0) (x2 : cs_k Sx' x = 3) (x3 : cs_r Sx' 206 x = none) (x4 : cN Sx' (nO S24 Sx' x) D x t) (hP : prS σ σ' bk cn1) (hna : inB bk cn1 na) (hno : ∀ no, pend = some no → inB bk cn1 no) (hN : N < 2200) (h47 : σ'.2.2.1 47 N = 1) (h48 : σ'.2.2.1 48 N = nI na) (h49 : σ'.2.2.1 49 N = nI nd) (t1 : rR σ' D nd t) (t2 : cLv Sx' σ' D t) (t3 : rLv σ' D t) {post : cs_S → Prop} (hp : ∀ S', LI G cx bf z c nr ra nm D i2 σ' N pend S S' E b ls (ts ++ [tl]) t → post S') : wp_X1_append post G Sx' b (some x) := by
  obtain ⟨cc, Fz, pa, pf, ⟨e1, e2, e3, e4, e5⟩, ⟨b1, b2, b3, b4, b5, b6⟩, ⟨c1, c2, c3, c4, c5, c6⟩, hF, q1, q2, r1, r2, l1, l2⟩ := h
  have k7 := pa.1.1.1
  have ff : fX (pE (cx 0)) Sx Sx' := f1.trans f2
  have xd : cs_k Sx x = 0 := f1.dead x1
  have lb : cs_k Sx b ≠ 0 := by rw [b2]; decide
  have lc : cs_k Sx cc ≠ 0 := by rw [c2]; decide
  have lE : cs_k Sx E ≠ 0 := by rw [e2]; decide
  obtain ⟨kb, ib, rb⟩ := pEl ff lb
  obtain ⟨kc, ic, rc⟩ := pEl ff lc
  obtain ⟨kE, iE, rE⟩ := pEl ff lE
  have xb : x ≠ b := fun e => lb (by rw [← e]; exact xd)
  have xc : x ≠ cc := fun e => lc (by rw [← e]; exact xd)
  have xE : x ≠ E := fun e => lE (by rw [← e]; exact xd)
  refine ⟨fun q => (nomatch q), fun b12 e12 => ⟨kb.trans b2, fun r14 e14 => ⟨fun q => ?_, fun b15 e15 r16 e16 => ⟨cc, by rw [e16, rb, b6], kc.trans c2, fun S19 e19 => ⟨by rw [e19]; exact kb.trans b2, fun S11 e11 => hp S11 ?_⟩⟩⟩⟩⟩
  · rw [e14, rb, b6] at q; exact nomatch q
  · cases e12
    have rS : ∀ f y, cs_r S11 f y = if f = 205 ∧ y = b then some x else if f = 206 ∧ y = cc then some x else cs_r Sx' f y := fun f y => by rw [e11, rur, e19, rur]
    have kS : ∀ y, cs_k S11 y = cs_k Sx' y := fun y => by rw [e11, e19]; rfl
    have iS : ∀ f y, cs_i S11 f y = cs_i Sx' f y := fun f y => by rw [e11, e19]; rfl
    have hf3 : fX (fun s f y => s = 2 ∧ ((f = 206 ∧ y = cc) ∨ (f = 205 ∧ y = b))) Sx' S11 := by
      rw [e11, e19]
      exact (fX.rfl.ur (Or.inl ⟨rfl, Or.inl ⟨rfl, rfl⟩⟩)).ur (Or.inl ⟨rfl, Or.inr ⟨rfl, rfl⟩⟩)
    have hFy : ∀ y, Fz y → (Fz y ∨ y = cc ∨ nO S24 Sx' x y) ∧ cs_k Sx y ≠ 0 ∧ cs_k S11 y = cs_k Sx y ∧ cs_i S11 200 y = cs_i Sx 200 y ∧ cs_r S11 204 y = cs_r Sx 204 y ∧ cs_r S11 206 y = cs_r Sx 206 y := fun y hy => by
      obtain ⟨g1, g2, g3, g4, g5⟩ := hF y hy
      obtain ⟨u1, u2, u3⟩ := pEl ff g2
      refine ⟨Or.inl hy, g2, (kS y).trans u1, (iS _ y).trans u2, ?_, ?_⟩
      · rw [rS, if_neg (fun q => absurd q.1 (by decide)), if_neg (fun q => absurd q.1 (by decide))]; exact u3 _
      · rw [rS, if_neg (fun q => absurd q.1 (by decide)), if_neg (fun q => g5 q.2)]; exact u3 _
    have lx : cs_k Sx' x ≠ 0 := by rw [x2]; decide
    have rv := (lv_app (σ := σ) (l := ls) (g := ts) (t := tl)).mp l2
    have cvv := (cv_app (S := Sx) (σ := σ) (l := ls) (g := ts) (t := tl)).mp l1
    -- the group's tree and those ahead, in the new state
    have lg : rLv σ (D + 1) (.inr (.inr [ts ++ [tl]])) := fun g hg y hy => by
      rw [List.mem_singleton.mp hg] at hy
      rcases List.mem_append.mp hy with q | q
      · exact rv.2.1 y q
      · rw [List.mem_singleton.mp q]; exact rv.2.2
    have cg : cLv Sx σ (D + 1) (.inr (.inr [ts ++ [tl]])) := fun g hg y hy => by
      rw [List.mem_singleton.mp hg] at hy
      rcases List.mem_append.mp hy with q | q
      · exact cvv.2.1 y q
      · rw [List.mem_singleton.mp q]; exact cvv.2.2
    obtain ⟨p1, p2, p3⟩ := hP (D + 1) na _ hna lg r1
    have tr : ∀ d (t : cT d), cLv Sx σ' d t → cLv S11 σ' d t := fun d t q => cLv.fx hf3 (aL.tE (kc.trans c2) (kb.trans b2)) d t (cLv.fx ff (pE.tE k7) d t q)
    have hls : ((pend = none ∧ ls = []) ∨ ∃ no, pend = some no ∧ ls ≠ [] ∧ rR σ' (D + 1) no (.inr (.inr ls))) ∧ cLv Sx σ' (D + 1) (.inr (.inr ls)) ∧ rLv σ' (D + 1) (.inr (.inr ls)) := by
      rcases r2 with ⟨w1, w2⟩ | ⟨no, w1, w2, w3⟩
      · subst w2
        exact ⟨Or.inl ⟨w1, rfl⟩, fun g hg => (nomatch hg), fun g hg => (nomatch hg)⟩
      · obtain ⟨y1, y2, y3⟩ := hP (D + 1) no _ (hno no w1) rv.1 w3
        exact ⟨Or.inr ⟨no, w1, w2, y1⟩, y3 Sx cvv.1, y2⟩
    refine ⟨x, fun y => Fz y ∨ y = cc ∨ nO S24 Sx' x y, h2.c3 hf3 (fun s f a q => ?_), ?_, ⟨e1, (kS E).trans (kE.trans e2), (iS _ E).trans (iE.trans e3), ?_, ?_⟩, ⟨b1, (kS b).trans (kb.trans b2), b3, (iS _ b).trans (ib.trans b4), ?_, ?_⟩, ⟨(pf.trans f1).dead x1, (kS x).trans x2, xE, xb, ?_, ?_⟩, fun y hy => ?_, ?_, ?_, rR_and hN h47 h48 h49 p1 t1, hls.1, ?_, ?_⟩
    · rcases q.2 with w | w
      · rw [w.2]; exact kc.trans c2
      · rw [w.2]; exact kb.trans b2
    · rw [e11, e19]
      exact ((pf.trans ff).ur (Or.inr c1)).ur (Or.inr b1)
    · rw [rS, if_neg (fun q => absurd q.1 (by decide)), if_neg (fun q => c3 q.2.symm), rE]; exact e4
    · rw [rS, if_neg (fun q => b3 q.2.symm), if_neg (fun q => absurd q.1 (by decide)), rE]; exact e5
    · rw [rS, if_neg (fun q => absurd q.1 (by decide)), if_neg (fun q => c4 q.2.symm), rb]; exact b5
    · rw [rS, if_pos ⟨rfl, rfl⟩]
    · rw [rS, if_neg (fun q => absurd q.1 (by decide)), if_neg (fun q => xc q.2)]; exact x3
    · refine cN.st (O' := fun y => Fz y ∨ y = cc ∨ nO S24 Sx' x y) (fun y hy _ => ?_) (fun y hy => hy.2.1) D x t (kS x) (iS _ x) ?_ x4
      · have yb : y ≠ b := fun e => by
          have := hy.1
          rw [e] at this
          exact lb (f1.dead this)
        have yc : y ≠ cc := fun e => by
          have := hy.1
          rw [e] at this
          exact lc (f1.dead this)
        refine ⟨Or.inr (Or.inr hy), kS y, iS _ y, ?_, ?_⟩
        · rw [rS, if_neg (fun q => absurd q.1 (by decide)), if_neg (fun q => absurd q.1 (by decide))]
        · rw [rS, if_neg (fun q => absurd q.1 (by decide)), if_neg (fun q => yc q.2)]
      · rw [rS, if_neg (fun q => absurd q.1 (by decide)), if_neg (fun q => absurd q.1 (by decide))]
    · rcases hy with hy | hy | hy
      · obtain ⟨g1, g2, g3, g4, g5⟩ := hF y hy
        refine ⟨g1, by rw [kS, (pEl ff g2).1]; exact g2, g3, g4, fun e => g2 (by rw [e]; exact xd)⟩
      · rw [hy]
        exact ⟨c1, by rw [kS, kc]; exact lc, c3, c4, fun e => xc e.symm⟩
      · refine ⟨(pf.trans f1).dead hy.1, by rw [kS]; exact hy.2.1, fun e => ?_, fun e => ?_, hy.2.2⟩
        · have := hy.1
          rw [e] at this
          exact lE (f1.dead this)
        · have := hy.1
          rw [e] at this
          exact lb (f1.dead this)
    · rw [rS, if_neg (fun q => absurd q.1 (by decide)), if_neg (fun q => absurd q.1 (by decide)), rE]
      exact chQ.mono ls _ b (fun a g hk hr => ⟨by rw [(hFy a hr.1).2.2.1]; exact hk, rcB.st hFy hr, (hFy a hr.1).2.2.2.2.2⟩) q1
    · rw [rS, if_neg (fun q => absurd q.1 (by decide)), if_neg (fun q => absurd q.1 (by decide)), rb]
      refine chQ.app ts _ cc x tl (chQ.mono ts _ cc (fun a g hk hr => ⟨by rw [(hFy a hr.1).2.2.1]; exact hk, rcC.st hFy hr, (hFy a hr.1).2.2.2.2.2⟩) q2) ((kS cc).trans (kc.trans c2)) ⟨Or.inr (Or.inl rfl), ?_⟩ ?_
      · refine cN.st (fun y hy _ => ⟨(hFy y hy).1, (hFy y hy).2.2⟩) (fun y hy => (hFy y hy).2.1) D cc tl ((kS cc).trans kc) ((iS _ cc).trans ic) ?_ c6
        rw [rS, if_neg (fun q => absurd q.1 (by decide)), if_neg (fun q => absurd q.1 (by decide)), rc]
      · rw [rS, if_neg (fun q => absurd q.1 (by decide)), if_pos ⟨rfl, rfl⟩]
    · refine cv_app.mpr ⟨tr _ _ hls.2.1, fun y hy => ?_, cLv.fx hf3 (aL.tE (kc.trans c2) (kb.trans b2)) D t t2⟩
      exact tr _ _ (p3 Sx cg _ (List.mem_singleton.mpr rfl) y hy)
    · refine lv_app.mpr ⟨hls.2.2, fun y hy => p2 _ (List.mem_singleton.mpr rfl) y hy, t3⟩
/-- the first part of a new group -/
theorem LJ.app {q : Nat} {L : List (List (cT D))} (h : LJ G cx bf z c nr ra nm D i1 σ pend S Sx E q L) (f1 : fX (pE (cx 0)) Sx S24) (h2 : pA G cx bf z c nr ra nm i2 Sx') (f2 : fX (pE (cx 0)) S24 Sx') (x1 : cs_k S24 x = 0) (x2 : cs_k Sx' x = 3) (x3 : cs_r Sx' 206 x = none) (x4 : cN Sx' (nO S24 Sx' x) D x t) (hP : prS σ σ' bk cn1) (hno : ∀ no, pend = some no → inB bk cn1 no) (t1 : rR σ' D nd t) (t2 : cLv Sx' σ' D t) (t3 : rLv σ' D t) {post : cs_S → Prop} (hp : ∀ S', LI G cx bf z c nr ra nm D i2 σ' nd pend S S' E q L [] t → post S') : wp_X1_append post G Sx' q (some x) := by
  obtain ⟨pa, pf, ⟨e1, e2, e3, e4, e5⟩, ⟨b1, b2, b3, b4, b5, b6⟩, Fz, hF, q1, r2, l1, l2⟩ := h
  have k7 := pa.1.1.1
  have ff : fX (pE (cx 0)) Sx Sx' := f1.trans f2
  have xd : cs_k Sx x = 0 := f1.dead x1
  have lb : cs_k Sx q ≠ 0 := by rw [b2]; decide
  have lE : cs_k Sx E ≠ 0 := by rw [e2]; decide
  obtain ⟨kb, ib, rb⟩ := pEl ff lb
  obtain ⟨kE, iE, rE⟩ := pEl ff lE
  have xb : x ≠ q := fun e => lb (by rw [← e]; exact xd)
  have xE : x ≠ E := fun e => lE (by rw [← e]; exact xd)
  refine ⟨fun q => (nomatch q), fun b12 e12 => ⟨kb.trans b2, fun r14 e14 => ⟨fun _ S20 e20 => ⟨by rw [e20]; exact kb.trans b2, fun S11 e11 => hp S11 ?_⟩, fun b15 e15 => ?_⟩⟩⟩
  · cases e12
    have rS : ∀ f y, cs_r S11 f y = if f = 205 ∧ y = q then some x else if f = 204 ∧ y = q then some x else cs_r Sx' f y := fun f y => by rw [e11, rur, e20, rur]
    have kS : ∀ y, cs_k S11 y = cs_k Sx' y := fun y => by rw [e11, e20]; rfl
    have iS : ∀ f y, cs_i S11 f y = cs_i Sx' f y := fun f y => by rw [e11, e20]; rfl
    have hf3 : fX (fun s f y => s = 2 ∧ 204 ≤ f ∧ y = q) Sx' S11 := by
      rw [e11, e20]
      exact (fX.rfl.ur (Or.inl ⟨rfl, by decide, rfl⟩)).ur (Or.inl ⟨rfl, by decide, rfl⟩)
    have htE : tE (fun s f y => s = 2 ∧ 204 ≤ f ∧ y = q) Sx' := fun s f a w => by
      rw [w.2.2, kb, b2]; exact ⟨by decide, by decide, fun _ => ⟨w.1, w.2.1⟩⟩
    have hFy : ∀ y, Fz y → (Fz y ∨ nO S24 Sx' x y) ∧ cs_k Sx y ≠ 0 ∧ cs_k S11 y = cs_k Sx y ∧ cs_i S11 200 y = cs_i Sx 200 y ∧ cs_r S11 204 y = cs_r Sx 204 y ∧ cs_r S11 206 y = cs_r Sx 206 y := fun y hy => by
      obtain ⟨g1, g2, g3, g4⟩ := hF y hy
      obtain ⟨u1, u2, u3⟩ := pEl ff g2
      refine ⟨Or.inl hy, g2, (kS y).trans u1, (iS _ y).trans u2, ?_, ?_⟩
      · rw [rS, if_neg (fun w => absurd w.1 (by decide)), if_neg (fun w => g4 w.2)]; exact u3 _
      · rw [rS, if_neg (fun w => absurd w.1 (by decide)), if_neg (fun w => absurd w.1 (by decide))]; exact u3 _
    have tr : ∀ d (t : cT d), cLv Sx σ' d t → cLv S11 σ' d t := fun d t w => cLv.fx hf3 htE d t (cLv.fx ff (pE.tE k7) d t w)
    have hls : ((pend = none ∧ L = []) ∨ ∃ no, pend = some no ∧ L ≠ [] ∧ rR σ' (D + 1) no (.inr (.inr L))) ∧ cLv Sx σ' (D + 1) (.inr (.inr L)) ∧ rLv σ' (D + 1) (.inr (.inr L)) := by
      rcases r2 with ⟨w1, w2⟩ | ⟨no, w1, w2, w3⟩
      · subst w2
        exact ⟨Or.inl ⟨w1, rfl⟩, fun g hg => (nomatch hg), fun g hg => (nomatch hg)⟩
      · obtain ⟨y1, y2, y3⟩ := hP (D + 1) no _ (hno no w1) l2 w3
        exact ⟨Or.inr ⟨no, w1, w2, y1⟩, y3 Sx l1, y2⟩
    refine ⟨x, fun y => Fz y ∨ nO S24 Sx' x y, h2.c3 hf3 (fun s f a w => by rw [w.2.2]; exact kb.trans b2), ?_, ⟨e1, (kS E).trans (kE.trans e2), (iS _ E).trans (iE.trans e3), ?_, ?_⟩, ⟨b1, (kS q).trans (kb.trans b2), b3, (iS _ q).trans (ib.trans b4), ?_, ?_⟩, ⟨(pf.trans f1).dead x1, (kS x).trans x2, xE, xb, ?_, ?_⟩, fun y hy => ?_, ?_, ?_, t1, hls.1, ?_, ?_⟩
    · rw [e11, e20]
      exact ((pf.trans ff).ur (Or.inr b1)).ur (Or.inr b1)
    · rw [rS, if_neg (fun w => absurd w.1 (by decide)), if_neg (fun w => absurd w.1 (by decide)), rE]; exact e4
    · rw [rS, if_neg (fun w => b3 w.2.symm), if_neg (fun w => absurd w.1 (by decide)), rE]; exact e5
    · rw [rS, if_neg (fun w => absurd w.1 (by decide)), if_neg (fun w => absurd w.1 (by decide)), rb]; exact b5
    · rw [rS, if_pos ⟨rfl, rfl⟩]
    · rw [rS, if_neg (fun w => absurd w.1 (by decide)), if_neg (fun w => absurd w.1 (by decide))]; exact x3
    · refine cN.st (O' := fun y => Fz y ∨ nO S24 Sx' x y) (fun y hy _ => ?_) (fun y hy => hy.2.1) D x t (kS x) (iS _ x) ?_ x4
      · have yb : y ≠ q := fun e => by
          have := hy.1
          rw [e] at this
          exact lb (f1.dead this)
        refine ⟨Or.inr hy, kS y, iS _ y, ?_, ?_⟩
        · rw [rS, if_neg (fun w => absurd w.1 (by decide)), if_neg (fun w => yb w.2)]
        · rw [rS, if_neg (fun w => absurd w.1 (by decide)), if_neg (fun w => absurd w.1 (by decide))]
      · rw [rS, if_neg (fun w => absurd w.1 (by decide)), if_neg (fun w => xb w.2)]
    · rcases hy with hy | hy
      · obtain ⟨g1, g2, g3, g4⟩ := hF y hy
        refine ⟨g1, by rw [kS, (pEl ff g2).1]; exact g2, g3, g4, fun e => g2 (by rw [e]; exact xd)⟩
      · refine ⟨(pf.trans f1).dead hy.1, by rw [kS]; exact hy.2.1, fun e => ?_, fun e => ?_, hy.2.2⟩
        · have := hy.1
          rw [e] at this
          exact lE (f1.dead this)
        · have := hy.1
          rw [e] at this
          exact lb (f1.dead this)
    · rw [rS, if_neg (fun w => absurd w.1 (by decide)), if_neg (fun w => b3 w.2.symm), rE]
      exact chQ.mono L _ q (fun a g hk hr => ⟨by rw [(hFy a hr.1).2.2.1]; exact hk, rcB.st hFy hr, (hFy a hr.1).2.2.2.2.2⟩) q1
    · show cs_r S11 204 q = some x
      rw [rS, if_neg (fun w => absurd w.1 (by decide)), if_pos ⟨rfl, rfl⟩]
    · exact cv_app.mpr ⟨tr _ _ hls.2.1, fun y hy => (nomatch hy), cLv.fx hf3 htE D t t2⟩
    · exact lv_app.mpr ⟨hls.2.2, fun y hy => (nomatch hy), t3⟩
  · rw [e14, rb, b6] at e15; exact nomatch e15
/-- a new group behind or -/
theorem LI.grp (h : LI G cx bf z c nr ra nm D i1 σ na pend S Sx E b ls ts tl) {no' q : Nat} (hr : rR σ' (D + 1) no' (.inr (.inr (ls ++ [ts ++ [tl]])))) (hc : cLv Sx σ' (D + 1) (.inr (.inr (ls ++ [ts ++ [tl]])))) (hl : rLv σ' (D + 1) (.inr (.inr (ls ++ [ts ++ [tl]])))) (hq : cs_k Sx q = 0) {post : cs_S → Prop} (hp : ∀ S', LJ G cx bf z c nr ra nm D i1 σ' (some no') S S' E q (ls ++ [ts ++ [tl]]) → post S') : cs_k (nC Sx q 33 0 0 none) E = 3 ∧ wp_X1_append post G (nC Sx q 33 0 0 none) E (some q) := by
  obtain ⟨cc, Fz, pa, pf, ⟨e1, e2, e3, e4, e5⟩, ⟨b1, b2, b3, b4, b5, b6⟩, ⟨c1, c2, c3, c4, c5, c6⟩, hF, q1, q2, r1, r2, l1, l2⟩ := h
  have lb : cs_k Sx b ≠ 0 := by rw [b2]; decide
  have lc : cs_k Sx cc ≠ 0 := by rw [c2]; decide
  have lE : cs_k Sx E ≠ 0 := by rw [e2]; decide
  have nf : fX (fun _ _ _ => False) Sx (nC Sx q 33 0 0 none) := nC.fx hq
  have ol : ∀ y, cs_k Sx y ≠ 0 → cs_k (nC Sx q 33 0 0 none) y = cs_k Sx y ∧ (∀ f, cs_i (nC Sx q 33 0 0 none) f y = cs_i Sx f y) ∧ ∀ f, cs_r (nC Sx q 33 0 0 none) f y = cs_r Sx f y := fun y hy => by
    obtain ⟨k, -, i, -, r, -⟩ := nf y hy
    exact ⟨k, fun f => i f (fun w => w), fun f => r f (fun w => w)⟩
  obtain ⟨kE, iE, rE⟩ := ol E lE
  obtain ⟨kb, ib, rb⟩ := ol b lb
  obtain ⟨kc, ic, rc⟩ := ol cc lc
  have qb : q ≠ b := fun e => lb (by rw [← e]; exact hq)
  have qE : q ≠ E := fun e => lE (by rw [← e]; exact hq)
  have qc : q ≠ cc := fun e => lc (by rw [← e]; exact hq)
  refine ⟨kE.trans e2, fun w => (nomatch w), fun b12 e12 => ⟨kE.trans e2, fun r14 e14 => ⟨fun w => ?_, fun b15 e15 r16 e16 => ⟨b, by rw [e16, rE, e5], kb.trans b2, fun S19 e19 => ⟨by rw [e19]; exact kE.trans e2, fun S11 e11 => hp S11 ?_⟩⟩⟩⟩⟩
  · rw [e14, rE, e5] at w; exact nomatch w
  · cases e12
    have rS : ∀ f y, cs_r S11 f y = if f = 205 ∧ y = E then some q else if f = 206 ∧ y = b then some q else cs_r (nC Sx q 33 0 0 none) f y := fun f y => by rw [e11, rur, e19, rur]
    have kS : ∀ y, cs_k S11 y = cs_k (nC Sx q 33 0 0 none) y := fun y => by rw [e11, e19]; rfl
    have iS : ∀ f y, cs_i S11 f y = cs_i (nC Sx q 33 0 0 none) f y := fun f y => by rw [e11, e19]; rfl
    have hf3 : fX (fun s f y => s = 2 ∧ 204 ≤ f ∧ (y = b ∨ y = E)) (nC Sx q 33 0 0 none) S11 := by
      rw [e11, e19]
      exact (fX.rfl.ur (Or.inl ⟨rfl, by decide, Or.inl rfl⟩)).ur (Or.inl ⟨rfl, by decide, Or.inr rfl⟩)
    have k3 : ∀ s f y, (s = 2 ∧ 204 ≤ f ∧ (y = b ∨ y = E)) → cs_k (nC Sx q 33 0 0 none) y = 3 := fun s f y w => by
      rcases w.2.2 with w | w
      · rw [w]; exact kb.trans b2
      · rw [w]; exact kE.trans e2
    have htE : tE (fun s f y => s = 2 ∧ 204 ≤ f ∧ (y = b ∨ y = E)) (nC Sx q 33 0 0 none) := fun s f a w => by
      rw [k3 s f a w]; exact ⟨by decide, by decide, fun _ => ⟨w.1, w.2.1⟩⟩
    have hFy : ∀ y, Fz y → (Fz y ∨ y = cc ∨ y = b) ∧ cs_k Sx y ≠ 0 ∧ cs_k S11 y = cs_k Sx y ∧ cs_i S11 200 y = cs_i Sx 200 y ∧ cs_r S11 204 y = cs_r Sx 204 y ∧ cs_r S11 206 y = cs_r Sx 206 y := fun y hy => by
      obtain ⟨g1, g2, g3, g4, g5⟩ := hF y hy
      obtain ⟨u1, u2, u3⟩ := ol y g2
      refine ⟨Or.inl hy, g2, (kS y).trans u1, (iS _ y).trans (u2 _), ?_, ?_⟩
      · rw [rS, if_neg (fun w => absurd w.1 (by decide)), if_neg (fun w => absurd w.1 (by decide))]; exact u3 _
      · rw [rS, if_neg (fun w => absurd w.1 (by decide)), if_neg (fun w => g4 w.2)]; exact u3 _
    refine ⟨(pa.nc hq).c3 hf3 k3, ?_, ⟨e1, (kS E).trans (kE.trans e2), (iS _ E).trans ((iE _).trans e3), ?_, ?_⟩, ⟨pf.dead hq, (kS q).trans nC.k, qE, (iS _ q).trans nC.i0, ?_, ?_⟩, fun y => Fz y ∨ y = cc ∨ y = b, fun y hy => ?_, ?_, Or.inr ⟨no', rfl, by simp, hr⟩, cLv.fx hf3 htE _ _ (cLv.fx nf (fun _ _ _ w => w.elim) _ _ hc), hl⟩
    · rw [e11, e19]
      exact ((pf.trans (nC.fx hq)).ur (Or.inr b1)).ur (Or.inr e1)
    · rw [rS, if_neg (fun w => absurd w.1 (by decide)), if_neg (fun w => b3 w.2.symm), rE]; exact e4
    · rw [rS, if_pos ⟨rfl, rfl⟩]
    · rw [rS, if_neg (fun w => absurd w.1 (by decide)), if_neg (fun w => qb w.2)]; exact nC.r (by decide)
    · rw [rS, if_neg (fun w => qE w.2), if_neg (fun w => absurd w.1 (by decide))]; exact nC.r (by decide)
    · rcases hy with hy | hy | hy
      · obtain ⟨g1, g2, g3, g4, g5⟩ := hF y hy
        exact ⟨g1, by rw [kS, (ol y g2).1]; exact g2, g3, fun e => g2 (by rw [e]; exact hq)⟩
      · rw [hy]
        exact ⟨c1, by rw [kS, kc]; exact lc, c3, fun e => qc e.symm⟩
      · rw [hy]
        exact ⟨b1, by rw [kS, kb]; exact lb, b3, fun e => qb e.symm⟩
    · rw [rS, if_neg (fun w => absurd w.1 (by decide)), if_neg (fun w => absurd w.1 (by decide)), rE]
      refine chQ.app ls _ b q _ (chQ.mono ls _ b (fun a g hk hr => ⟨by rw [(hFy a hr.1).2.2.1]; exact hk, rcB.st hFy hr, (hFy a hr.1).2.2.2.2.2⟩) q1) ((kS b).trans (kb.trans b2)) ⟨Or.inr (Or.inr rfl), (iS _ b).trans ((ib _).trans b4), ?_⟩ ?_
      · rw [rS, if_neg (fun w => absurd w.1 (by decide)), if_neg (fun w => absurd w.1 (by decide)), rb]
        refine chQ.fin ts _ cc _ (chQ.mono ts _ cc (fun a g hk hr => ⟨by rw [(hFy a hr.1).2.2.1]; exact hk, rcC.st hFy hr, (hFy a hr.1).2.2.2.2.2⟩) q2) ((kS cc).trans (kc.trans c2)) ⟨Or.inr (Or.inl rfl), ?_⟩ ?_
        · refine cN.st (fun y hy _ => ⟨(hFy y hy).1, (hFy y hy).2.2⟩) (fun y hy => (hFy y hy).2.1) D cc tl ((kS cc).trans kc) ((iS _ cc).trans (ic _)) ?_ c6
          rw [rS, if_neg (fun w => absurd w.1 (by decide)), if_neg (fun w => absurd w.1 (by decide)), rc]
        · rw [rS, if_neg (fun w => absurd w.1 (by decide)), if_neg (fun w => c4 w.2), rc]; exact c5
      · rw [rS, if_neg (fun w => absurd w.1 (by decide)), if_pos ⟨rfl, rfl⟩]
end GRW
