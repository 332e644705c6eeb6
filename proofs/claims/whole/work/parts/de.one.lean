/-! ===== conditions read on both sides: not, brackets; any depth ===== -/
section ONS
variable {G cx : Nat → Nat} {bf : Nat → Nat} {z c bk nr D i cn dp : Nat} {ra : Nat → Nat} {nm : Nat → Int64} {σ : rf_S} {S : cs_S}
theorem OUTC.mono {d kc ks bc bs : Nat} {RW RW' : (Int32 → rf_S → Prop) → Prop} {CWp CWp' : (Option Nat → cs_S → Prop) → Nat → Nat → cs_S → Prop} (h : OUTC G cx bf z c bk nr ra nm d kc ks bc bs i cn dp σ RW CWp) (hR : ∀ Q, RW Q → RW' Q) (hC : ∀ post m n S, CWp post m n S → CWp' post m n S) : OUTC G cx bf z c bk nr ra nm d kc ks bc bs i cn dp σ RW' CWp' := by
  obtain ⟨r, σ1, m, n, h1, h2, h3⟩ := h
  refine ⟨r, σ1, m, n, h1, fun Q hQ => hR Q (h2 Q hQ), ?_⟩
  rcases h3 with ⟨i1, cn1, nd, a1, a2, a3, a4, a5, a6, a7, a8, a9, a10⟩ | ⟨fk, fp, a1, a2, a3, a4, a5⟩
  · exact Or.inl ⟨i1, cn1, nd, a1, a2, a3, a4, a5, a6, a7, a8, a9, fun S post hA hp => hC _ _ _ _ (a10 S post hA hp)⟩
  · exact Or.inr ⟨fk, fp, a1, a2, a3, a4, fun S post hA hp => hC _ _ _ _ (a5 S post hA hp)⟩
theorem one_of (h : OUTC G cx bf z c bk nr ra nm D 2 14 8 100 i cn (13 - D) σ (fun Q => ∀ rc0 rc1 rc2, wpb_X12_one rc0 rc1 rc2 Q σ) (fun post m n S => ∀ rc0 rc1 p1, wpb_X5_readOne post G m n rc0 rc1 S (cx 0) p1)) : OUTC G cx bf z c bk nr ra nm D 2 14 8 100 i cn (13 - D) σ (fun Q => ∀ d, 3 * D + 1 ≤ d → wg_X12_one d 0 Q σ) (fun post m n S => ∀ d, 2 * D + 1 ≤ d → wg_X5_readCond d 1 post G m n S (cx 0) (nI (13 - D))) := by
  refine h.mono (fun Q hq d hd => ?_) (fun post m n S hq d hd => ?_)
  · obtain ⟨e, rfl⟩ : ∃ e, d = e + 1 := ⟨d - 1, by omega⟩
    exact wg_0 (hq _ _ _)
  · obtain ⟨e, rfl⟩ : ∃ e, d = e + 1 := ⟨d - 1, by omega⟩
    exact wgc_1 (hq _ _ _)
theorem L_none (ht : tC bf z c) (h : rA bf z bk nr nm i cn σ) (hi : i ≤ c) (h2 : ¬ kt bf z i = 2) (h6 : ¬ kt bf z i = 6) (h34 : ¬ kt bf z i = 34) (h35 : ¬ kt bf z i = 35) (h36 : ¬ kt bf z i = 36) (h37 : ¬ kt bf z i = 37) (d : Nat) : OUTC G cx bf z c bk nr ra nm d 2 14 8 100 i cn dp σ (fun Q => ∀ rc0 rc1 rc2, wpb_X12_one rc0 rc1 rc2 Q σ) (fun post m n S => ∀ rc0 rc1 p1, wpb_X5_readOne post G m n rc0 rc1 S (cx 0) p1) := by
  have hqz := ht.le i hi
  exact ⟨-1, rB σ (fk2 bf z i) (fpl bf z i), 0, 0, rB.f, fun Q hQ rc0 rc1 rc2 => r_one ht h hi (fun q => by omega) (fun q => absurd q h35) (fun q => absurd q h36) (fun q => absurd q h37) (fun q => absurd q h2) (fun _ _ _ _ _ _ => hQ), Or.inr ⟨_, _, rfl, rB.d fk2_0, by omega, by omega, fun S post hA hp rc0 rc1 p1 => c_one ht hA (fun q => absurd q h2) (fun q => absurd q h6) (fun q => absurd q h34) (fun q => by omega) (fun _ _ _ _ _ _ => c_fail ht hA (by decide) (fun S1 g1 g2 => hp S1 none g1 g2 (fun b eb => nomatch eb)))⟩⟩
/-- too deep -/
theorem L_deep (ht : tC bf z c) (h : rA bf z bk nr nm i cn σ) (h61 : σ.1 61 = nI 13) (hi : i ≤ c) (hk : kt bf z i = 34 ∨ kt bf z i = 6) : OUTC G cx bf z c bk nr ra nm 0 2 14 8 100 i cn (13 - 0) σ (fun Q => ∀ d, 3 * 0 + 1 ≤ d → wg_X12_one d 0 Q σ) (fun post m n S => ∀ d, 2 * 0 + 1 ≤ d → wg_X5_readCond d 1 post G m n S (cx 0) (nI (13 - 0))) := by
  have hqz := ht.le i hi
  have e13 : σ.1 61 = 13 := h61
  have w18 : ∀ (Q : Int32 → rf_S → Prop) rc0 rc1 rc2, Q (-1) (rB σ 4 (fpl bf z i)) → w_X12_one_18 Q rc0 rc1 rc2 σ := by
    intro Q rc0 rc1 rc2 hQ
    have key : (¬ σ.1 61 = 13 → False) ∧ (σ.1 61 = 13 → wp_X12_wrong (fun r37 σ37 => wp_X12_bad (fun r38 σ38 => Q r38 σ38) σ37 r37) σ 4 (σ.1 55)) := ⟨fun q => q e13, fun _ => r_wrong ht h hi (by omega) ⟨fun _ => hQ, fun q => absurd rfl q⟩⟩
    exact r_isw (w := 14) ht h hi (by decide) (fun _ => ⟨fun q => (key.1 q).elim, key.2⟩) (fun _ => ⟨fun q => (key.1 q).elim, key.2⟩)
  refine ⟨-1, rB σ 4 (fpl bf z i), 0, 0, rB.f, fun Q hQ d hd => ?_, Or.inr ⟨_, _, rfl, rB.d (by decide), by omega, by omega, fun S post hA hp d hd => ?_⟩⟩
  · obtain ⟨e, rfl⟩ : ∃ e, d = e + 1 := ⟨d - 1, by omega⟩
    exact wg_0 (r_one ht h hi (fun _ => w18 Q _ _ _ hQ) (fun q => by omega) (fun q => by omega) (fun q => by omega) (fun q => by omega) (fun n1 n2 => by omega))
  · obtain ⟨e, rfl⟩ : ∃ e, d = e + 1 := ⟨d - 1, by omega⟩
    have fl : wp_X5_fail (fun S50 => post none S50) G S (cx 0) 4 := c_fail ht hA (by decide) (fun S1 g1 g2 => by
      rw [if_neg (show ¬ kt bf z i = 0 by omega)] at g1
      exact hp S1 none g1 g2 (fun b eb => nomatch eb))
    exact wgc_1 (c_one ht hA (fun q => by omega) (fun _ => ⟨fun q => absurd q (by decide), fun _ => fl⟩) (fun _ => ⟨fun q => absurd q (by decide), fun _ => fl⟩) (fun q => by omega) (fun _ n1 n2 => by omega))
theorem rA.ui61 (h : rA bf z bk nr nm i cn σ) {x : Int32} : rA bf z bk nr nm i cn (rf_ui σ 61 x) := h.to (i' := i) ⟨h.1.1, h.1.2⟩ h.2.1 (Nat.le_refl _) rfl rfl rfl rfl rfl
theorem n13 (hD : D + 1 ≤ 13) : nI (13 - (D + 1)) + 1 = nI (13 - D) := by rw [nI_1]; congr 1; omega
theorem n13' (hD : D + 1 ≤ 13) : nI (13 - D) - 1 = nI (13 - (D + 1)) := by
  rw [show 13 - D = (13 - (D + 1)) + 1 from by omega, nI_pred]
/-- where a bracket or not leads -/
theorem r_18 (ht : tC bf z c) (h : rA bf z bk nr nm i cn σ) (hD : D + 1 ≤ 13) (h61 : σ.1 61 = nI (13 - (D + 1))) (hi : i < c) (hk : kt bf z i = 34 ∨ kt bf z i = 6) : ∃ σa, pF bk cn σ σa ∧ rA bf z bk nr nm (i + 1) cn σa ∧ σa.1 61 = nI (13 - D) ∧ ∀ (Q : Int32 → rf_S → Prop) rc0 rc1 rc2, (kt bf z i = 6 → rc1 (fun r35 σ35 => w_X12_one_77 Q rc0 rc1 rc2 σ35 0 r35) σa) → (kt bf z i = 34 → rc0 (fun r36 σ36 => w_X12_one_77 Q rc0 rc1 rc2 σ36 1 r36) σa) → wpb_X12_one rc0 rc1 rc2 Q σ := by
  obtain ⟨σa, a1, a2, a3⟩ := r_nx ht (h.ui61 (x := nI (13 - D))) hi
  refine ⟨σa, (pF.rfl.ui (by omega)).trans a1.pf (Nat.le_refl _), a2, ?_, fun Q rc0 rc1 rc2 g1 g2 => ?_⟩
  · rw [a1.1 61 (by decide) (by decide) (by decide) (by decide) (by decide), r1ui, if_pos rfl]
  · have n61 : ¬ σ.1 61 = 13 := fun q => by
      have := (nI_eq (b := 13) (by omega) (by decide)).mp (h61.symm.trans q)
      omega
    have nx : ∀ r33 : Int32, ((r33 = 0 → rc1 (fun r35 σ35 => w_X12_one_77 Q rc0 rc1 rc2 σ35 r33 r35) σa) ∧ (¬ r33 = 0 → rc0 (fun r36 σ36 => w_X12_one_77 Q rc0 rc1 rc2 σ36 r33 r36) σa)) → wp_X12_next (fun σ34 => (r33 = 0 → rc1 (fun r35 σ35 => w_X12_one_77 Q rc0 rc1 rc2 σ35 r33 r35) σ34) ∧ (¬ r33 = 0 → rc0 (fun r36 σ36 => w_X12_one_77 Q rc0 rc1 rc2 σ36 r33 r36) σ34)) (rf_ui σ 61 (σ.1 61 + 1)) := fun r33 g => by
      rw [h61, n13 hD]; exact a3 _ g
    have w18 : w_X12_one_18 Q rc0 rc1 rc2 σ := r_isw (w := 14) ht h (Nat.le_of_lt hi) (by decide) (fun e => ⟨fun _ => nx 1 ⟨fun q => absurd q (by decide), fun _ => g2 e⟩, fun q => absurd q n61⟩) (fun e => ⟨fun _ => nx 0 ⟨fun _ => g1 (by rcases hk with q | q; exact absurd q e; exact q), fun q => absurd rfl q⟩, fun q => absurd q n61⟩)
    exact r_one ht h (Nat.le_of_lt hi) (fun _ => w18) (fun q => by omega) (fun q => by omega) (fun q => by omega) (fun q => by omega) (fun n1 n2 => by omega)
theorem L_not (ht : tC bf z c) (hD : D + 1 ≤ 13) (hone : ONEp G cx bf z c bk nr ra nm D) (h : rA bf z bk nr nm i cn σ) (h61 : σ.1 61 = nI (13 - (D + 1))) (hi : i ≤ c) (hk : kt bf z i = 34) : OUTC G cx bf z c bk nr ra nm (D + 1) 2 14 8 100 i cn (13 - (D + 1)) σ (fun Q => ∀ d, 3 * (D + 1) + 1 ≤ d → wg_X12_one d 0 Q σ) (fun post m n S => ∀ d, 2 * (D + 1) + 1 ≤ d → wg_X5_readCond d 1 post G m n S (cx 0) (nI (13 - (D + 1)))) := by
  have hlt := ht.lt hi (by omega)
  have hz := ht.1
  have hqz := ht.le i hi
  have hbk := h.2.2.1.2.2
  have hcn := h.2.2.2.2.1.2.1
  have h2b := ht.two hlt (by omega)
  have hqz1 := ht.le (i + 1) (by omega)
  obtain ⟨σa, a1, a2, a3, a4⟩ := r_18 ht h hD h61 hlt (Or.inl hk)
  obtain ⟨r2, σ2, m2, n2, o1, o2, oc⟩ := hone (i + 1) cn σa a2 a3 hlt
  have rpre : ∀ (d : Nat) (Q : Int32 → rf_S → Prop), 3 * (D + 1) + 1 ≤ d → (∀ rc0 rc1 rc2, w_X12_one_77 Q rc0 rc1 rc2 σ2 1 r2) → wg_X12_one d 0 Q σ := by
    intro d Q hd g
    obtain ⟨e, rfl⟩ : ∃ e, d = e + 1 := ⟨d - 1, by omega⟩
    exact wg_0 (a4 Q _ _ _ (fun q => by omega) (fun _ => o2 _ (g _ _ _) e (by omega)))
  have cpre : ∀ (d : Nat) (S : cs_S) (post : Option Nat → cs_S → Prop), 2 * (D + 1) + 1 ≤ d → pA G cx bf z c nr ra nm i S → (∀ S1 q, pA G cx bf z c nr ra nm (i + 1) S1 → fX (pE (cx 0)) S S1 → cs_k S1 q = 0 → ∀ e, 2 * D + 1 ≤ e → wg_X5_readCond e 1 (fun r60 S60 => cs_k S60 q = 3 ∧ wp_X1_append (fun S62 => post (some q) S62) G S60 q r60) G m2 n2 (nC S1 q 34 0 0 none) (cx 0) (nI (13 - D))) → wg_X5_readCond d 1 post G (1 + m2) (7 + n2) S (cx 0) (nI (13 - (D + 1))) := by
    intro d S post hd hA g
    obtain ⟨e, rfl⟩ : ∃ e, d = e + 1 := ⟨d - 1, by omega⟩
    refine wgc_1 (c_one ht hA (fun q => by omega) (fun q => by omega) (fun _ => ⟨fun _ => c_step ht hA hlt (fun S1 h1 f1 => ⟨by omega, by omega, fun q hq => c_cond ⟨(h1.nc hq).1.1.1, m2, n2, by omega, by omega, ?_⟩⟩), fun q => absurd (nI_le (b := 12) (by omega) (by decide)) q⟩) (fun q => by omega) (fun _ _ q => absurd hk q))
    rw [n13 hD]
    exact g S1 q h1 f1 hq e (by omega)
  rcases oc with ⟨i2, cn2, nd2, p1, p2, p3, ⟨p4, p4b⟩, p5, p6, p7, p8, p9, p10⟩ | ⟨fk, fp, p1, p2, p3, p4, p5⟩
  · have hq2 := ht.le i2 p3
    have p72 := p7.2
    have h3 : rA bf z bk nr nm i2 cn2 (rf_ui σ2 61 (nI (13 - (D + 1)))) := p5.ui61
    have hN : rA bf z bk nr nm i2 (cn2 + 1) (nD (rf_ui σ2 61 (nI (13 - (D + 1)))) (1100 * bk + cn2) 2 (nI nd2) (-1)) := by
      refine h3.nd (by omega) (fun k hk => nDi hk) nDi53 rfl (fun k j hkj => nDr (by omega)) (fun k j hkj => rfl) ⟨fun q => ?_, fun _ => ⟨nd2, nD48, p7⟩⟩ (fun q => ?_)
      · rw [nD47] at q
        rcases q with q | q <;> exact absurd q (by decide)
      · rw [nD47] at q
        obtain ⟨o', o1, o2, o3⟩ := q
        exact absurd ((nI_eq (a := 2) (by decide) (by omega)).mp o3) (by omega)
    have fn : pF bk cn2 σ2 (nD (rf_ui σ2 61 (nI (13 - (D + 1)))) (1100 * bk + cn2) 2 (nI nd2) (-1)) := (pF.rfl.ui (by omega)).trans (nD.pf (by omega)) (Nat.le_refl _)
    refine ⟨nI (1100 * bk + cn2), _, 1 + m2, 7 + n2, (a1.trans o1 (Nat.le_refl _)).trans fn p4, fun Q hQ d hd => rpre d Q hd (fun rc0 rc1 rc2 => ⟨fun _ => ⟨fun q => absurd q (by decide), fun _ => ?_⟩, fun q => ?_⟩), Or.inl ⟨i2, cn2 + 1, 1100 * bk + cn2, rfl, by omega, p3, ⟨by omega, by omega⟩, hN, ?_, ⟨by omega, by omega⟩, by omega, by omega, fun S post hA hp d hd => cpre d S post hd hA (fun S1 q h1 f1 hq e he => p10 _ _ (h1.nc hq) (fun S2 a t t1 t2 t3 t4 t5 t6 t7 t8 t9 => ?_) e he)⟩⟩
    · rw [p6, n13' hD, p1]
      exact r_node h3 (by omega) hQ
    · rw [p1] at q; exact absurd (nI_pos' (by omega)) q
    · rw [nDi (by decide), r1ui, if_pos rfl]
    · have lq : cs_k (nC S1 q 34 0 0 none) q ≠ 0 := by rw [nC.k]; decide
      obtain ⟨kq, iq, rq⟩ := pEl t2 lq
      have k3 : cs_k S2 q = 3 := kq.trans nC.k
      have r5 : cs_r S2 205 q = none := (rq 205).trans (nC.r (by decide))
      have aq : a ≠ q := fun e => by rw [e] at t3; exact lq t3
      have fS : fX (pE (cx 0)) S (nC S1 q 34 0 0 none) := f1.trans (nC.fx hq)
      refine ⟨k3, fun w => (nomatch w), fun b12 e12 => ⟨k3, fun r14 e14 => ⟨fun _ S20 e20 => ⟨by rw [e20]; exact k3, fun S11 e11 => ?_⟩, fun b15 e15 => ?_⟩⟩⟩
      · cases e12
        have rS : ∀ f y, cs_r S11 f y = if f = 205 ∧ y = q then some a else if f = 204 ∧ y = q then some a else cs_r S2 f y := fun f y => by rw [e11, rur, e20, rur]
        have kS : ∀ y, cs_k S11 y = cs_k S2 y := fun y => by rw [e11, e20]; rfl
        have iS : ∀ f y, cs_i S11 f y = cs_i S2 f y := fun f y => by rw [e11, e20]; rfl
        have hf3 : fX (fun s f y => s = 2 ∧ 204 ≤ f ∧ y = q) S2 S11 := by
          rw [e11, e20]
          exact (fX.rfl.ur (Or.inl ⟨rfl, by decide, rfl⟩)).ur (Or.inl ⟨rfl, by decide, rfl⟩)
        have htE : tE (fun s f y => s = 2 ∧ 204 ≤ f ∧ y = q) S2 := fun s f y w => by
          rw [w.2.2, k3]; exact ⟨by decide, by decide, fun _ => ⟨w.1, w.2.1⟩⟩
        obtain ⟨s1, s2, s3⟩ := (prS.of p5 (by omega) fn) D nd2 t p7 t9 t7
        refine hp S11 q (.inr (.inl t)) (t1.c3 hf3 (fun s f y w => by rw [w.2.2]; exact k3)) ?_ (f1.dead hq) ((kS q).trans k3) ?_ ⟨(kS q).trans k3, (iS _ q).trans (iq.trans nC.i0), a, ?_, ⟨fS.dead t3, by rw [kS, t4]; decide, aq⟩, ?_⟩ ⟨by omega, nD47, nd2, nD48, s1⟩ (cLv.fx hf3 htE D t (s3 _ t8)) s2
        · rw [e11, e20]
          exact ((fS.trans t2).ur (Or.inr (f1.dead hq))).ur (Or.inr (f1.dead hq))
        · rw [rS, if_neg (fun w => absurd w.1 (by decide)), if_neg (fun w => absurd w.1 (by decide)), rq]; exact nC.r (by decide)
        · rw [rS, if_neg (fun w => absurd w.1 (by decide)), if_pos ⟨rfl, rfl⟩]
        · refine cN.st (O' := nO S S11 q) (fun y hy _ => ?_) (fun y hy => hy.2.1) D a t (kS a) (iS _ a) ?_ t6
          · have yq : y ≠ q := fun e => by have w := hy.1; rw [e] at w; exact lq w
            refine ⟨⟨fS.dead hy.1, by rw [kS]; exact hy.2.1, yq⟩, kS y, iS _ y, ?_, ?_⟩
            · rw [rS, if_neg (fun w => absurd w.1 (by decide)), if_neg (fun w => yq w.2)]
            · rw [rS, if_neg (fun w => absurd w.1 (by decide)), if_neg (fun w => absurd w.1 (by decide))]
          · rw [rS, if_neg (fun w => absurd w.1 (by decide)), if_neg (fun w => aq w.2)]
      · rw [e14, r5] at e15; exact nomatch e15
  · refine ⟨-1, σ2, 1 + m2, 7 + n2, a1.trans o1 (Nat.le_refl _), fun Q hQ d hd => rpre d Q hd (fun rc0 rc1 rc2 => ⟨fun q => ?_, fun _ => ?_⟩), Or.inr ⟨fk, fp, rfl, p2, by omega, by omega, fun S post hA hp d hd => cpre d S post hd hA (fun S1 q h1 f1 hq e he => p5 _ _ (h1.nc hq) (fun S2 o t1 t2 t3 => ?_) e he)⟩⟩
    · rw [p1] at q; exact absurd q (by decide)
    · rw [p1]; exact hQ
    · have lq : cs_k (nC S1 q 34 0 0 none) q ≠ 0 := by rw [nC.k]; decide
      obtain ⟨kq, iq, rq⟩ := pEl t2 lq
      have k3 : cs_k S2 q = 3 := kq.trans nC.k
      have r5 : cs_r S2 205 q = none := (rq 205).trans (nC.r (by decide))
      have fS : fX (pE (cx 0)) S S2 := (f1.trans (nC.fx hq)).trans t2
      refine ⟨k3, fun _ => hp S2 (some q) t1 fS (fun b eb => by cases eb; exact k3), fun b12 e12 => ⟨k3, fun r14 e14 => ⟨fun _ S20 e20 => ⟨by rw [e20]; exact k3, fun S11 e11 => hp S11 (some q) ?_ ?_ (fun b eb => ?_)⟩, fun b15 e15 => ?_⟩⟩⟩
      · have hf3 : fX (fun s f y => y = q) S2 S11 := by
          rw [e11, e20]
          exact (fX.rfl.ur (Or.inl rfl)).ur (Or.inl rfl)
        exact t1.c3 hf3 (fun s f y w => by rw [w]; exact k3)
      · rw [e11, e20]
        exact (fS.ur (Or.inr (f1.dead hq))).ur (Or.inr (f1.dead hq))
      · cases eb
        rw [e11, e20]; exact k3
      · rw [e14, r5] at e15; exact nomatch e15
theorem L_par (ht : tC bf z c) (hD : D + 1 ≤ 13) (hcond : CONDp G cx bf z c bk nr ra nm D) (h : rA bf z bk nr nm i cn σ) (h61 : σ.1 61 = nI (13 - (D + 1))) (hi : i ≤ c) (hk : kt bf z i = 6) : OUTC G cx bf z c bk nr ra nm (D + 1) 2 14 8 100 i cn (13 - (D + 1)) σ (fun Q => ∀ d, 3 * (D + 1) + 1 ≤ d → wg_X12_one d 0 Q σ) (fun post m n S => ∀ d, 2 * (D + 1) + 1 ≤ d → wg_X5_readCond d 1 post G m n S (cx 0) (nI (13 - (D + 1)))) := by
  have hlt := ht.lt hi (by omega)
  have hz := ht.1
  have hqz := ht.le i hi
  have hbk := h.2.2.1.2.2
  have hcn := h.2.2.2.2.1.2.1
  have h2b := ht.one hlt
  have hqz1 := ht.le (i + 1) (by omega)
  obtain ⟨σa, a1, a2, a3, a4⟩ := r_18 ht h hD h61 hlt (Or.inr hk)
  obtain ⟨r2, σ2, m2, n2, o1, o2, oc⟩ := hcond (i + 1) cn σa a2 a3 hlt
  have rpre : ∀ (d : Nat) (Q : Int32 → rf_S → Prop), 3 * (D + 1) + 1 ≤ d → (∀ rc0 rc1 rc2, w_X12_one_77 Q rc0 rc1 rc2 σ2 0 r2) → wg_X12_one d 0 Q σ := by
    intro d Q hd g
    obtain ⟨e, rfl⟩ : ∃ e, d = e + 1 := ⟨d - 1, by omega⟩
    exact wg_0 (a4 Q _ _ _ (fun _ => o2 _ (g _ _ _) e (by omega)) (fun q => by omega))
  have cpre : ∀ (d : Nat) (S : cs_S) (post : Option Nat → cs_S → Prop), 2 * (D + 1) + 1 ≤ d → pA G cx bf z c nr ra nm i S → (∀ S1, pA G cx bf z c nr ra nm (i + 1) S1 → fX (pE (cx 0)) S S1 → ∀ e, 2 * D + 2 ≤ e → wg_X5_readCond e 0 (fun r38 S38 => cs_k S38 (cx 0) = 7 ∧ wp_X5_skip (fun S40 => post r38 S40) G S38 (cx 0) 7) G m2 n2 S1 (cx 0) (nI (13 - D))) → wg_X5_readCond d 1 post G m2 n2 S (cx 0) (nI (13 - (D + 1))) := by
    intro d S post hd hA g
    obtain ⟨e, rfl⟩ : ∃ e, d = e + 1 := ⟨d - 1, by omega⟩
    refine wgc_1 (c_one ht hA (fun q => by omega) (fun _ => ⟨fun _ => c_step ht hA hlt (fun S1 h1 f1 => ⟨h1.1.1.1, m2, n2, by omega, by omega, ?_⟩), fun q => absurd (nI_le (b := 12) (by omega) (by decide)) q⟩) (fun q => by omega) (fun q => by omega) (fun _ q => absurd hk q))
    rw [n13 hD]
    exact g S1 h1 f1 e (by omega)
  rcases oc with ⟨i2, cn2, nd2, p1, p2, p3, ⟨p4, p4b⟩, p5, p6, p7, p8, p9, p10⟩ | ⟨fk, fp, p1, p2, p3, p4, p5⟩
  · have hq2 := ht.le i2 p3
    have p72 := p7.2
    have h3 : rA bf z bk nr nm i2 cn2 (rf_ui σ2 61 (nI (13 - (D + 1)))) := p5.ui61
    have f3 : pF bk cn2 σ2 (rf_ui σ2 61 (nI (13 - (D + 1)))) := pF.rfl.ui (by omega)
    by_cases hk7 : kt bf z i2 = 7
    · have hlt2 := ht.lt (i := i2) p3 (by omega)
      have h1d := ht.one hlt2
      have hq3 := ht.le (i2 + 1) (by omega)
      obtain ⟨σ4, b1, b2, b3⟩ := (r_musts ht h3 p3 (K := 7) (by decide) (by decide)).1 hk7
      have f4 : pF bk cn2 σ2 σ4 := f3.trans b1.pf (Nat.le_refl _)
      refine ⟨nI nd2, σ4, m2, n2, (a1.trans o1 (Nat.le_refl _)).trans f4 p4, fun Q hQ d hd => rpre d Q hd (fun rc0 rc1 rc2 => ⟨fun _ => ⟨fun _ => ?_, fun q => absurd rfl q⟩, fun q => ?_⟩), Or.inl ⟨i2 + 1, cn2, nd2, rfl, by omega, hlt2, ⟨by omega, by omega⟩, b2, ?_, p7, by omega, by omega, fun S post hA hp d hd => cpre d S post hd hA (fun S1 h1 f1 e he => p10 S1 _ h1 (fun S2 a t t1 t2 t3 t4 t5 t6 t7 t8 t9 => ⟨t1.1.1.1, c_skip (x := 7) ht t1 (by decide) (by decide) (fun _ S3 u1 u2 => ?_) (fun q => absurd hk7 q)⟩) e he)⟩⟩
      · rw [p6, n13' hD]
        exact b3 _ ⟨fun q => absurd q (by decide), fun _ => by rw [p1]; exact hQ⟩
      · rw [p1] at q; exact absurd (nI_pos' (by omega)) q
      · rw [b1.1 61 (by decide) (by decide) (by decide) (by decide) (by decide), r1ui, if_pos rfl]
      · obtain ⟨s1, s2, s3⟩ := (prS.of p5 (by omega) f4) (D + 1) nd2 t p7 t9 t7
        obtain ⟨ka, ia, ra'⟩ := pEl u2 (a := a) (by rw [t4]; decide)
        refine hp S3 a t u1 ((f1.trans t2).trans u2) (f1.dead t3) (ka.trans t4) ((ra' _).trans t5) ?_ s1 (cLv.fx u2 (pE.tE t1.1.1.1) _ _ (s3 _ t8)) s2
        refine cN.st (O' := nO S S3 a) (fun y hy _ => ?_) (fun y hy => hy.2.1) (D + 1) a t ka ia (ra' _) t6
        obtain ⟨ky, iy, ry⟩ := pEl u2 hy.2.1
        exact ⟨⟨f1.dead hy.1, by rw [ky]; exact hy.2.1, hy.2.2⟩, ky, iy, ry _, ry _⟩
    · refine ⟨-1, rB (rf_ui σ2 61 (nI (13 - (D + 1)))) (fk2 bf z i2) (fpl bf z i2), m2, n2, ((a1.trans o1 (Nat.le_refl _)).trans f3 p4).trans rB.f (Nat.le_refl _), fun Q hQ d hd => rpre d Q hd (fun rc0 rc1 rc2 => ⟨fun _ => ⟨fun _ => ?_, fun q => absurd rfl q⟩, fun q => ?_⟩), Or.inr ⟨_, _, rfl, rB.d fk2_0, by omega, by omega, fun S post hA hp d hd => cpre d S post hd hA (fun S1 h1 f1 e he => p10 S1 _ h1 (fun S2 a t t1 t2 t3 t4 t5 t6 t7 t8 t9 => ⟨t1.1.1.1, c_skip (x := 7) ht t1 (by decide) (by decide) (fun q => absurd q hk7) (fun _ S3 u1 u2 => hp S3 (some a) u1 ((f1.trans t2).trans u2) (fun b eb => by cases eb; rw [(pEl u2 (by rw [t4]; decide)).1]; exact t4))⟩) e he)⟩⟩
      · rw [p6, n13' hD]
        exact (r_musts ht h3 p3 (K := 7) (by decide) (by decide)).2 hk7 _ ⟨fun _ => hQ, fun q => absurd rfl q⟩
      · rw [p1] at q; exact absurd (nI_pos' (by omega)) q
  · refine ⟨-1, σ2, m2, n2, a1.trans o1 (Nat.le_refl _), fun Q hQ d hd => rpre d Q hd (fun rc0 rc1 rc2 => ⟨fun q => ?_, fun _ => ?_⟩), Or.inr ⟨fk, fp, rfl, p2, by omega, by omega, fun S post hA hp d hd => cpre d S post hd hA (fun S1 h1 f1 e he => p5 S1 _ h1 (fun S2 o t1 t2 t3 => ⟨t1.1.1.1, d_skip (x := 7) t1 (by decide) (by decide) (hp S2 o t1 (f1.trans t2) t3)⟩) e he)⟩⟩
    · rw [p1] at q; exact absurd q (by decide)
    · rw [p1]; exact hQ
/-- one part, at any depth -/
theorem ONE (ht : tC bf z c) : ∀ D, D ≤ 13 → ONEp G cx bf z c bk nr ra nm D := by
  have leaf : ∀ (D i cn : Nat) (σ : rf_S), rA bf z bk nr nm i cn σ → σ.1 61 = nI (13 - D) → i ≤ c → ¬ kt bf z i = 34 → ¬ kt bf z i = 6 → OUTC G cx bf z c bk nr ra nm D 2 14 8 100 i cn (13 - D) σ (fun Q => ∀ d, 3 * D + 1 ≤ d → wg_X12_one d 0 Q σ) (fun post m n S => ∀ d, 2 * D + 1 ≤ d → wg_X5_readCond d 1 post G m n S (cx 0) (nI (13 - D))) := by
    intro D i cn σ h h61 hi n34 n6
    refine one_of ?_
    by_cases h2 : kt bf z i = 2
    · exact L_cmp ht h h61 hi h2 D
    · by_cases h35 : kt bf z i = 35
      · exact L_kind ht h h61 hi h35 D
      · by_cases h36 : kt bf z i = 36
        · exact L_has ht h h61 hi h36 D
        · by_cases h37 : kt bf z i = 37
          · exact L_alert ht h h61 hi h37 D
          · exact L_none ht h hi h2 n6 n34 h35 h36 h37 D
  intro D
  induction D with
  | zero =>
    intro _ i cn σ h h61 hi
    by_cases hk : kt bf z i = 34 ∨ kt bf z i = 6
    · exact L_deep ht h h61 hi hk
    · exact leaf 0 i cn σ h h61 hi (fun q => hk (Or.inl q)) (fun q => hk (Or.inr q))
  | succ D ih =>
    intro hD i cn σ h h61 hi
    by_cases h34 : kt bf z i = 34
    · exact L_not ht hD (ih (by omega)) h h61 hi h34
    · by_cases h6 : kt bf z i = 6
      · exact L_par ht hD (COND ht (by omega) (ih (by omega))) h h61 hi h6
      · exact leaf (D + 1) i cn σ h h61 hi h34 h6
end ONS
