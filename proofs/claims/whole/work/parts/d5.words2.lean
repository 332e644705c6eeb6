/-! ===== conditions read on both sides: kind, has, alert, whole ===== -/
section WT2
variable {G cx : Nat → Nat} {bf : Nat → Nat} {z c bk nr i cn dp : Nat} {ra : Nat → Nat} {nm : Nat → Int64} {σ : rf_S} {S : cs_S}
theorem L_has (ht : tC bf z c) (h : rA bf z bk nr nm i cn σ) (h61 : σ.1 61 = nI dp) (hi : i ≤ c) (hk : kt bf z i = 36) (d : Nat) : OUTC G cx bf z c bk nr ra nm d 2 14 8 100 i cn dp σ (fun Q => ∀ rc0 rc1 rc2, wpb_X12_one rc0 rc1 rc2 Q σ) (fun post m n S => ∀ rc0 rc1 p1, wpb_X5_readOne post G m n rc0 rc1 S (cx 0) p1) := by
  have hlt := ht.lt hi (by omega)
  have hbk := h.2.2.1.2.2
  have hcn := h.2.2.2.2.1.2.1
  have hqz := ht.le i hi
  have hz := ht.1
  have h2b := ht.two hlt (by omega)
  have hqz1 := ht.le (i + 1) (by omega)
  obtain ⟨σa, a1, a2, a3⟩ := r_nx ht h hlt
  have d1 := ht.2.2.1
  by_cases hk2 : kt bf z (i + 1) = 2
  · have hlt1 := ht.lt (i := i + 1) hlt (by omega)
    have h1b := ht.one hlt1
    have hqz2 := ht.le (i + 1 + 1) (by omega)
    obtain ⟨σ1, b1, b2, b3, b4, b5, b6⟩ := r_wleaf ht a2 hlt1 (by omega) (o := 4) (Or.inr rfl)
    obtain ⟨wn, wl, w1, w2, hwd⟩ := a2.wd ht hlt (Or.inl hk2)
    have hnW : nW σ1 (1100 * bk + cn) := nW_w (Or.inr (Or.inl rfl)) (by omega) b4
    refine ⟨nI (1100 * bk + cn), σ1, 1, 7, a1.pf.trans b1 (Nat.le_refl _), fun Q hQ rc0 rc1 rc2 => r_one ht h hi (fun q => by omega) (fun q => by omega) (fun _ => a3 _ (r_isn ht a2 hlt (fun _ => ⟨fun _ => b6 Q hQ, fun q => absurd q (by decide)⟩) (fun q => absurd hk2 q))) (fun q => by omega) (fun q => by omega) (fun _ _ _ q => absurd hk q), Or.inl ⟨i + 1 + 1, cn + 1, 1100 * bk + cn, rfl, by omega, hlt1, by omega, b2, ?_, ⟨by omega, by omega⟩, by omega, by omega, fun S post hA hp rc0 rc1 p1 => ?_⟩⟩
    · rw [b3, a1.1 61 (by decide) (by decide) (by decide) (by decide) (by decide)]; exact h61
    · have e6 : cs_i S 606 (cx 0) = nI 36 := by rw [hA.2.2.2.2, hk]
      refine c_one ht hA (fun q => by omega) (fun q => by omega) (fun q => by omega) (fun _ => ⟨hA.1.1.1, c_step ht hA hlt (fun S1 h1 f1 => ⟨fun _ => c_w21 ht h1.1 h1.2.1 h1.2.2.2.1 (fun A eA => ⟨fun _ => ⟨by omega, by omega, fun _ => c_w101 ht h1 (by omega) (by omega) (fun _ S2 q h2 f2 hq => ?_) (fun q => absurd hk2 q), fun q => ?_⟩, fun q => ?_⟩), fun q => ?_⟩)⟩) (fun _ _ _ _ q => absurd hk q)
      · have eA2 : A = (at_ bf z (i + 1)).2.2.1 := eA.trans (h1.am ht (by omega))
        have hlf : ∀ x, lfR (nC S2 q (cs_i S 606 (cx 0)) A x none) σ1 q (1100 * bk + cn) := fun x => ⟨nC.k, hnW, Or.inr (Or.inl ⟨by rw [nC.i0, e6]; rfl, b4, wn, wl, w2, by rw [nC.l1, eA2, b5]; exact hwd⟩)⟩
        exact hp _ q (tL d (q, 1100 * bk + cn)) (h2.nc hq) ((f1.trans f2).trans (nC.fx hq)) ((f1.trans f2).dead hq) nC.k (nC.r (by decide)) (tL.n (x := (q, 1100 * bk + cn)) d) (tL.r (x := (q, 1100 * bk + cn)) d) (tL.l (x := (q, 1100 * bk + cn)) (hlf _) d) (tL.v (x := (q, 1100 * bk + cn)) hnW d)
      · rw [e6] at q; exact absurd q (by decide)
      · rw [e6] at q; exact absurd q (by decide)
      · rw [e6] at q; exact absurd q (by decide)
  · refine ⟨-1, rB σa (fk2 bf z (i + 1)) (fpl bf z (i + 1)), 1, 7, a1.pf.trans rB.f (Nat.le_refl _), fun Q hQ rc0 rc1 rc2 => r_one ht h hi (fun q => by omega) (fun q => by omega) (fun _ => a3 _ (r_isn ht a2 hlt (fun q => absurd q hk2) (fun _ => ⟨fun q => absurd rfl q, fun _ => r_cant ht a2 hlt ⟨fun _ => hQ, fun q => absurd rfl q⟩⟩))) (fun q => by omega) (fun q => by omega) (fun _ _ _ q => absurd hk q), Or.inr ⟨_, _, rfl, rB.d fk2_0, by omega, by omega, fun S post hA hp rc0 rc1 p1 => ?_⟩⟩
    have e6 : cs_i S 606 (cx 0) = nI 36 := by rw [hA.2.2.2.2, hk]
    refine c_one ht hA (fun q => by omega) (fun q => by omega) (fun q => by omega) (fun _ => ⟨hA.1.1.1, c_step ht hA hlt (fun S1 h1 f1 => ⟨fun _ => c_w21 ht h1.1 h1.2.1 h1.2.2.2.1 (fun A eA => ⟨fun _ => ⟨by omega, by omega, fun _ => c_w101 ht h1 (by omega) (by omega) (fun q => absurd q hk2) (fun _ S2 q h2 f2 hq => hp _ (some q) (h2.nc hq) ((f1.trans f2).trans (nC.fx hq)) (fun b eb => by cases eb; exact nC.k)), fun q => ?_⟩, fun q => ?_⟩), fun q => ?_⟩)⟩) (fun _ _ _ _ q => absurd hk q)
    · rw [e6] at q; exact absurd q (by decide)
    · rw [e6] at q; exact absurd q (by decide)
    · rw [e6] at q; exact absurd q (by decide)
theorem L_kind (ht : tC bf z c) (h : rA bf z bk nr nm i cn σ) (h61 : σ.1 61 = nI dp) (hi : i ≤ c) (hk : kt bf z i = 35) (d : Nat) : OUTC G cx bf z c bk nr ra nm d 2 14 8 100 i cn dp σ (fun Q => ∀ rc0 rc1 rc2, wpb_X12_one rc0 rc1 rc2 Q σ) (fun post m n S => ∀ rc0 rc1 p1, wpb_X5_readOne post G m n rc0 rc1 S (cx 0) p1) := by
  have hlt := ht.lt hi (by omega)
  have hbk := h.2.2.1.2.2
  have hcn := h.2.2.2.2.1.2.1
  have hqz := ht.le i hi
  have hz := ht.1
  have h2b := ht.two hlt (by omega)
  have hqz1 := ht.le (i + 1) (by omega)
  obtain ⟨σa, a1, a2, a3⟩ := r_nx ht h hlt
  have d1 := ht.2.2.1
  -- up to the sign
  have cpre : ∀ (S : cs_S) (post : Option Nat → cs_S → Prop), pA G cx bf z c nr ra nm i S → (kt bf z (i + 1) = 11 → ∀ S2, pA G cx bf z c nr ra nm (i + 1 + 1) S2 → fX (pE (cx 0)) S S2 → w_X5_readWordTest_21 post G 1 7 S2 0 0 (cx 0) 35) → (¬ kt bf z (i + 1) = 11 → ∀ S2, pQ G cx bf z c nr ra nm (fk2 bf z (i + 1)) (fpl bf z (i + 1)) S2 → fX (pE (cx 0)) S S2 → w_X5_readWordTest_21 post G 1 7 S2 0 0 (cx 0) 35) → ∀ rc0 rc1 p1, wpb_X5_readOne post G 1 7 rc0 rc1 S (cx 0) p1 := by
    intro S post hA g1 g2 rc0 rc1 p1
    have e6 : cs_i S 606 (cx 0) = 35 := by rw [hA.2.2.2.2, hk]; rfl
    refine c_one ht hA (fun q => by omega) (fun q => by omega) (fun q => by omega) (fun _ => ⟨hA.1.1.1, c_step ht hA hlt (fun S1 h1 f1 => ⟨fun q => absurd e6 q, fun _ => ⟨h1.1.1.1, ?_⟩⟩)⟩) (fun _ _ _ q => absurd hk q)
    rw [e6]
    exact c_skip (x := 11) ht h1 (by decide) (by decide) (fun e S2 h2 f2 => g1 e S2 h2 (f1.trans f2)) (fun e S2 h2 f2 => g2 e S2 h2 (f1.trans f2))
  by_cases hk2 : kt bf z (i + 1) = 11
  · have hlt1 := ht.lt (i := i + 1) hlt (by omega)
    have h1b := ht.one hlt1
    have hqz2 := ht.le (i + 1 + 1) (by omega)
    obtain ⟨σb, b1, b2, b3⟩ := (r_musts ht a2 hlt (K := 11) (by decide) (by decide)).1 hk2
    have hK9 := ht.K39 (i := i + 1 + 1) hlt1
    have h54 : σb.1 54 = rC (kt bf z (i + 1 + 1)) := b2.2.1.1
    by_cases hk3 : kt bf z (i + 1 + 1) = 2 ∨ 20 ≤ kt bf z (i + 1 + 1)
    · have hlt2 := ht.lt (i := i + 1 + 1) hlt1 (by omega)
      have h1c := ht.one hlt2
      have hqz3 := ht.le (i + 1 + 1 + 1) (by omega)
      obtain ⟨σ1, c1, c2, c3, c4, c5, c6⟩ := r_wleaf ht b2 hlt2 (by omega) (o := 3) (Or.inl rfl)
      obtain ⟨wn, wl, w1, w2, hwd⟩ := b2.wd ht hlt1 hk3
      have hnW : nW σ1 (1100 * bk + cn) := nW_w (Or.inl rfl) (by omega) c4
      refine ⟨nI (1100 * bk + cn), σ1, 1, 7, (a1.pf.trans b1.pf (Nat.le_refl _)).trans c1 (Nat.le_refl _), fun Q hQ rc0 rc1 rc2 => r_one ht h hi (fun q => by omega) (fun _ => a3 _ (b3 _ ⟨fun _ => ⟨fun _ => c6 Q hQ, fun q => absurd (by rw [h54]; exact (rC_1 hK9).mpr hk3) q⟩, fun q => absurd q (by decide)⟩)) (fun q => by omega) (fun q => by omega) (fun q => by omega) (fun _ _ q => absurd hk q), Or.inl ⟨i + 1 + 1 + 1, cn + 1, 1100 * bk + cn, rfl, by omega, hlt2, by omega, c2, ?_, ⟨by omega, by omega⟩, by omega, by omega, fun S post hA hp => cpre S post hA (fun _ S2 h2 f2 => c_w21 ht h2.1 h2.2.1 h2.2.2.2.1 (fun A eA => ⟨fun q => absurd rfl q, fun _ => ⟨fun q => ⟨by omega, by omega, fun _ => ?_, fun q => absurd q (by decide)⟩, fun q => ?_⟩⟩)) (fun q => absurd hk2 q)⟩⟩
      · rw [c3, b1.1 61 (by decide) (by decide) (by decide) (by decide) (by decide), a1.1 61 (by decide) (by decide) (by decide) (by decide) (by decide)]; exact h61
      · have eA2 : A = (at_ bf z (i + 1 + 1)).2.2.1 := eA.trans (h2.am ht (by omega))
        rw [h2.2.2.2.2] at q
        have q := (nI_ltI (b := 20) (by omega) (by decide)).mp q
        refine c_w101 ht h2 (by omega) (by omega) (fun _ S3 q h3 f3 hq => ?_) (fun w => absurd (by omega) w)
        have hlf : lfR (nC S3 q 35 A (-1) none) σ1 q (1100 * bk + cn) := ⟨nC.k, hnW, Or.inl ⟨nC.i0, c4, wn, wl, w2, by rw [nC.l1, eA2, c5]; exact hwd⟩⟩
        exact hp _ q (tL d (q, 1100 * bk + cn)) (h3.nc hq) ((f2.trans f3).trans (nC.fx hq)) ((f2.trans f3).dead hq) nC.k (nC.r (by decide)) (tL.n (x := (q, 1100 * bk + cn)) d) (tL.r (x := (q, 1100 * bk + cn)) d) (tL.l (x := (q, 1100 * bk + cn)) hlf d) (tL.v (x := (q, 1100 * bk + cn)) hnW d)
      · have eA2 : A = (at_ bf z (i + 1 + 1)).2.2.1 := eA.trans (h2.am ht (by omega))
        refine c_step ht h2 hlt2 (fun S3 h3 f3 => ⟨by omega, by omega, fun q hq => c_cond ?_⟩)
        have hlf : lfR (nC S3 q 35 A (-1) none) σ1 q (1100 * bk + cn) := ⟨nC.k, hnW, Or.inl ⟨nC.i0, c4, wn, wl, w2, by rw [nC.l1, eA2, c5]; exact hwd⟩⟩
        exact hp _ q (tL d (q, 1100 * bk + cn)) (h3.nc hq) ((f2.trans f3).trans (nC.fx hq)) ((f2.trans f3).dead hq) nC.k (nC.r (by decide)) (tL.n (x := (q, 1100 * bk + cn)) d) (tL.r (x := (q, 1100 * bk + cn)) d) (tL.l (x := (q, 1100 * bk + cn)) hlf d) (tL.v (x := (q, 1100 * bk + cn)) hnW d)
    · refine ⟨-1, rB σb (fk2 bf z (i + 1 + 1)) (fpl bf z (i + 1 + 1)), 1, 7, (a1.pf.trans b1.pf (Nat.le_refl _)).trans rB.f (Nat.le_refl _), fun Q hQ rc0 rc1 rc2 => r_one ht h hi (fun q => by omega) (fun _ => a3 _ (b3 _ ⟨fun _ => ⟨fun q => absurd ((rC_1 hK9).mp (by rw [← h54]; exact q)) hk3, fun _ => r_cant ht b2 hlt1 ⟨fun _ => hQ, fun q => absurd rfl q⟩⟩, fun q => absurd q (by decide)⟩)) (fun q => by omega) (fun q => by omega) (fun q => by omega) (fun _ _ q => absurd hk q), Or.inr ⟨_, _, rfl, rB.d fk2_0, by omega, by omega, fun S post hA hp => cpre S post hA (fun _ S2 h2 f2 => c_w21 ht h2.1 h2.2.1 h2.2.2.2.1 (fun A eA => ⟨fun q => absurd rfl q, fun _ => ⟨fun _ => ⟨by omega, by omega, fun _ => c_w101 ht h2 (by omega) (by omega) (fun w => absurd (Or.inl w) hk3) (fun _ S3 q h3 f3 hq => hp _ (some q) (h3.nc hq) ((f2.trans f3).trans (nC.fx hq)) (fun b eb => by cases eb; exact nC.k)), fun q => absurd q (by decide)⟩, fun q => ?_⟩⟩)) (fun q => absurd hk2 q)⟩⟩
      rw [h2.2.2.2.2] at q
      exact absurd (nI_lt (b := 20) (by omega) (by decide)) q
  · refine ⟨-1, rB σa (fk2 bf z (i + 1)) (fpl bf z (i + 1)), 1, 7, a1.pf.trans rB.f (Nat.le_refl _), fun Q hQ rc0 rc1 rc2 => r_one ht h hi (fun q => by omega) (fun _ => a3 _ ((r_musts ht a2 hlt (K := 11) (by decide) (by decide)).2 hk2 _ ⟨fun q => absurd rfl q, fun _ => hQ⟩)) (fun q => by omega) (fun q => by omega) (fun q => by omega) (fun _ _ q => absurd hk q), Or.inr ⟨_, _, rfl, rB.d fk2_0, by omega, by omega, fun S post hA hp => cpre S post hA (fun q => absurd q hk2) (fun _ S2 h2 f2 => ?_)⟩⟩
    obtain ⟨i2, hi2, h5⟩ := h2.2.1
    refine c_w21 ht h2.1 hi2 h5 (fun A eA => ⟨fun q => absurd rfl q, fun _ => ⟨fun _ => ⟨by omega, by omega, fun _ => d_w101 h2 (by omega) (by omega) (fun q hq => hp _ (some q) (h2.nc hq) (f2.trans (nC.fx hq)) (fun b eb => by cases eb; exact nC.k)), fun q => absurd q (by decide)⟩, fun q => ?_⟩⟩)
    rw [h2.2.2.2.2.2] at q
    exact absurd (by decide) q
theorem L_alert (ht : tC bf z c) (h : rA bf z bk nr nm i cn σ) (h61 : σ.1 61 = nI dp) (hi : i ≤ c) (hk : kt bf z i = 37) (d : Nat) : OUTC G cx bf z c bk nr ra nm d 2 14 8 100 i cn dp σ (fun Q => ∀ rc0 rc1 rc2, wpb_X12_one rc0 rc1 rc2 Q σ) (fun post m n S => ∀ rc0 rc1 p1, wpb_X5_readOne post G m n rc0 rc1 S (cx 0) p1) := by
  have hlt := ht.lt hi (by omega)
  have hbk := h.2.2.1.2.2
  have hcn := h.2.2.2.2.1.2.1
  have hqz := ht.le i hi
  have hz := ht.1
  have h2b := ht.two hlt (by omega)
  have hqz1 := ht.le (i + 1) (by omega)
  have hnr := h.2.2.2.2.2.1.2.1
  obtain ⟨σa, a1, a2, a3⟩ := r_nx ht h hlt
  have d1 := ht.2.2.1
  have cpre : ∀ (S : cs_S) (post : Option Nat → cs_S → Prop), pA G cx bf z c nr ra nm i S → (∀ S1, pA G cx bf z c nr ra nm (i + 1) S1 → fX (pE (cx 0)) S S1 → ∀ A, A = cs_al S1 (cx 4) (cs_i S1 605 (cx 0)).toNatClampNeg → (¬ (cs_i S1 606 (cx 0)) = 2 → w_X5_readWordTest_101 post G 1 7 S1 0 0 (cx 0) 37 A (-1)) ∧ ((cs_i S1 606 (cx 0)) = 2 → wp_X5_ruleNamed (fun r29 S29 => (¬ r29 = ((-1)) → w_X5_readWordTest_101 post G 1 7 S29 0 0 (cx 0) 37 A r29) ∧ (r29 = ((-1)) → cs_k S29 (cx 0) = 7 ∧ wp_X5_fail (fun S30 => w_X5_readWordTest_101 post G 1 7 S30 0 0 (cx 0) 37 A r29) G S29 (cx 0) 5)) G S1 (cx 0) A)) → ∀ rc0 rc1 p1, wpb_X5_readOne post G 1 7 rc0 rc1 S (cx 0) p1 := by
    intro S post hA g1 rc0 rc1 p1
    have e6 : cs_i S 606 (cx 0) = 37 := by rw [hA.2.2.2.2, hk]; rfl
    refine c_one ht hA (fun q => by omega) (fun q => by omega) (fun q => by omega) (fun _ => ⟨hA.1.1.1, c_step ht hA hlt (fun S1 h1 f1 => ⟨fun _ => ?_, fun q => ?_⟩)⟩) (fun _ _ _ _ _ q => absurd hk q)
    · rw [e6]
      exact c_w21 ht h1.1 h1.2.1 h1.2.2.2.1 (fun A eA => ⟨fun _ => ⟨by omega, by omega, fun q => absurd rfl q, fun _ => ⟨h1.1.1.1, (g1 S1 h1 f1 A eA).1, (g1 S1 h1 f1 A eA).2⟩⟩, fun q => absurd q (by decide)⟩)
    · rw [e6] at q; exact absurd q (by decide)
  by_cases hk2 : kt bf z (i + 1) = 2
  · have hlt1 := ht.lt (i := i + 1) hlt (by omega)
    have h1b := ht.one hlt1
    have hqz2 := ht.le (i + 1 + 1) (by omega)
    obtain ⟨wn, wl, w1, w2, hwd⟩ := a2.wd ht hlt (Or.inl hk2)
    have h34 := a2.2.2.2.2.2.1.1
    have h32 := a2.2.2.1.2.1
    have heq : ∀ r, r < nr → (σa.2.2.2 35 (12 * bk + r) = σa.2.1 58 ↔ nm r = (at_ bf z (i + 1)).2.2.1) := fun r hr => by
      obtain ⟨n', l', m1, m2⟩ := a2.2.2.2.2.2.1.2.2 r hr
      exact ⟨fun e => (wd_eq8 m2 hwd m1 w2).mpr e, fun e => (wd_eq8 m2 hwd m1 w2).mp e⟩
    -- the reference's loop
    have loop : ∀ (Q : Int32 → rf_S → Prop), (∀ r, r < nr → nm r = (at_ bf z (i + 1)).2.2.1 → (∀ r', r' < r → ¬ nm r' = (at_ bf z (i + 1)).2.2.1) → wp_X12_node (fun r11 σ11 => wp_X12_next (fun σ12 => Q r11 σ12) σ11) σa 5 (nI r) (-1)) → ((∀ r, r < nr → ¬ nm r = (at_ bf z (i + 1)).2.2.1) → Q (-1) (rB σa 5 (fpl bf z (i + 1)))) → ∀ dd r, r + dd = nr → (∀ r', r' < r → ¬ nm r' = (at_ bf z (i + 1)).2.2.1) → w_X12_alerted_22 Q (dd + 1) σa (nI r) := by
      intro Q g1 g2 dd
      induction dd with
      | zero =>
        intro r hr hl
        have : r = nr := by omega
        subst this
        refine ⟨fun _ => r_wrong ht a2 hlt (by omega) ⟨fun _ => g2 hl, fun q => absurd rfl q⟩, fun q => ?_⟩
        rw [h34] at q
        exact absurd (nI_le (Nat.le_refl _) (by omega)) q
      | succ dd ih =>
        intro r hr hl
        have e1 : (12 * (σa.1 32)) + nI r = nI (12 * bk + r) := by rw [h32, show (12 : Int32) = nI 12 from rfl, nI_mul, nI_add]
        refine ⟨fun q => ?_, fun _ => ?_⟩
        · rw [h34] at q; exact absurd q (nI_ge (by omega) (by omega))
        · rw [e1, nI_clamp (by omega)]
          refine ⟨nI_in (N := 24) (by omega) (by decide), fun q => g1 r (by omega) ((heq r (by omega)).mp (lg_eq.mp q)) hl, fun q => ?_⟩
          rw [nI_1]
          refine ih (r + 1) (by omega) (fun r' hr' e => ?_)
          by_cases e2 : r' = r
          · rw [e2] at e; exact q (lg_eq.mpr ((heq r (by omega)).mpr e))
          · exact hl r' (by omega) e
    have rgo : ∀ (Q : Int32 → rf_S → Prop), (∀ dd r, r + dd = nr → (∀ r', r' < r → ¬ nm r' = (at_ bf z (i + 1)).2.2.1) → w_X12_alerted_22 Q (dd + 1) σa (nI r)) → ∀ rc0 rc1 rc2, wpb_X12_one rc0 rc1 rc2 Q σ := by
      intro Q hq rc0 rc1 rc2
      exact r_one ht h hi (fun q => by omega) (fun q => by omega) (fun q => by omega) (fun _ => a3 _ (r_isn ht a2 hlt (fun _ => ⟨fun _ => ⟨_, hq nr 0 (by omega) (fun r' hr' => absurd hr' (Nat.not_lt_zero _))⟩, fun q => absurd q (by decide)⟩) (fun q => absurd hk2 q))) (fun q => by omega) (fun _ _ _ _ q => absurd hk q)
    by_cases hex : ∃ r, r < nr ∧ nm r = (at_ bf z (i + 1)).2.2.1 ∧ ∀ r', r' < r → ¬ nm r' = (at_ bf z (i + 1)).2.2.1
    · obtain ⟨r, r1, r2, r3⟩ := hex
      have hN : rA bf z bk nr nm (i + 1) (cn + 1) (nD σa (1100 * bk + cn) 5 (nI r) (-1)) := by
        refine a2.nd (by omega) (fun k hk => nDi hk) nDi53 rfl (fun k j hkj => nDr (by omega)) (fun k j hkj => rfl) ⟨fun q => ?_, fun q => ?_⟩ (fun q => ?_)
        · rw [nD47] at q
          rcases q with q | q <;> exact absurd q (by decide)
        · rw [nD47] at q; exact absurd q (by decide)
        · rw [nD47] at q
          obtain ⟨o', o1, o2, o3⟩ := q
          exact absurd ((nI_eq (a := 5) (by decide) (by omega)).mp o3) (by omega)
      obtain ⟨σ1, g1, g2, g3⟩ := r_nx ht hN hlt1
      have b4 : σ1.2.2.1 47 (1100 * bk + cn) = 5 := by rw [g1.2.2]; exact nD47
      have b5 : σ1.2.2.1 48 (1100 * bk + cn) = nI r := by rw [g1.2.2]; exact nD48
      have hnW : nW σ1 (1100 * bk + cn) := nW_w (Or.inr (Or.inr rfl)) (by omega) b4
      refine ⟨nI (1100 * bk + cn), σ1, 1, 7, (a1.pf.trans (nD.pf (by omega)) (Nat.le_refl _)).trans g1.pf (Nat.le_refl _), fun Q hQ => rgo Q (loop Q (fun r' q1 q2 q3 => ?_) (fun q => absurd r2 (q r r1))), Or.inl ⟨i + 1 + 1, cn + 1, 1100 * bk + cn, rfl, by omega, hlt1, by omega, g2, ?_, ⟨by omega, by omega⟩, by omega, by omega, fun S post hA hp => cpre S post hA (fun S1 h1 f1 A eA => ⟨fun q => ?_, fun _ => ?_⟩)⟩⟩
      · have : r' = r := by
          rcases Nat.lt_trichotomy r' r with e | e | e
          · exact absurd q2 (r3 r' e)
          · exact e
          · exact absurd r2 (q3 r e)
        rw [this]
        exact r_node a2 (by omega) (g3 _ hQ)
      · rw [g1.1 61 (by decide) (by decide) (by decide) (by decide) (by decide), nDi (by decide), a1.1 61 (by decide) (by decide) (by decide) (by decide) (by decide)]; exact h61
      · exact absurd (by rw [h1.2.2.2.2, hk2]; rfl) q
      · have eA2 : A = (at_ bf z (i + 1)).2.2.1 := eA.trans (h1.am ht (by omega))
        refine c_rulen h1.1 hnr (fun r' q1 q2 q3 => ⟨fun _ => ?_, fun q => ?_⟩) (fun q => absurd (r2.trans eA2.symm) (q r r1))
        · have : r' = r := by
            rcases Nat.lt_trichotomy r' r with e | e | e
            · exact absurd (q2.trans eA2) (r3 r' e)
            · exact e
            · exact absurd (r2.trans eA2.symm) (q3 r e)
          subst this
          refine c_w101 ht h1 (by omega) (by omega) (fun _ S2 q h2 f2 hq => ?_) (fun q => absurd hk2 q)
          have hlf : lfR (nC S2 q 37 A (nI r') none) σ1 q (1100 * bk + cn) := ⟨nC.k, hnW, Or.inr (Or.inr (Or.inl ⟨nC.i0, b4, by rw [nC.i2, b5]⟩))⟩
          exact hp _ q (tL d (q, 1100 * bk + cn)) (h2.nc hq) ((f1.trans f2).trans (nC.fx hq)) ((f1.trans f2).dead hq) nC.k (nC.r (by decide)) (tL.n (x := (q, 1100 * bk + cn)) d) (tL.r (x := (q, 1100 * bk + cn)) d) (tL.l (x := (q, 1100 * bk + cn)) hlf d) (tL.v (x := (q, 1100 * bk + cn)) hnW d)
        · exact absurd q (nI_m r' (by omega))
    · have hno : ∀ r, r < nr → ¬ nm r = (at_ bf z (i + 1)).2.2.1 := by
        intro r
        induction r using Nat.strongRecOn with
        | ind r ih =>
          intro hr e
          exact hex ⟨r, hr, e, fun r' hr' => ih r' hr' (by omega)⟩
      refine ⟨-1, rB σa 5 (fpl bf z (i + 1)), 1, 7, a1.pf.trans rB.f (Nat.le_refl _), fun Q hQ => rgo Q (loop Q (fun r' q1 q2 q3 => absurd q2 (hno r' q1)) (fun _ => hQ)), Or.inr ⟨_, _, rfl, rB.d (by decide), by omega, by omega, fun S post hA hp => cpre S post hA (fun S1 h1 f1 A eA => ⟨fun q => ?_, fun _ => ?_⟩)⟩⟩
      · exact absurd (by rw [h1.2.2.2.2, hk2]; rfl) q
      · have eA2 : A = (at_ bf z (i + 1)).2.2.1 := eA.trans (h1.am ht (by omega))
        refine c_rulen h1.1 hnr (fun r' q1 q2 q3 => absurd (q2.trans eA2) (hno r' q1)) (fun _ => ⟨fun q => absurd rfl q, fun _ => ⟨h1.1.1.1, c_fail ht h1 (by decide) (fun S2 h2 f2 => ?_)⟩⟩)
        rw [if_neg (show ¬ kt bf z (i + 1) = 0 by omega)] at h2
        exact d_w101 h2 (by omega) (by omega) (fun q hq => hp _ (some q) (h2.nc hq) ((f1.trans f2).trans (nC.fx hq)) (fun b eb => by cases eb; exact nC.k))
  · refine ⟨-1, rB σa (fk2 bf z (i + 1)) (fpl bf z (i + 1)), 1, 7, a1.pf.trans rB.f (Nat.le_refl _), fun Q hQ rc0 rc1 rc2 => r_one ht h hi (fun q => by omega) (fun q => by omega) (fun q => by omega) (fun _ => a3 _ (r_isn ht a2 hlt (fun q => absurd q hk2) (fun _ => ⟨fun q => absurd rfl q, fun _ => r_cant ht a2 hlt ⟨fun _ => hQ, fun q => absurd rfl q⟩⟩))) (fun q => by omega) (fun _ _ _ _ q => absurd hk q), Or.inr ⟨_, _, rfl, rB.d fk2_0, by omega, by omega, fun S post hA hp => cpre S post hA (fun S1 h1 f1 A eA => ⟨fun _ => c_w101 ht h1 (by omega) (by omega) (fun q => absurd q hk2) (fun _ S2 q h2 f2 hq => hp _ (some q) (h2.nc hq) ((f1.trans f2).trans (nC.fx hq)) (fun b eb => by cases eb; exact nC.k)), fun q => ?_⟩)⟩⟩
    have hK9 := ht.K39 (i := i + 1) hlt
    exact absurd ((nI_eq (b := 2) (by omega) (by decide)).mp (h1.2.2.2.2.symm.trans q)) hk2
end WT2
