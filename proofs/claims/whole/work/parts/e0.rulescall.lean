/-! ===== rules(), as a call of the law: all of it ===== -/
theorem ru_m (z w : Nat) : 2 + 10 * z + 30 + 3 ≤ 10 * z + 35 + 10 * w := by omega
theorem ru_n (z w : Nat) : 19 + 200 * z + 300 + 79 ≤ 200 * z + 398 + 200 * w := by omega
section JR2
variable {G : Nat → Nat} {xo ob tp sc kd pl am rv rc pk wt z y te : Nat} {S : cs_S} {σ : rf_S} {Bc Bs : Int}
theorem jY_rules (h : jY G xo ob tp sc kd pl am rv rc pk wt z y te Bc Bs S σ) (Cm Sm : Nat) (xs : Nat → Int32) (i : Nat) (K : cs_S → rf_S → Nat → Nat → Prop) (u v : Nat) (hu : u + (10 * z + 35) ≤ Cm) (hv : v + (200 * z + 398) ≤ Sm) (hK : ∀ S1 σ1 wt' te' Bc' Bs', jY G xo ob tp sc kd pl am rv rc pk wt' 0 y te' Bc' Bs' S1 σ1 → ((te' = te ∧ Bc' = Bc ∧ Bs' = Bs) ∨ (te' = 0 ∧ Bc' = 35 ∧ Bs' = 1813)) → K S1 σ1 (u + (10 * z + 35)) (v + (200 * z + 398))) : lw_rules Cm Sm xs G xo ob i K S σ u v := by
  obtain ⟨hC, ⟨t1, t2, t3, t4⟩, hp, ho, hbx, hL⟩ := h
  obtain ⟨⟨a1, a2, a3, a4, a5⟩, ⟨b1, b2⟩, ⟨c1, c2, c3, c4, c5⟩, ⟨d1, d2, d3, d4, d5, d6, d7, d8, d9⟩, ⟨e1, e2, e3, e4⟩, ⟨f1, f2, f3, f4, f5⟩, g⟩ := id hC
  -- bytes
  obtain ⟨bf, hbf⟩ : ∃ bf : Nat → Nat, ∀ j, bf j < 256 ∧ σ.2.2.1 1 j &&& 255 = nI (bf j) := ⟨fun j => Classical.choose (by255 (σ.2.2.1 1 j)), fun j => Classical.choose_spec (by255 (σ.2.2.1 1 j))⟩
  -- the old log
  obtain ⟨bk, h32, hbk, h59, h68, h83⟩ : ∃ bk, σ.1 32 = nI bk ∧ bk ≤ 1 ∧ (∀ j, σ.2.2.2 59 j = rf_i0.2.2.2 59 j) ∧ (∀ v, σ.2.2.1 68 v = 0) ∧ σ.1 83 = 0 := by
    obtain ⟨bk, nr, x, k, n, w, q, L, dp, tr, ud, ut, nv, ne, na, nl, now, pr, lr, le, tm, ev, ra, rr, lt, tl, S0, hS, hB, hD, hW, h20, hBc, hBs, hK, hq⟩ := hL
    exact ⟨bk, hS.1, hS.2.1, hq, hD.2.2.2.2.1, hD.2.2.2.2.2.1.2.2.2.2.1⟩
  obtain ⟨σ4, hA4, ⟨i4, i40, i42, i47⟩, l4, r4, b4, ref⟩ := r_start (nm := fun _ => 0) h32 hbk t3 t2 (fun j _ => (hbf j).1) (fun j _ => (hbf j).2) h59
  have hbk' : 1 - bk ≤ 1 := by omega
  refine ⟨10 * z + 35, 200 * z + 398, hu, hv, c_start (ra := fun _ => 0) (nm := fun _ => 0) hC t1 t2 (fun j _ => (hbf j).1) (fun j hj => (t4 j hj).trans (hbf j).2) (by omega) (by omega) (fun S26 q66 q16 c hT hA hF26 h1201 d66 d16 => ⟨14, ?_⟩)⟩
  have nsx : sc ≠ xo := fun e => by rw [e] at c1; omega
  have hF26' : fX (rlE xo sc kd pl am) S S26 := hF26.mono (fun s f a e => by
    rcases e with e | e
    · exact Or.inl e
    · exact Or.inr (Or.inl ⟨e.1, e.2.1⟩))
  -- frames from the call's start
  have fr : ∀ {S1 : cs_S}, fX (pG (cxF q66 sc kd pl am tp q16)) S26 S1 → fX (rlE xo sc kd pl am) S S1 := fun hF => hF26'.tr hF (fun s f a ha e => by
    rcases e with e | e | e
    · exact absurd (by rw [e.2.1]; exact d66) ha
    · exact absurd (by rw [e.2.1]; exact d66) ha
    · exact absurd (by rw [e.2]; exact d16) ha)
  have x1201 : ∀ {S1 : cs_S}, fX (pG (cxF q66 sc kd pl am tp q16)) S26 S1 → cs_i S1 1201 xo = 0 := fun hF => by
    have k26 : cs_k S26 xo = 13 := ((hF26 xo (by omega)).1).trans a1
    refine ((hF xo (by omega)).2.2.1 1201 (fun e => ?_)).trans h1201
    rcases e with e | e | e
    · have : xo = q66 := e.2.1
      rw [this, d66] at a1; omega
    · have : xo = q66 := e.2.1
      rw [this, d66] at a1; omega
    · exact absurd e.1 (by decide)
  have obF : ∀ {S1 : cs_S}, fX (rlE xo sc kd pl am) S S1 → jX_o S1 ob am rv ∧ cs_al S1 ob 0 = cs_al S ob 0 := fun hF => by
    obtain ⟨o1, o2, o3, o4⟩ := ho
    obtain ⟨p1, p2, -, -, -, -, p7, -⟩ := hF ob (by omega)
    refine ⟨⟨p1.trans o1, p2.trans o2, o3, o4⟩, p7 0 (fun e => ?_)⟩
    rcases e with (e | e | e | e) | e | e
    · exact absurd e.1 (by decide)
    · exact absurd e.1 (by decide)
    · exact absurd e.1 (by decide)
    · exact o3 e.2
    · exact absurd e.1 (by decide)
    · exact absurd e.1 (by decide)
  show w_X11_rules_34 _ G (10 * z + 35) (200 * z + 398) (12 + 2) S26 2 19 xo (some (cxF q66 sc kd pl am tp q16 0)) (nI 0)
  refine TEXT (G := G) (cx := cxF q66 sc kd pl am tp q16) (bf := bf) (z := z) (bk := 1 - bk) (S0 := S26) hT (xo := xo) (ex := 3) (es := 79) (mc := 10 * z + 35) (ms := 200 * z + 398) (σ0 := σ4) (RW := fun Q => wp_X12_text Q σ4) ?_ ?_ 12 0 (fun _ => 0) 0 0 σ4 (fun _ => 0) S26 2 19 rfl hA4 (Nat.zero_le _) hA fX.rfl ⟨fun r hr => absurd hr (Nat.not_lt_zero _), fun r r' a hr => absurd hr (Nat.not_lt_zero _)⟩ gF.rfl (fun Q hQ => ⟨12 + 1, hQ⟩) (ru_m z _) (ru_n z _)
  · -- all rules could be read
    intro σ1 S1 nr1 ra1 nm1 i1 cn1 u1 v1 hA1 hi1 hc1 hP1 hF1 hT1 hg1 hr1 hu1 hv1
    have F1 := fr hF1
    have k1 : cs_k S1 xo = 13 := ((F1 xo (by omega)).1).trans a1
    have k7 : cs_k S1 q66 = 7 := hP1.1.1.1
    have n66 : q66 ≠ xo := fun e => by rw [e] at k7; omega
    have hnr1 : nr1 ≤ 12 := hA1.2.2.2.2.2.1.2.1
    refine ⟨by omega, by omega, q66, rfl, k7, k1, fun S38 e38 => ⟨by rw [e38]; exact k1, fun S40 e40 => ⟨by rw [e40, e38]; exact k7, fun _ => ⟨by omega, by omega, fun q42 h42 S43 e43 => ?_⟩, fun q => absurd ?_ q⟩⟩⟩
    · have k40 : ∀ a, cs_k S40 a = cs_k S1 a := fun a => by rw [e40, e38]; rfl
      have d42 : cs_k S1 q42 = 0 := by rw [← k40]; exact h42
      have n42 : ∀ {a n : Nat}, cs_k S1 a = n → n ≠ 0 → a ≠ q42 := fun h1 h2 e => h2 (by rw [← h1, e]; exact d42)
      have k22 : cs_k S1 q16 = 22 := hP1.1.2.2.2.2.2.2.1.1
      have n22 : cs_n S1 q16 = 12 := hP1.1.2.2.2.2.2.2.1.2
      have r600 : cs_r S1 600 q66 = some q16 := hP1.1.1.2.2.1
      have i601 : cs_i S1 601 q66 = nI nr1 := hP1.1.1.2.2.2
      refine ⟨by rw [e43, knew, if_neg (n42 k7 (by decide)), k40]; exact k7, fun r45 e45 => ⟨2, 67, by omega, by omega, ?_⟩⟩
      have e45' : r45 = some q16 := by
        rw [e45, e43, rnew, if_neg (n42 k7 (by decide)), e40, e38]; exact r600
      have e601 : cs_i S43 601 q66 = nI nr1 := by
        rw [e43, inew, if_neg (n42 k7 (by decide)), e40, iui, if_neg (fun e => n66 e.2), e38, iui, if_neg (fun e => n66 e.2)]; exact i601
      rw [e45', e601]
      refine ci_X10 (by rw [e43, knew, if_pos rfl]) (by rw [e43, knew, if_neg (n42 k22 (by decide)), k40]; exact k22) (by omega) (by omega) (fun la td hla htd hne => ?_)
      have nif : (if Int32.ofNat (cs_n S43 q16) < nI nr1 then Int32.ofNat (cs_n S43 q16) else nI nr1) = nI nr1 := by
        rw [e43, nnew, e40, e38]
        show (if Int32.ofNat (cs_n S1 q16) < nI nr1 then Int32.ofNat (cs_n S1 q16) else nI nr1) = nI nr1
        rw [n22, if_neg (fun q => ?_)]
        have := (nI_ltI (a := 12) (by decide) (by omega)).mp q
        omega
      rw [nif]
      rw [e43] at hla htd ⊢
      have F40 : fX (rlE xo sc kd pl am) S S40 := by rw [e40, e38]; exact (F1.ui (Or.inl (Or.inr (Or.inl ⟨rfl, rfl⟩)))).ui (Or.inl (Or.inr (Or.inl ⟨rfl, rfl⟩)))
      have g27 : cs_k S40 (G 1) = 27 := ((F40 (G 1) (by omega)).1).trans f4
      have g0 : cs_n S40 (G 1) = 0 := ((F40 (G 1) (by omega)).2.1).trans f5
      obtain ⟨w1, w2⟩ := w_new (G := G) (S := S40) (q := q42) (ru := q16) (la := la) (td := td) (xo := xo) (nr := nr1) (ra := ra1) h42 (by rw [k40]; exact k22) hnr1 (by rw [e40, e38]; exact n22) hla htd hne (by rw [k40]; exact k1) (fun r hr => by rw [e40, e38]; exact (hP1.1.2.2.2.2.2.2.2.2.2.1 r hr).1) g27 g0
      have kxo : cs_k (ci_S10 G (cs_new S40 q42 11) q42 q16 (nI nr1) la td) xo = 13 := by
        have := (w2 xo (by rw [k40]; omega)).1
        rw [k40, k1] at this; exact this
      refine ⟨kxo, fun S48 e48 => ⟨by rw [e48]; exact kxo, fun r50 e50 => ⟨q42, by rw [e50, e48, rur, if_pos ⟨rfl, rfl⟩], ?_, ?_⟩⟩⟩
      · rw [e48]; exact w1.1.1
      rw [← e48] at w1 w2
      have F48 : fX (rlE xo sc kd pl am) S S48 := F40.trans (w2.mono (fun s f a e => Or.inr (Or.inr e)))
      have G148 : fX (fun s f b => b = xo) S1 S48 := by
        have f1 : fX (fun s f b => b = xo) S1 S40 := by rw [e40, e38]; exact (fX.rfl.ui (Or.inl rfl)).ui (Or.inl rfl)
        exact f1.trans (w2.mono (fun s f a e => e.2.2))
      refine ref _ (hr1 _ ⟨fun _ => el_all ?_, fun q => absurd q (by decide)⟩)
      have e33 : (rf_E (rf_ui σ1 33 (σ1.1 34))).1 33 = nI nr1 := by rw [rf_E1, if_neg (by decide), r1ui, if_pos rfl]; exact hA1.2.2.2.2.2.1.1
      refine ⟨by rw [e33]; exact w1.1.2.2.2.2.1, ?_⟩
      have gi : ∀ k, k ≠ 4 → k ≠ 5 → k ≠ 6 → k ≠ 34 → (k < 53 ∨ 57 < k) → k ≠ 60 → k ≠ 61 → σ1.1 k = σ4.1 k := hg1.1
      have hL1 : LG G (PXs G xo ob tp sc kd pl am rv rc pk) q42 S48 (rf_E (rf_ui σ1 33 (σ1.1 34))) 0 35 1813 := by
        refine LG_new (bk := 1 - bk) (nr := nr1) (cn := cn1) (S0 := S26) (ra := ra1) (rr := q16) (lt := la) (tl := td) ?_ hbk' ?_ hnr1 ?_ hc1 hA1.2.2.2.2.1.2.2.1 hA1.2.2.2.2.1.2.2.2 hA1.2.2.2.1 (fun v => ?_) ?_ w1 (fun a ha => ?_)
        · rw [r1ui, if_neg (by decide)]; exact hA1.2.2.1.2.1
        · rw [r1ui, if_pos rfl]; exact hA1.2.2.2.2.2.1.1
        · exact hT1.to hbk' hc1 hA1.2.2.2.2.1.2.2.1 hA1.2.2.2.2.1.2.2.2 rfl G148 (fun s f b e => by rw [e]; exact Or.inr (Or.inr (Or.inr k1)))
        · show σ1.2.2.1 68 v = 0
          rw [hg1.2.2.1 68 v (by omega) (by omega) (by omega), r4 68 v (by omega)]; exact h68 v
        · rw [r1ui, if_neg (by decide), gi 83 (by decide) (by decide) (by decide) (by decide) (by omega) (by decide) (by decide), i4 83 (by decide) (by decide) (by decide) (by decide) (by decide) (by decide) (by decide) (by decide) (by omega)]; exact h83
        · have kk : ∀ {a n : Nat}, cs_k S a = n → n ≠ 0 → cs_k S48 a = n := fun h1 h2 => ((F48 _ (by rw [h1]; exact h2)).1).trans h1
          rcases ha with e | e | e | e | e | e | e | e | e | e | e
          · rw [e, kk a1 (by decide)]; decide
          · rw [e, kk b1 (by decide)]; decide
          · rw [e, kk c1 (by decide)]; decide
          · rw [e, kk d1 (by decide)]; decide
          · rw [e, kk d3 (by decide)]; decide
          · rw [e, kk d5 (by decide)]; decide
          · rw [e, kk d7 (by decide)]; decide
          · rw [e, kk e1 (by decide)]; decide
          · rw [e, kk e3 (by decide)]; decide
          · rw [e, kk ho.1 (by decide)]; decide
          · rw [e, kk f2 (by decide)]; decide
      have i48 : ∀ f, cs_i S48 f xo = cs_i S40 f xo := fun f => (w2 xo (by rw [k40]; omega)).2.2.1 f (fun e => absurd e.1 (by decide))
      refine hK S48 _ q42 0 35 1813 ⟨hC.fr F48 (by rw [e48, rur, if_pos ⟨rfl, rfl⟩]) w1.1.1, ⟨?_, Nat.zero_le _, ?_, fun j hj => absurd hj (Nat.not_lt_zero _)⟩, hp.fr hC F48 ?_ ?_ ?_ (fun j => ?_), (obF F48).1, by rw [(obF F48).2]; exact hbx, hL1⟩ (Or.inr ⟨rfl, rfl, rfl⟩)
      · rw [i48, e40, iui, if_neg (fun e => absurd e.1 (by decide)), e38, iui, if_neg (fun e => absurd e.1 (by decide))]; exact x1201 hF1
      · rw [rf_E1, if_neg (by decide), r1ui, if_neg (by decide), gi 2 (by decide) (by decide) (by decide) (by decide) (by omega) (by decide) (by decide)]; exact i42
      · rw [i48, e40, iui, if_neg (fun e => absurd e.1 (by decide)), e38, iui, if_pos ⟨rfl, rfl⟩, rf_E1, if_neg (by decide), r1ui, if_neg (by decide), hA1.2.2.1.1]; exact hP1.2.2.1
      · rw [i48, e40, iui, if_pos ⟨rfl, rfl⟩, rf_E1, if_neg (by decide), r1ui, if_neg (by decide), gi 7 (by decide) (by decide) (by decide) (by decide) (by omega) (by decide) (by decide)]; exact i47.symm
      · rw [rf_E1, if_neg (by decide), r1ui, if_neg (by decide), gi 85 (by decide) (by decide) (by decide) (by decide) (by omega) (by decide) (by decide), i4 85 (by decide) (by decide) (by decide) (by decide) (by decide) (by decide) (by decide) (by decide) (by omega)]
      · rw [rE3o j (by decide)]
        show σ1.2.2.1 84 j = _
        rw [hg1.2.2.1 84 j (by omega) (by omega) (by omega), r4 84 j (by omega)]
    · have : cs_i S40 602 q66 = cs_i S1 602 q66 := by rw [e40, iui, if_neg (fun e => n66 e.2), e38, iui, if_neg (fun e => n66 e.2)]
      rw [this]; exact hP1.2.2.1
  · -- a fault
    intro σ1 S1 nr1 ra1 nm1 fk fp u1 v1 hP1 hF1 hg1 hD1 hr1 hu1 hv1
    have F1 := fr hF1
    have k1 : cs_k S1 xo = 13 := ((F1 xo (by omega)).1).trans a1
    have k7 : cs_k S1 q66 = 7 := hP1.1.1.1
    have n66 : q66 ≠ xo := fun e => by rw [e] at k7; omega
    have i602 : cs_i S1 602 q66 = fk := hP1.2.2.2.1
    have i603 : cs_i S1 603 q66 = fp := hP1.2.2.2.2.1
    refine ⟨hu1, hv1, q66, rfl, k7, k1, fun S38 e38 => ⟨by rw [e38]; exact k1, fun S40 e40 => ⟨by rw [e40, e38]; exact k7, fun q => absurd ?_ hP1.2.2.1, fun _ => ?_⟩⟩⟩
    · rw [e40, iui, if_neg (fun e => n66 e.2), e38, iui, if_neg (fun e => n66 e.2), i602] at q; exact q
    have e603 : cs_i S40 603 q66 = fp := by rw [e40, iui, if_neg (fun e => n66 e.2), e38, iui, if_neg (fun e => n66 e.2)]; exact i603
    have F40 : fX (rlE xo sc kd pl am) S S40 := by rw [e40, e38]; exact (F1.ui (Or.inl (Or.inr (Or.inl ⟨rfl, rfl⟩)))).ui (Or.inl (Or.inr (Or.inl ⟨rfl, rfl⟩)))
    refine ref _ (hr1 _ ⟨fun q => absurd rfl q, fun _ => ⟨by rw [e603, hD1.2.1], ?_⟩⟩)
    have gi : ∀ k, k ≠ 4 → k ≠ 5 → k ≠ 6 → k ≠ 34 → (k < 53 ∨ 57 < k) → k ≠ 60 → k ≠ 61 → σ1.1 k = σ4.1 k := hg1.1
    have e32 : (rf_ui σ1 32 (1 - (σ1.1 32))).1 32 = σ.1 32 := by
      rw [r1ui, if_pos rfl, gi 32 (by decide) (by decide) (by decide) (by decide) (by omega) (by decide) (by decide), hA4.2.2.1.2.1, h32]
      have : bk = 0 ∨ bk = 1 := by omega
      rcases this with e | e <;> rw [e] <;> decide
    have hL1 : LG G (PXs G xo ob tp sc kd pl am rv rc pk) wt S40 (rf_ui σ1 32 (1 - (σ1.1 32))) te Bc Bs := by
      refine (hL.jn hC ho hbx (rlE.jn hC F40)).bnk (fun b hb hbb => ?_) (fun k hk => ?_) (funext fun j => ?_)
      · have : b = bk := (nI_eq (by omega) (by omega)).mp (hbb.symm.trans h32)
        rw [this]
        exact eL_of hbk r4 b4 hg1 rfl
      · by_cases e : k = 32
        · rw [e]; exact e32
        · rw [r1ui, if_neg e, gi k (by omega) (by omega) (by omega) (by omega) (by omega) (by omega) (by omega), i4 k (by omega) (by omega) (by omega) (by omega) (by omega) (by omega) e (by omega) (by omega)]
      · show σ1.2.2.2 59 j = _
        rw [hg1.2.2.2 59 j (by omega) (by omega) (by omega), b4]
    have r1206 : cs_r S40 1206 xo = some wt := by
      have : cs_r S40 1206 xo = cs_r S1 1206 xo := by rw [e40, e38]; rfl
      rw [this]
      have k26 : cs_k S26 xo = 13 := ((hF26 xo (by omega)).1).trans a1
      rw [(hF1 xo (by omega)).2.2.2.2.1 1206 (fun e => ?_), (hF26 xo (by omega)).2.2.2.2.1 1206 (fun e => ?_)]
      · exact a5
      · rcases e with (e | e | e | e) | e
        · exact absurd e.1 (by decide)
        · exact nsx e.2.1.symm
        · exact absurd e.1 (by decide)
        · exact absurd e.1 (by decide)
        · exact absurd e.1 (by decide)
      · rcases e with e | e | e
        · exact absurd e.1 (by decide)
        · exact absurd e.1 (by decide)
        · exact absurd e.1 (by decide)
    refine hK S40 _ wt te Bc Bs ⟨hC.fr F40 r1206 (((F40 wt (by omega)).1).trans f1), ⟨?_, Nat.zero_le _, ?_, fun j hj => absurd hj (Nat.not_lt_zero _)⟩, hp.fr hC F40 ?_ ?_ ?_ (fun j => ?_), (obF F40).1, by rw [(obF F40).2]; exact hbx, hL1⟩ (Or.inl ⟨rfl, rfl, rfl⟩)
    · rw [e40, iui, if_neg (fun e => absurd e.1 (by decide)), e38, iui, if_neg (fun e => absurd e.1 (by decide))]; exact x1201 hF1
    · rw [r1ui, if_neg (by decide), gi 2 (by decide) (by decide) (by decide) (by decide) (by omega) (by decide) (by decide)]; exact i42
    · rw [e40, iui, if_neg (fun e => absurd e.1 (by decide)), e38, iui, if_pos ⟨rfl, rfl⟩, r1ui, if_neg (by decide), i602, hD1.1]
    · rw [e40, iui, if_pos ⟨rfl, rfl⟩, r1ui, if_neg (by decide), gi 7 (by decide) (by decide) (by decide) (by decide) (by omega) (by decide) (by decide)]; exact i47.symm
    · rw [r1ui, if_neg (by decide), gi 85 (by decide) (by decide) (by decide) (by decide) (by omega) (by decide) (by decide), i4 85 (by decide) (by decide) (by decide) (by decide) (by decide) (by decide) (by decide) (by decide) (by omega)]
    · show σ1.2.2.1 84 j = _
      rw [hg1.2.2.1 84 j (by omega) (by omega) (by omega), r4 84 j (by omega)]
end JR2
