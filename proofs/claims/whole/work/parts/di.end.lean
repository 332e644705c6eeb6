/-! ===== a rule read: the last sign ===== -/
section T2S
variable {G cx : Nat → Nat} {bf : Nat → Nat} {z c bk nr i cn b x k n R ca by0 wt : Nat} {ra : Nat → Nat} {nm : Nat → Int64} {na : Int64} {σ σ' : rf_S} {S S' S0 : cs_S} {vi : Nat → Int32} {vl : Nat → Int64} {un : Option Nat} {ce : Nat → Option Nat} {be : Nat → Int64} {fk fp : Int32}
theorem rM.fx {E : Nat → Nat → Nat → Prop} (h : rM S R ca by0 wt vi vl un ce be) (hF : fX E S S') (hR : ∀ s f, E s f R → s = 2 ∧ f = 816) (hca : ∀ s f, ¬ E s f ca) (hby : ∀ s f, ¬ E s f by0) : rM S' R ca by0 wt vi vl un ce be := by
  obtain ⟨⟨h1, h2, h3, h4, h5, h6, h7, h8⟩, ⟨a1, a2, a3⟩, ⟨b1, b2, b3⟩, c1, c2⟩ := h
  obtain ⟨k, -, i, l, r, -⟩ := hF R (by rw [h1]; decide)
  obtain ⟨ka, na, -, -, -, -, -, ara⟩ := hF ca (by rw [a1]; decide)
  obtain ⟨kb, nb, -, -, -, -, alb, -⟩ := hF by0 (by rw [b1]; decide)
  obtain ⟨kw, nw, -⟩ := hF wt (by rw [c1]; decide)
  have i' : ∀ f, cs_i S' f R = cs_i S f R := fun f => i f (fun q => absurd (hR _ _ q).1 (by decide))
  have l' : ∀ f, cs_l S' f R = cs_l S f R := fun f => l f (fun q => absurd (hR _ _ q).1 (by decide))
  have r' : ∀ f, f ≠ 816 → cs_r S' f R = cs_r S f R := fun f hf => r f (fun q => hf (hR _ _ q).2)
  exact ⟨⟨k.trans h1, fun f => (i' f).trans (h2 f), fun f => (l' f).trans (h3 f), (r' _ (by decide)).trans h4, (r' _ (by decide)).trans h5, (r' _ (by decide)).trans h6, (r' _ (by decide)).trans h7, (r' _ (by decide)).trans h8⟩, ⟨ka.trans a1, na.trans a2, fun j => (ara j (hca _ _)).trans (a3 j)⟩, ⟨kb.trans b1, nb.trans b2, fun j => (alb j (hby _ _)).trans (b3 j)⟩, kw.trans c1, nw.trans c2⟩
theorem pS.put (h : pS G cx bf z c nr ra nm S) (hR : cs_k S R = 9) (hl : cs_l S 801 R = na) : pS G cx bf z c (nr + 1) (up ra nr R) (up nm nr na) (cs_ui (cs_uar S (cx 6) nr (some R)) 601 (cx 0) (nI (nr + 1))) := by
  obtain ⟨⟨a1, a2, a3, a4⟩, b, c', d, e, f, g, t, u, v, w⟩ := h
  refine ⟨⟨a1, a2, a3, by rw [iui, if_pos ⟨rfl, rfl⟩]⟩, b, c', d, e, f, g, t, u, fun r hr => ?_, w⟩
  by_cases er : r = nr
  · rw [er, up_s, up_s]
    exact ⟨by rw [arui, aruar, if_pos ⟨rfl, rfl⟩], hR, hl⟩
  · rw [up_o er, up_o er, arui, aruar, if_neg (fun q => er q.2)]
    exact v r (by omega)
theorem rA.st (h : rA bf z bk nr nm i cn σ) (hnr : nr < 12) (hw : ∃ n l, n ≤ 8 ∧ wdR n na (σ.2.2.2 35 (12 * bk + nr)) l) : rA bf z bk (nr + 1) (up nm nr na) i cn (rf_ui σ 34 (nI (nr + 1))) := by
  obtain ⟨a1, a2, a3, a6, a7, ⟨a11, a12, a13⟩, a14⟩ := h
  refine ⟨⟨a1.1, a1.2⟩, a2, a3, a6, a7, ⟨by rw [r1ui, if_pos rfl], by omega, fun r hr => ?_⟩, a14⟩
  by_cases er : r = nr
  · rw [er, up_s]; exact hw
  · rw [up_o er]; exact a13 r (by omega)
theorem prS.rfl' : prS σ σ bk cn := fun d m t _ hl hr => ⟨hr, hl, fun S h => h⟩
theorem sK.rfl' : sK σ σ := ⟨fun _ _ _ _ => rfl, fun _ _ _ _ => rfl⟩
/-- what a rule has, once its last sign has come -/
theorem mK.fin {w q nb q6 : Nat} (h : mK G cx bf z c nr ra nm S0 R ca by0 wt i vi vl un ce be S) (hX : rWx σ (12 * bk + nr) x k n) (hJ : cJ S σ bk nr cn x k n na vi vl un ce be) (hbk : bk ≤ 1) (hc : cn ≤ 1100) (hw : σ.2.2.1 44 (12 * bk + nr) = nI w ∧ 1 ≤ w ∧ w ≤ 1000000) (hq : σ.2.2.1 45 (12 * bk + nr) = nI q ∧ q ≤ 1000000) (h10 : vi 810 = nI w) (h11 : vi 811 = nI q) (hnb : nb = 1 ∨ nb = 128) (hq6 : cs_k S q6 = 0) :
    (∃ L tr ut, fin S0 (cs_ui (cs_uar (cs_ur (cs_newA S q6 25 nb) 816 R (some q6)) (cx 6) nr (some R)) 601 (cx 0) (nI (nr + 1))) σ bk cn nr R q6 wt nb x k n w q L tr ut) ∧ fX (pG cx) S0 (cs_ui (cs_uar (cs_ur (cs_newA S q6 25 nb) 816 R (some q6)) (cx 6) nr (some R)) 601 (cx 0) (nI (nr + 1))) := by
  obtain ⟨hA, hF0, hM, hp0, d1, d2, d3, d4⟩ := h
  have k0 := hA.1.1.1
  have k6 := hA.1.2.2.2.2.2.2.1.1
  obtain ⟨⟨r1, -⟩, ⟨ca1, -⟩, ⟨by1, -⟩, wt1, -⟩ := id hM
  have nq : ∀ a, cs_k S a ≠ 0 → a ≠ q6 := fun a ha e => ha (by rw [e]; exact hq6)
  let E : Nat → Nat → Nat → Prop := fun s f a => (s = 2 ∧ f = 816 ∧ a = R) ∨ (s = 5 ∧ a = cx 6) ∨ (s = 0 ∧ f = 601 ∧ a = cx 0)
  have hF : fX E S (cs_ui (cs_uar (cs_ur (cs_newA S q6 25 nb) 816 R (some q6)) (cx 6) nr (some R)) 601 (cx 0) (nI (nr + 1))) := (((fX.rfl.newA hq6).ur (Or.inl (Or.inl ⟨rfl, rfl, rfl⟩))).uar (Or.inl (Or.inr (Or.inl ⟨rfl, rfl⟩)))).ui (Or.inl (Or.inr (Or.inr ⟨rfl, rfl, rfl⟩)))
  have hG : fX (pG cx) S0 (cs_ui (cs_uar (cs_ur (cs_newA S q6 25 nb) 816 R (some q6)) (cx 6) nr (some R)) 601 (cx 0) (nI (nr + 1))) := ((((hF0.mono (fun s f a e => (Or.inl e : pG cx s f a))).newA hq6).ur (Or.inr d1)).uar (Or.inl (Or.inr (Or.inr ⟨rfl, rfl⟩)))).ui (Or.inl (Or.inr (Or.inl ⟨rfl, rfl, rfl⟩)))
  have hM' := hM.fx hF (fun s f e => by
    rcases e with e | e | e
    · exact ⟨e.1, e.2.1⟩
    · have := e.2; rw [← this] at k6; omega
    · have := e.2.2; rw [← this] at k0; omega) (fun s f e => by
    rcases e with e | e | e
    · have := e.2.2; rw [← this] at r1; omega
    · have := e.2; rw [← this] at k6; omega
    · have := e.2.2; rw [← this] at k0; omega) (fun s f e => by
    rcases e with e | e | e
    · have := e.2.2; rw [← this] at r1; omega
    · have := e.2; rw [← this] at k6; omega
    · have := e.2.2; rw [← this] at k0; omega)
  have hJ' := hJ.on sK.rfl' (Nat.le_refl _) prS.rfl' hF (fun s f a e => by
    rcases e with e | e | e
    · rw [e.2.2, r1]; decide
    · rw [e.2, k6]; decide
    · rw [e.2.2, k0]; decide)
  refine ⟨?_, hG⟩
  have nq6 : q6 ≠ cx 6 := fun e => nq (cx 6) (by omega) e.symm
  have nqR : q6 ≠ R := fun e => nq R (by omega) e.symm
  have n60 : cx 6 ≠ cx 0 := fun e => by rw [e] at k6; omega
  have D816 : cs_r (cs_ui (cs_uar (cs_ur (cs_newA S q6 25 nb) 816 R (some q6)) (cx 6) nr (some R)) 601 (cx 0) (nI (nr + 1))) 816 R = some q6 := by
    show cs_r (cs_ur (cs_newA S q6 25 nb) 816 R (some q6)) 816 R = some q6
    rw [rur, if_pos ⟨rfl, rfl⟩]
  have Dk : cs_k (cs_ui (cs_uar (cs_ur (cs_newA S q6 25 nb) 816 R (some q6)) (cx 6) nr (some R)) 601 (cx 0) (nI (nr + 1))) q6 = 25 := by
    show cs_k (cs_newA S q6 25 nb) q6 = 25
    rw [knewA, if_pos rfl]
  have Dn : cs_n (cs_ui (cs_uar (cs_ur (cs_newA S q6 25 nb) 816 R (some q6)) (cx 6) nr (some R)) 601 (cx 0) (nI (nr + 1))) q6 = nb := by
    show cs_n (cs_newA S q6 25 nb) q6 = nb
    rw [nnewA, if_pos rfl]
  have Da : ∀ j, cs_ar (cs_ui (cs_uar (cs_ur (cs_newA S q6 25 nb) 816 R (some q6)) (cx 6) nr (some R)) 601 (cx 0) (nI (nr + 1))) q6 j = none := fun j => by
    rw [arui, aruar, if_neg (fun e => nq6 e.1)]
    show cs_ar (cs_newA S q6 25 nb) q6 j = none
    rw [arnewA, if_pos rfl]
  generalize (cs_ui (cs_uar (cs_ur (cs_newA S q6 25 nb) 816 R (some q6)) (cx 6) nr (some R)) 601 (cx 0) (nI (nr + 1))) = S1 at *
  obtain ⟨⟨j1, j2, j3, j4, j5, j6, j7, j8⟩, ⟨tr, ut, jc, ju, jn⟩, jf, jb⟩ := hJ'
  obtain ⟨⟨x1, x2⟩, ⟨x3, x4, x5, x6, x7⟩, ⟨x8, x9⟩, x10, x11⟩ := hX
  obtain ⟨⟨m1, m2, m3, m4, m5, m6, m7, m8⟩, ⟨m9, m10, m11⟩, ⟨m12, m13, m14⟩, m15, m16⟩ := hM'
  have hL : ∃ L, (x = 0 ∨ x = 1) → 1 ≤ L ∧ L ≤ 1000 ∧ σ.2.2.1 39 (12 * bk + nr) = nI L := by
    by_cases e : x = 0 ∨ x = 1
    · obtain ⟨L, hL⟩ := x10 e
      exact ⟨L, fun _ => hL⟩
    · exact ⟨0, fun q => absurd q e⟩
  obtain ⟨L, hL⟩ := hL
  refine ⟨L, tr, ut, ⟨x1, x2, x8, x9, hw.1, hw.2.1, hw.2.2, hq.1, hq.2, ⟨x3, x4, x5, fun c hck => ?_⟩, ?_, x6, x7, jn, x10⟩, hL, ⟨m1, (m2 _).trans j1, by rw [m2]; exact j6, (m2 _).trans j7, fun e => by rw [m3]; exact jf e, (m2 _).trans j4, ⟨ca, m4, m9, m10, fun c hck => ?_⟩, ?_, ⟨m1, (m2 _).trans j5, x9, by0, m6, m12, m13, fun j hj => by rw [m14]; exact jb j hj⟩, (m2 _).trans h10, (m2 _).trans h11⟩, fun by1 e i j hi hj hij => ?_, x11, ⟨fun j hj => ?_, ?_⟩, ⟨(m2 _).trans j2, (m2 _).trans j3, m8, D816, Dk, Dn, hnb, Da⟩, ⟨m7, m15, m16⟩, d1, hF0.dead hq6, d4⟩
  · obtain ⟨nd, a, a1, a2, a3, a4, a5, a6, a7⟩ := jc c hck
    exact ⟨Nat.le_refl _, nd, a1, a3, a4⟩
  · rcases ju with ⟨w1, w2, w3⟩ | ⟨t, nd, a, w1, w2, w3, w4, w5, w6, w7, w8⟩
    · exact Or.inl ⟨w1, w3⟩
    · exact Or.inr ⟨t, nd, w1, Nat.le_refl _, w3, by have := w4.2; omega, w5, w6⟩
  · obtain ⟨nd, a, a1, a2, a3, a4, a5, a6, a7⟩ := jc c hck
    exact ⟨a, (m11 c).trans a5, a6, a7⟩
  · rcases ju with ⟨w1, w2, w3⟩ | ⟨t, nd, a, w1, w2, w3, w4, w5, w6, w7, w8⟩
    · exact Or.inl ⟨w1, m5.trans w2⟩
    · exact Or.inr ⟨t, a, w1, m5.trans w2, w7, w8⟩
  · have e' : by1 = by0 := by rw [m6] at e; exact (Option.some.inj e).symm
    rw [e', m14, m14] at hij
    obtain ⟨n1, l1, p1, p2⟩ := jb i hi
    obtain ⟨n2, l2, p3, p4⟩ := jb j hj
    exact x11 i j hi hj ((wd_eq8 p2 p4 p1 p3).mp hij)
  · obtain ⟨nd, a, a1, a2, a3, a4, -⟩ := jc j hj
    exact ⟨nd, a1, a2, a3, a4⟩
  · rcases ju with ⟨w1, w2, w3⟩ | ⟨t, nd, a, w1, w2, w3, w4, w5, w6, -⟩
    · exact Or.inl ⟨w1, w3⟩
    · exact Or.inr ⟨t, nd, w1, w3, w4, w5, w6⟩
/-- the last sign -/
theorem T259 {w q : Nat} (ht : tC bf z c) (h : rA bf z bk nr nm i cn σ) (hi : i ≤ c) (hnr : nr < 12) (hX : rWx σ (12 * bk + nr) x k n) (hna : ∃ n l, n ≤ 8 ∧ wdR n na (σ.2.2.2 35 (12 * bk + nr)) l) (hw : σ.2.2.1 44 (12 * bk + nr) = nI w ∧ 1 ≤ w ∧ w ≤ 1000000) (hq : σ.2.2.1 45 (12 * bk + nr) = nI q ∧ q ≤ 1000000) : OUTR G cx bf z c bk nr ra nm na i cn σ (fun Q => w_X12_rule_259 Q σ) (fun S0 S R => ∃ ca by0 wt vi vl un ce be, mK G cx bf z c nr ra nm S0 R ca by0 wt i vi vl un ce be S ∧ cJ S σ bk nr cn x k n na vi vl un ce be ∧ vi 810 = nI w ∧ vi 811 = nI q) (fun post mc ms u v S R => w_X5_readRule_117 post G mc ms S u v (cx 0) (some R)) := by
  have hbk := h.2.2.1.2.2
  have hz := ht.1
  have hle := ht.le i hi
  have hc : cn ≤ 1100 := by have := h.2.2.2.2.1.2.1; omega
  obtain ⟨m1, m2⟩ := r_musts (K := 9) ht h hi (by decide) (by decide)
  by_cases e9 : kt bf z i = 9
  · obtain ⟨σ', g1, g2, g3⟩ := m1 e9
    have hlt := ht.lt hi (by omega)
    have hone := ht.one hlt
    have hs : sK σ σ' := (nxF.pf (bk := bk) (cn := cn) g1).sk
    have e34 : σ'.1 34 = nI nr := g2.2.2.2.2.2.1.1
    have er : σ'.2.2 = σ.2.2 := g1.2.2
    have hgF : gF bk nr cn σ (rf_ui σ' 34 (nI (nr + 1))) := ((nxF.pf (bk := bk) (cn := cn) g1).gf).ui (by omega)
    refine ⟨1, rf_ui σ' 34 (nI (nr + 1)), 1, 128, hgF, fun Q hQ => g3 _ ⟨fun _ => ?_, fun q => absurd q (by decide)⟩, Or.inl ⟨rfl, i + 1, cn, by omega, by omega, by omega, g2.st hnr (by rw [er]; exact hna), by omega, by omega, ?_⟩⟩
    · rw [e34, nI_1]; exact hQ
    rintro S0 S R post ⟨ca, by0, wt, vi, vl, un, ce, be, hm, hj, v10, v11⟩ hp mc ms u v hu hv
    refine ⟨by omega, by omega, hm.1.1.1.1, c_skip (x := 9) ht hm.1 (by decide) (by decide) (fun _ S42 p42 f42 => ⟨p42.1.1.1, fun q => absurd p42.2.2.1 q, fun _ => ?_⟩) (fun q => absurd e9 q)⟩
    have h42 := hm.pe p42 f42
    have j42 := hj.on (cn' := cn) (hs.trans (σ2 := rf_ui σ' 34 (nI (nr + 1))) ⟨fun _ _ _ _ => rfl, fun _ _ _ _ => rfl⟩) (Nat.le_refl _) (prS.gf h hc hgF) f42 (pE.e3 hm.1.1.1.1)
    obtain ⟨⟨k1, k2, k3, k4, k5, k6, k7, k8⟩, kk⟩ := id h42.2.2.1
    have key : ∀ nb, nb = 1 ∨ nb = 128 → w_X7_makeBuckets_24 (fun S46 => cs_k S46 (cx 0) = 7 ∧ ∀ r49, r49 = cs_r S46 600 (cx 0) → ∃ b50, r49 = some b50 ∧ cs_k S46 b50 = 22 ∧ vp_in (cs_i S46 601 (cx 0)) (cs_n S46 b50) ∧ (∀ b, (some R) = some b → cs_k S46 b = 9) ∧ ∀ S52, S52 = cs_uar S46 b50 (cs_i S46 601 (cx 0)).toNatClampNeg (some R) → cs_k S52 (cx 0) = 7 ∧ ∀ S54, S54 = cs_ui S52 601 (cx 0) ((cs_i S52 601 (cx 0)) + 1) → w_X5_readRule_154 post G mc ms S54 (u + 1) (v + 128)) G 1 128 S42 0 0 (some R) (nI nb) := by
      intro nb hnb
      have hn1 : nb < 2 ^ 31 := by omega
      refine ⟨by omega, by omega, by rcases hnb with e | e <;> rw [e] <;> decide, by rw [nI_clamp hn1]; omega, by omega, by rw [nI_clamp hn1]; omega, fun q6 hq6 S7 e7 => ⟨R, rfl, ?_, fun S10 e10 => ?_⟩⟩
      · rw [e7, knewA, if_neg (fun e => by rw [e, hq6] at k1; omega)]; exact k1
      rw [nI_clamp hn1] at e7
      obtain ⟨⟨L, tr, ut, hfin⟩, hG⟩ := h42.fin (hX.on (hs.trans (σ2 := rf_ui σ' 34 (nI (nr + 1))) ⟨fun _ _ _ _ => rfl, fun _ _ _ _ => rfl⟩)) j42 hbk hc (by show σ'.2.2.1 44 _ = _ ∧ _; rw [er]; exact hw) (by show σ'.2.2.1 45 _ = _ ∧ _; rw [er]; exact hq) v10 v11 hnb hq6
      have hQ0 : fX (fun s f a => s = 2 ∧ f = 816 ∧ a = R) S42 S10 := by
        rw [e10, e7]
        exact (fX.rfl.newA hq6).ur (Or.inl ⟨rfl, rfl, rfl⟩)
      have p10 : pA G cx bf z c nr ra nm (i + 1) S10 := p42.fx hQ0 (fun s f a e => rEx.ok hm.2.2.2.1 hm.2.2.2.2.1 hm.2.2.2.2.2.1 hm.2.2.2.2.2.2.1 (Or.inl e.2.2))
      have kR : cs_k S10 R = 9 := (hQ0 R (by omega)).1.trans k1
      have lR : cs_l S10 801 R = na := ((hQ0 R (by omega)).2.2.2.1 801 (fun e => absurd e.1 (by decide))).trans ((k3 _).trans hj.1.2.2.2.2.2.2.2)
      refine ⟨p10.1.1.1, fun r49 e49 => ⟨cx 6, e49.trans p10.1.1.2.2.1, p10.1.2.2.2.2.2.2.1.1, ?_, fun b eb => by rw [← Option.some.inj eb]; exact kR, fun S52 e52 => ⟨by rw [e52]; exact p10.1.1.1, fun S54 e54 => ⟨by omega, by omega, ?_⟩⟩⟩⟩
      · rw [p10.1.1.2.2.2, p10.1.2.2.2.2.2.2.1.2]; exact nI_in (by omega) (by decide)
      rw [p10.1.1.2.2.2, nI_clamp (by omega)] at e52
      have e601 : cs_i S52 601 (cx 0) = nI nr := by rw [e52]; exact p10.1.1.2.2.2
      rw [e601, nI_1, e52] at e54
      have hP := p10.1.put kR lR
      rw [← e54] at hP
      refine hp S54 ⟨hP, by omega, ?_, ?_, ?_⟩ ?_ ⟨q6, wt, nb, x, k, n, w, q, L, tr, ut, ?_⟩
      · rw [e54, iui, if_neg (fun e => absurd e.1 (by decide))]; exact p10.2.2.1
      · rw [e54, iui, if_neg (fun e => absurd e.1 (by decide))]; exact p10.2.2.2.1
      · rw [e54, iui, if_neg (fun e => absurd e.1 (by decide))]; exact p10.2.2.2.2
      · rw [e54, e10, e7]; exact hG
      · rw [e54, e10, e7]; exact hfin
    refine ⟨R, rfl, k1, 1, 128, by omega, by omega, k1, fun _ => ⟨by omega, by omega, key 128 (Or.inr rfl)⟩, fun _ => ⟨fun _ => ⟨by omega, by omega, key 128 (Or.inr rfl)⟩, fun _ => key 1 (Or.inl rfl)⟩⟩
  · refine ⟨0, rB σ (fk2 bf z i) (fpl bf z i), 0, 0, rB.f.gf, fun Q hQ => m2 e9 _ ⟨fun q => absurd rfl q, fun _ => hQ⟩, Or.inr ⟨fk2 bf z i, fpl bf z i, rfl, rB.d fk2_0, by omega, by omega, ?_⟩⟩
    rintro S0 S R post ⟨ca, by0, wt, vi, vl, un, ce, be, hm, hj, v10, v11⟩ hp mc ms u v hu hv
    exact ⟨by omega, by omega, hm.1.1.1.1, c_skip (x := 9) ht hm.1 (by decide) (by decide) (fun q => absurd q e9) (fun _ S42 p42 f42 => ⟨p42.1.1.1, fun _ => ⟨by omega, by omega, hp S42 p42 (hm.2.1.trans f42)⟩, fun q => absurd (p42.2.2.2.1.symm.trans q) p42.2.2.1⟩)⟩
end T2S
