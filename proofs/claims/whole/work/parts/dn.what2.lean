/-! ===== a rule read: the parts of what ===== -/
section WH2
variable {G cx : Nat → Nat} {bf : Nat → Nat} {z c bk nr i i' cn cn' x k R ca by0 wt : Nat} {ra : Nat → Nat} {nm : Nat → Int64} {na : Int64} {σ σ' : rf_S} {S S' S0 : cs_S} {vi : Nat → Int32} {vl : Nat → Int64} {un : Option Nat} {ce : Nat → Option Nat} {be : Nat → Int64} {fk fp : Int32}
/-- the end of it -/
theorem WE (h : rA bf z bk nr nm i cn σ) (hi : i ≤ c) (hX : rWx σ (12 * bk + nr) x k 0) {RW : (Int32 → rf_S → Prop) → Prop} (hR : ∀ Q : Int32 → rf_S → Prop, Q 1 σ → RW Q) : OUTW G cx bf z c bk nr ra nm na i cn σ RW (stR G cx bf z c bk nr ra nm na i cn x k 0 σ) (fun post mc ms u v S R => w_X5_readWhat_248 post G mc ms S u v) :=
  ⟨1, σ, 0, 0, gF.rfl, hR, Or.inl ⟨rfl, i, cn, x, k, Nat.le_refl _, hi, Nat.le_refl _, h, hX, ⟨rfl, rfl⟩, by omega, by omega, fun S0 S R post hs hp mc ms u v hu hv => ⟨by omega, by omega, hp S hs⟩⟩⟩
/-- the end of it behind a fault -/
theorem d_cadd (h : dM G cx bf z c nr ra nm S0 R fk fp S) {mc ms : Nat} (hm : 2 ≤ mc) (hn : 14 ≤ ms) {P : cs_S → Prop} (hp : ∀ S1, dM G cx bf z c nr ra nm S0 R fk fp S1 → P S1) {P' : Option Nat → cs_S → Prop} (hP : ∀ r61 S61, cs_k S61 R = 9 → wp_X7_addCond P G S61 R r61 → P' r61 S61) : wp_X5_readCond 60 P' G mc ms S (cx 0) 0 :=
  d_cond h.1 hm hn (fun S1 a p1 f1 k3 => hP _ _ (h.pe p1 f1).k9 (d_addc (h.pe p1 f1) (fun b eb => by rw [← Option.some.inj eb]; exact k3) hp))
theorem d_107 (h : dM G cx bf z c nr ra nm S0 R fk fp S) {post : cs_S → Prop} {mc ms u v : Nat} (hu : u + 2 ≤ mc) (hv : v + 14 ≤ ms) (hp : ∀ S1, dM G cx bf z c nr ra nm S0 R fk fp S1 → post S1) : w_X5_readWhat_107 post G mc ms S u v (cx 0) (some R) :=
  ⟨by omega, by omega, h.k7, d_skip (x := 25) h.1 (by decide) (by decide) ⟨h.k7, 2, 14, hu, hv, 60, by decide, d_cadd h (by omega) (by omega) (P := fun S64 => w_X5_readWhat_248 post G mc ms S64 (u + 2) (v + 14)) (fun S1 h1 => ⟨by omega, by omega, hp S1 h1⟩) (fun r61 S61 k9 ha => ⟨R, rfl, k9, ha⟩)⟩⟩
/-- of, and the condition -/
theorem W136 (ht : tC bf z c) (h : rA bf z bk nr nm i cn σ) (hi : i ≤ c) (hnr : nr < 12) (hx : x ≤ 2) (h38 : σ.2.2.1 38 (12 * bk + nr) = nI x) (h39 : (x = 0 ∨ x = 1) → ∃ L, 1 ≤ L ∧ L ≤ 1000 ∧ σ.2.2.1 39 (12 * bk + nr) = nI L) (h40 : σ.2.2.1 40 (12 * bk + nr) = nI 0) (h43 : σ.2.2.1 43 (12 * bk + nr) = nI 0) : OUTW G cx bf z c bk nr ra nm na i cn σ (fun Q => w_X12_readWhat_136 Q σ (nI (12 * bk + nr))) (stR G cx bf z c bk nr ra nm na i cn x 0 0 σ) (fun post mc ms u v S R => w_X5_readWhat_107 post G mc ms S u v (cx 0) (some R)) := by
  have hbk := h.2.2.1.2.2
  have hz := ht.1
  have hle := ht.le i hi
  have hc : cn ≤ 1100 := by have := h.2.2.2.2.1.2.1; omega
  obtain ⟨m1, m2⟩ := r_must (w := 5) ht h hi (by decide)
  by_cases e25 : kt bf z i = 25
  · have hlt := ht.lt hi (by omega)
    have hone := ht.one hlt
    obtain ⟨σ1, g1, g2, g3⟩ := m1 e25
    have er : σ1.2.2 = σ.2.2 := g1.2.2
    have p1 : pF bk cn σ σ1 := g1.pf
    refine OUTW.pre 0 0 (WC (x := x) (k := 0) ht g2 (by omega) hnr (by decide) (by rw [er]; exact h40) (RW := fun Q => wp_X12_readCond (fun r30 σ30 => (r30 = 0 → w_X12_readWhat_156 Q σ30) ∧ (¬ r30 = 0 → w_X12_readWhat_157 Q σ30 1)) σ1 (nI (12 * bk + nr))) (RWf := fun σ2 Q => Q 1 σ2) (CWp := fun post mc ms u v S R => cs_k S (cx 0) = 7 ∧ ∃ m61 n61, u + m61 ≤ mc ∧ v + n61 ≤ ms ∧ ∃ d9, d9 ≤ 60 ∧ wp_X5_readCond d9 (fun r61 S61 => ∃ b63, some R = some b63 ∧ cs_k S61 b63 = 9 ∧ wp_X7_addCond (fun S64 => w_X5_readWhat_248 post G mc ms S64 (u + m61) (v + n61)) G S61 b63 r61) G m61 n61 S (cx 0) 0) (CWp' := fun post mc ms u v S R => w_X5_readWhat_248 post G mc ms S u v)
      (fun i1 cn1 σ2 q1 q2 q3 q4 q5 q6 q7 q8 => WE q4 q2 ⟨⟨?_, by omega⟩, ⟨q8, by omega, by omega, fun _ => rfl, fun w => by omega⟩, ⟨?_, by omega⟩, ?_, fun a b ha => absurd ha (Nat.not_lt_zero _)⟩ (fun Q hQ => hQ))
      (fun Q σ2 hQ hr => hr _ ⟨fun w => absurd w (by decide), fun _ => ⟨rfl, hQ⟩⟩) (fun Q σ2 hQ hr => hr _ ⟨fun _ => ⟨rfl, hQ⟩, fun w => absurd rfl w⟩)
      (fun S0 S R post mc ms u v m n hs hu hv hrc => ⟨by obtain ⟨ca, by0, wt, vi, vl, un, ce, be, hm, -⟩ := hs; exact hm.1.1.1.1, m, n, hu, hv, 60, by decide, hrc _ (fun r61 S61 k9 ha => ⟨R, rfl, k9, ha⟩)⟩)
      (fun S0 S R fk fp post mc ms u v hd hu hv hp => ⟨by omega, by omega, hp S hd⟩)) p1.gf (Nat.le_refl _) (by omega) ⟨by rw [er], by rw [er]⟩ (by omega) (by omega) (fun Q hQ => g3 _ ⟨fun q => absurd q (by decide), fun _ => hQ⟩) ?_
    · rw [q6 38 _ (by decide) (by decide) (by decide) (by decide), er]; exact h38
    · rw [q6 43 _ (by decide) (by decide) (by decide) (by decide), er]; exact h43
    · intro w; rw [q6 39 _ (by decide) (by decide) (by decide) (by decide), er]; exact h39 w
    · rintro S0 S R post mc ms u v ⟨ca, by0, wt, vi, vl, un, ce, be, hm, hj, v11⟩ hu hv hp
      refine ⟨by omega, by omega, hm.1.1.1.1, c_skip (x := 25) ht hm.1 (by decide) (by decide) (fun _ S59 p59 f59 => hp S59 ⟨ca, by0, wt, vi, vl, un, ce, be, hm.pe p59 f59, hj.on p1.sk (Nat.le_refl _) (prS.of h hc p1) f59 (pE.e3 hm.1.1.1.1), v11⟩) (fun q => absurd e25 q)⟩
  · refine ⟨0, rB σ (fk2 bf z i) (fpl bf z i), 2, 14, rB.f.gf, fun Q hQ => m2 e25 _ ⟨fun _ => ⟨rfl, hQ⟩, fun q => absurd rfl q⟩, Or.inr ⟨fk2 bf z i, fpl bf z i, rfl, rB.d fk2_0, by omega, by omega, ?_⟩⟩
    rintro S0 S R post ⟨ca, by0, wt, vi, vl, un, ce, be, hm, hj, v11⟩ hp mc ms u v hu hv
    refine ⟨by omega, by omega, hm.1.1.1.1, c_skip (x := 25) ht hm.1 (by decide) (by decide) (fun q => absurd q e25) (fun _ S59 p59 f59 => ?_)⟩
    have h59 := hm.dd p59 f59 (Nat.zero_le 5) hj.1.2.2.2.1 (Nat.zero_le 3) hj.1.2.2.2.2.1
    exact ⟨h59.k7, 2, 14, hu, hv, 60, by decide, d_cadd h59 (by omega) (by omega) (P := fun S64 => w_X5_readWhat_248 post G mc ms S64 (u + 2) (v + 14)) (fun S1 h1 => ⟨by omega, by omega, hp S1 h1⟩) (fun r61 S61 k9 ha => ⟨R, rfl, k9, ha⟩)⟩
/-- unless, or the end -/
theorem WU (ht : tC bf z c) (h : rA bf z bk nr nm i cn σ) (hi : i ≤ c) (hnr : nr < 12) (hX : rWx σ (12 * bk + nr) 3 k 0) (n29 : ¬ kt bf z i = 29) : OUTW G cx bf z c bk nr ra nm na i cn σ (fun Q => wp_X12_isWord (fun r39 σ39 => (¬ r39 = 0 → wp_X12_next (fun σ40 => ∃ d9, d9 ≤ 60 ∧ wp_X12_anyOf d9 (fun r41 σ41 => vp_in (nI (12 * bk + nr)) (rf_n 42) ∧ vp_in (nI (12 * bk + nr)) (rf_n 42) ∧ (((rf_ua σ41 42 (nI (12 * bk + nr)).toNatClampNeg r41).2.2.1 42 (nI (12 * bk + nr)).toNatClampNeg) < 0 → w_X12_readWhat_331 Q (rf_ua σ41 42 (nI (12 * bk + nr)).toNatClampNeg r41) 0) ∧ (¬ ((rf_ua σ41 42 (nI (12 * bk + nr)).toNatClampNeg r41).2.2.1 42 (nI (12 * bk + nr)).toNatClampNeg) < 0 → w_X12_readWhat_331 Q (rf_ua σ41 42 (nI (12 * bk + nr)).toNatClampNeg r41) 1)) (rf_ui σ40 61 0)) σ39) ∧ (r39 = 0 → Q 1 σ39)) σ 10) (stR G cx bf z c bk nr ra nm na i cn 3 k 0 σ) (fun post mc ms u v S R => w_X5_readWhat_173 post G mc ms S u v (cx 0) (some R)) := by
  have hbk := h.2.2.1.2.2
  have hz := ht.1
  have hle := ht.le i hi
  have hK9 := ht.K39 hi
  have hc : cn ≤ 1100 := by have := h.2.2.2.2.1.2.1; omega
  have eC : (nI (12 * bk + nr)).toNatClampNeg = 12 * bk + nr := nI_clamp (by omega)
  have i42 : vp_in (nI (12 * bk + nr)) (rf_n 42) := nI_in (N := 24) (by omega) (by decide)
  have c29 : ∀ {S}, pA G cx bf z c nr ra nm i S → ¬ cs_i S 606 (cx 0) = 29 := fun hA q => n29 ((nI_eq (b := 29) (by omega) (by decide)).mp (hA.2.2.2.2.symm.trans q))
  by_cases e30 : kt bf z i = 30
  · have hlt := ht.lt hi (by omega)
    have hone := ht.one hlt
    obtain ⟨σ1, g1, g2, g3⟩ := r_nx ht h hlt
    have er : σ1.2.2 = σ.2.2 := g1.2.2
    have p1 : pF bk cn σ σ1 := g1.pf
    obtain ⟨r, σ2, m, n, hF0, href, hcase⟩ := TOPC (G := G) (cx := cx) (ra := ra) ht g2 (by omega)
    have hF : pF bk cn σ σ2 := p1.trans ((pF.rfl.ui (by omega)).trans hF0 (Nat.le_refl _)) (Nat.le_refl _)
    have ref : ∀ {Q : Int32 → rf_S → Prop}, ((r < 0 → w_X12_readWhat_331 Q (rf_ua σ2 42 (12 * bk + nr) r) 0) ∧ (¬ r < 0 → w_X12_readWhat_331 Q (rf_ua σ2 42 (12 * bk + nr) r) 1)) → wp_X12_isWord (fun r39 σ39 => (¬ r39 = 0 → wp_X12_next (fun σ40 => ∃ d9, d9 ≤ 60 ∧ wp_X12_anyOf d9 (fun r41 σ41 => vp_in (nI (12 * bk + nr)) (rf_n 42) ∧ vp_in (nI (12 * bk + nr)) (rf_n 42) ∧ (((rf_ua σ41 42 (nI (12 * bk + nr)).toNatClampNeg r41).2.2.1 42 (nI (12 * bk + nr)).toNatClampNeg) < 0 → w_X12_readWhat_331 Q (rf_ua σ41 42 (nI (12 * bk + nr)).toNatClampNeg r41) 0) ∧ (¬ ((rf_ua σ41 42 (nI (12 * bk + nr)).toNatClampNeg r41).2.2.1 42 (nI (12 * bk + nr)).toNatClampNeg) < 0 → w_X12_readWhat_331 Q (rf_ua σ41 42 (nI (12 * bk + nr)).toNatClampNeg r41) 1)) (rf_ui σ40 61 0)) σ39) ∧ (r39 = 0 → Q 1 σ39)) σ 10 := fun {Q} hq => r_isw (w := 10) ht h hi (by decide) (fun _ => ⟨fun _ => g3 _ ⟨60, by decide, href _ ⟨i42, i42, by rw [eC, r3ua, if_pos ⟨rfl, rfl⟩]; exact hq⟩⟩, fun q => absurd q (by decide)⟩) (fun q => absurd e30 q)
    rcases hcase with ⟨i1, cn1, nd, e, hi1, hic, ⟨hcn, hq⟩, hA1, h61, hin, hm, hn, cls⟩ | ⟨fk, fp, e, hDf, hm, hn, cls⟩
    · have hle1 := ht.le i1 hic
      have hc1 : cn1 ≤ 1100 := by have := hA1.2.2.2.2.1.2.1; omega
      have hnd : nd < 2200 := by have := hin.2; omega
      have hG : gF bk nr cn σ (rf_ua σ2 42 (12 * bk + nr) (nI nd)) := hF.gf.ua hnr (Or.inl ⟨by omega, by omega, by omega, rfl⟩)
      have hG1 : gF bk nr cn1 σ2 (rf_ua σ2 42 (12 * bk + nr) (nI nd)) := gF.rfl.ua hnr (Or.inl ⟨by omega, by omega, by omega, rfl⟩)
      have hA2 : rA bf z bk nr nm i1 cn1 (rf_ua σ2 42 (12 * bk + nr) (nI nd)) := hA1.r44 (by omega)
      have orow : ∀ kk j, 36 ≤ kk → kk ≤ 45 → kk ≠ 42 → (rf_ua σ2 42 (12 * bk + nr) (nI nd)).2.2.1 kk j = σ.2.2.1 kk j := fun kk j h1 h2 h3 => by rw [r3ua, if_neg (by omega), hF.2.2.1 kk _ (by omega)]
      have olng : ∀ kk j, 35 ≤ kk → kk ≤ 37 → (rf_ua σ2 42 (12 * bk + nr) (nI nd)).2.2.2 kk j = σ.2.2.2 kk j := fun kk j h1 h2 => hF.2.2.2 kk j (by omega)
      have e42 : (rf_ua σ2 42 (12 * bk + nr) (nI nd)).2.2.1 42 (12 * bk + nr) = nI nd := by rw [r3ua, if_pos ⟨rfl, rfl⟩]
      refine ⟨1, rf_ua σ2 42 (12 * bk + nr) (nI nd), m, n, hG, fun Q hQ => ref ⟨fun q => ?_, fun _ => ?_⟩, Or.inl ⟨rfl, i1, cn1, 3, k, by omega, hic, hcn, hA2, ?_, ⟨olng 35 _ (by decide) (by decide), orow 45 _ (by decide) (by decide) (by decide)⟩, by omega, by omega, ?_⟩⟩
      · rw [e] at q; exact absurd (nI_pos' (by omega)) (Int32.not_le.mpr q)
      · rw [e]; exact ⟨rfl, hQ⟩
      · obtain ⟨y1, y2, y3, y4, y5⟩ := hX
        exact ⟨by rw [orow 38 _ (by decide) (by decide) (by decide)]; exact y1, by rw [orow 40 _ (by decide) (by decide) (by decide)]; exact y2, by rw [orow 43 _ (by decide) (by decide) (by decide)]; exact y3, by rw [orow 39 _ (by decide) (by decide) (by decide)]; exact y4, fun a b ha => absurd ha (Nat.not_lt_zero _)⟩
      rintro S0 S R post ⟨ca, by0, wt, vi, vl, un, ce, be, hmk, hj, v11⟩ hp mc ms u v hu hv
      have e30' : cs_i S 606 (cx 0) = 30 := by rw [hmk.1.2.2.2.2, e30]; rfl
      refine ⟨by omega, by omega, hmk.1.1.1.1, fun _ => ⟨by omega, by omega, hmk.1.1.1.1, fun q => absurd e30' q, fun _ => c_step ht hmk.1 hlt (fun S79 p79 f79 => ⟨p79.1.1.1, m, n, hu, hv, 60, by decide, cls S79 _ p79 (fun S1 a t q1 q2 ka k3 r206 hcN hrR hcLv hrLv => ?_)⟩)⟩, fun q => absurd q (c29 hmk.1)⟩
      have f1 := f79.trans q2
      have h1 := hmk.pe q1 f1
      refine ⟨R, rfl, h1.2.2.1.1.1, fun S84 e84 => ⟨by omega, by omega, ?_⟩⟩
      rw [e84]
      have hFw : fX (fun _ _ a => rEx R ca by0 a) S1 (cs_ur S1 807 R (some a)) := fX.rfl.ur (Or.inl (Or.inl rfl))
      refine hp _ ⟨ca, by0, wt, vi, vl, _, ce, be, h1.wr hFw h1.2.2.1.ur, ?_, v11⟩
      have hP2 := prS.gf h hc hG
      obtain ⟨⟨j1, j2, j3, j4, j5, j6, j7, j8⟩, ⟨tr, ut, jc, ju, jn⟩, jf, jb⟩ := hj
      refine ⟨⟨j1, j2, j3, j4, j5, j6, by rw [orow 39 _ (by decide) (by decide) (by decide)]; exact j7, j8⟩, ⟨tr, some t, ?_, ?_, fun w => absurd rfl w⟩, fun e => by omega, fun j hj => absurd hj (Nat.not_lt_zero _)⟩
      · exact (jc.on hcn hP2 (fun c hck => orow 41 _ (by decide) (by decide) (by decide)) f1 (pE.e3 hmk.1.1.1.1)).on (Nat.le_refl _) prS.rfl' (fun _ _ => rfl) hFw (rEx.e3 h1.2.2.1)
      · obtain ⟨w1, w2, w3⟩ := prS.gf hA1 hc1 hG1 14 nd t hin hrLv hrR
        exact Or.inr ⟨t, nd, a, rfl, rfl, e42, hin, w1, w2, cR.fx hFw (fun s f y q => (rEx.e3 h1.2.2.1 s f y q).1) _ _ _ hcN.cr, cLv.fx hFw (fun s f y q => ⟨(rEx.e3 h1.2.2.1 s f y q).2.1, (rEx.e3 h1.2.2.1 s f y q).2.2, fun w => absurd w (rEx.e3 h1.2.2.1 s f y q).1⟩) _ _ (w3 S1 hcLv)⟩
    · have hG : gF bk nr cn σ (rf_ua σ2 42 (12 * bk + nr) r) := hF.gf.ua hnr (Or.inl ⟨by omega, by omega, by omega, rfl⟩)
      refine ⟨0, rf_ua σ2 42 (12 * bk + nr) r, m, n, hG, fun Q hQ => ref ⟨fun _ => ⟨rfl, hQ⟩, fun q => absurd (by rw [e]; decide) q⟩, Or.inr ⟨fk, fp, rfl, hDf, by omega, by omega, ?_⟩⟩
      rintro S0 S R post ⟨ca, by0, wt, vi, vl, un, ce, be, hmk, hj, v11⟩ hp mc ms u v hu hv
      have e30' : cs_i S 606 (cx 0) = 30 := by rw [hmk.1.2.2.2.2, e30]; rfl
      refine ⟨by omega, by omega, hmk.1.1.1.1, fun _ => ⟨by omega, by omega, hmk.1.1.1.1, fun q => absurd e30' q, fun _ => c_step ht hmk.1 hlt (fun S79 p79 f79 => ⟨p79.1.1.1, m, n, hu, hv, 60, by decide, cls S79 _ p79 (fun S1 o q1 q2 ho => ?_)⟩)⟩, fun q => absurd q (c29 hmk.1)⟩
      have h1 := hmk.dd q1 (f79.trans q2) hX.2.1.2.2.1 hj.1.2.2.2.1 (Nat.zero_le 3) hj.1.2.2.2.2.1
      refine ⟨R, rfl, h1.k9, fun S84 e84 => ⟨by omega, by omega, ?_⟩⟩
      rw [e84]
      exact hp _ h1.ur
  · refine OUTW.pre 0 0 (WE h hi hX (RW := fun Q => Q 1 σ) (fun Q hQ => hQ)) gF.rfl (Nat.le_refl _) (Nat.le_refl _) ⟨rfl, rfl⟩ (by omega) (by omega) (fun Q hQ => r_isw (w := 10) ht h hi (by decide) (fun q => absurd q e30) (fun _ => ⟨fun q => absurd rfl q, fun _ => hQ⟩)) ?_
    intro S0 S R post mc ms u v hs hu hv hp
    obtain ⟨ca, by0, wt, vi, vl, un, ce, be, hmk, hj, v11⟩ := id hs
    refine ⟨by omega, by omega, hmk.1.1.1.1, fun _ => ⟨by omega, by omega, hmk.1.1.1.1, fun _ => hp S hs, fun q => ?_⟩, fun q => absurd q (c29 hmk.1)⟩
    exact absurd ((nI_eq (b := 30) (by omega) (by decide)).mp (hmk.1.2.2.2.2.symm.trans q)) e30
end WH2
