/-! ===== a rule read: within, quiet ===== -/
section T19
variable {G cx : Nat → Nat} {bf : Nat → Nat} {z c bk nr i i' cn cn' b x k n R ca by0 wt : Nat} {ra : Nat → Nat} {nm : Nat → Int64} {na : Int64} {σ σ' : rf_S} {S S' S0 : cs_S} {vi : Nat → Int32} {vl : Nat → Int64} {un : Option Nat} {ce : Nat → Option Nat} {be : Nat → Int64} {fk fp : Int32}
theorem OUTR.pre {RW RW' : (Int32 → rf_S → Prop) → Prop} {st st' : cs_S → cs_S → Nat → Prop} {CWp CWp' : (cs_S → Prop) → Nat → Nat → Nat → Nat → cs_S → Nat → Prop} (m0 n0 : Nat) (h : OUTR G cx bf z c bk nr ra nm na i' cn' σ' RW' st' CWp') (hg : gF bk nr cn σ σ') (hc : cn ≤ cn') (hi : i ≤ i') (hm : m0 + 10 * qp bf z i ≤ 10 * qp bf z i') (hn : n0 + 200 * qp bf z i ≤ 200 * qp bf z i') (hR : ∀ Q, RW' Q → RW Q)
    (hC : ∀ S0 S R post mc ms u v, st S0 S R → u + m0 ≤ mc → v + n0 ≤ ms → (∀ S', st' S0 S' R → CWp' post mc ms (u + m0) (v + n0) S' R) → CWp post mc ms u v S R) : OUTR G cx bf z c bk nr ra nm na i cn σ RW st CWp := by
  obtain ⟨r, σ1, m, n, g1, g2, g3⟩ := h
  refine ⟨r, σ1, m0 + m, n0 + n, hg.trans g1 hc, fun Q hQ => hR Q (g2 Q hQ), ?_⟩
  rcases g3 with ⟨e, i1, cn1, a1, a2, a3, a4, a5, a6, a7⟩ | ⟨fk, fp, e, a1, a5, a6, a7⟩
  · exact Or.inl ⟨e, i1, cn1, by omega, a2, by omega, a4, by omega, by omega, fun S0 S R post hs hp mc ms u v hu hv => hC S0 S R post mc ms u v hs (by omega) (by omega) (fun S' hs' => a7 S0 S' R post hs' hp mc ms _ _ (by omega) (by omega))⟩
  · exact Or.inr ⟨fk, fp, e, a1, by omega, by omega, fun S0 S R post hs hp mc ms u v hu hv => hC S0 S R post mc ms u v hs (by omega) (by omega) (fun S' hs' => a7 S0 S' R post hs' hp mc ms _ _ (by omega) (by omega))⟩
theorem rA.r44 {kk : Nat} {y : Int32} (h : rA bf z bk nr nm i cn σ) (hk : 36 ≤ kk ∧ kk ≤ 45) {j : Nat} : rA bf z bk nr nm i cn (rf_ua σ kk j y) := h.row rfl rfl (fun k j' hk' => by rw [r3ua, if_neg (by omega)]) (fun _ _ _ _ => rfl)
theorem mK.u (h : mK G cx bf z c nr ra nm S0 R ca by0 wt i vi vl un ce be S) {f : Nat} {y : Int32} : mK G cx bf z c nr ra nm S0 R ca by0 wt i (up vi f y) vl un ce be (cs_ui S f R y) := h.wr (fX.rfl.ui (Or.inl (Or.inl rfl))) h.2.2.1.ui
theorem cJ.u (h : cJ S σ bk nr cn x k n na vi vl un ce be) (hm : cs_k S R = 9) {f : Nat} {y : Int32} (hf : f = 810 ∨ f = 811) : cJ (cs_ui S f R y) σ bk nr cn x k n na (up vi f y) vl un ce be := (h.on sK.rfl' (Nat.le_refl _) prS.rfl' (E9 := fun _ _ a => a = R) (fX.rfl.ui (Or.inl rfl)) (fun s f a e => by rw [e, hm]; decide)).vv (fun g h1 h2 => up_o (by omega))
/-- quiet -/
theorem T_qu {w : Nat} (ht : tC bf z c) (h : rA bf z bk nr nm i cn σ) (hi : i ≤ c) (hnr : nr < 12) (hX : rWx σ (12 * bk + nr) x k n) (hna : ∃ n l, n ≤ 8 ∧ wdR n na (σ.2.2.2 35 (12 * bk + nr)) l) (hw : σ.2.2.1 44 (12 * bk + nr) = nI w ∧ 1 ≤ w ∧ w ≤ 1000000) (h45 : σ.2.2.1 45 (12 * bk + nr) = 0) : OUTR G cx bf z c bk nr ra nm na i cn σ (fun Q => wp_X12_isWord (fun r21 σ21 => (r21 = 0 → w_X12_rule_259 Q σ21) ∧ (¬ r21 = 0 → wp_X12_next (fun σ22 => wp_X12_mustNumber (fun r23 σ23 => (¬ r23 = 0 → vp_in (nI (12 * bk + nr)) (rf_n 45) ∧ w_X12_rule_259 Q (rf_ua σ23 45 (nI (12 * bk + nr)).toNatClampNeg (σ23.1 60))) ∧ (r23 = 0 → Q 0 σ23)) σ22 0 1000000) σ21)) σ 3) (fun S0 S R => ∃ ca by0 wt vi vl un ce be, mK G cx bf z c nr ra nm S0 R ca by0 wt i vi vl un ce be S ∧ cJ S σ bk nr cn x k n na vi vl un ce be ∧ vi 810 = nI w ∧ vi 811 = 0)
    (fun post mc ms u v S R => cs_k S (cx 0) = 7 ∧ (¬ (cs_i S 606 (cx 0)) = 23 → w_X5_readRule_117 post G mc ms S u v (cx 0) (some R)) ∧ ((cs_i S 606 (cx 0)) = 23 → wp_X5_step (fun S63 => cs_k S63 (cx 0) = 7 ∧ wp_X5_readNumber (fun r64 S64 => cs_k S64 R = 9 ∧ ∀ S67, S67 = cs_ui S64 811 R r64 → w_X5_readRule_117 post G mc ms S67 u v (cx 0) (some R)) G S63 (cx 0) 0 1000000) G S (cx 0))) := by
  have hbk := h.2.2.1.2.2
  have hz := ht.1
  have hle := ht.le i hi
  have hK9 := ht.K39 hi
  have hc : cn ≤ 1100 := by have := h.2.2.2.2.1.2.1; omega
  have eC : (nI (12 * bk + nr)).toNatClampNeg = 12 * bk + nr := nI_clamp (by omega)
  by_cases e23 : kt bf z i = 23
  · have hlt := ht.lt hi (by omega)
    have hone := ht.one hlt
    obtain ⟨σ4, g1, g2, g3⟩ := r_nx ht h hlt
    have p1 : pF bk cn σ σ4 := g1.pf
    obtain ⟨n1, n2⟩ := r_num2 (x := 0) (y := 1000000) ht g2 (by omega)
    by_cases ok : okN bf z (i + 1) 0 1000000
    · obtain ⟨σ5, q1, q2, q3, q4, q5, q6⟩ := n1 ok
      have hlt2 := ht.lt (i := i + 1) (by omega) (by have := ok.1; omega)
      have hone2 := ht.one hlt2
      obtain ⟨q, w1, w2, w3⟩ := i32n (a := 0) (b := 1000000) ok.2.1 ok.2.2 (by decide) (by decide)
      have pF5 : pF bk cn σ σ5 := p1.trans q1 (Nat.le_refl _)
      have hG : gF bk nr cn σ (rf_ua σ5 45 (12 * bk + nr) (nI q)) := pF5.gf.ua hnr (Or.inl ⟨by omega, by omega, by omega, rfl⟩)
      have hs : sK σ (rf_ua σ5 45 (12 * bk + nr) (nI q)) := pF5.sk.trans (sK.ua (Or.inr rfl))
      refine OUTR.pre 0 0 (T259 (w := w) (q := q) ht (q3.r44 (kk := 45) (j := 12 * bk + nr) (y := nI q) (by omega)) (by omega) hnr (hX.on hs) (by rw [hs.2 35 _ (by decide) (by decide)]; exact hna) ⟨?_, hw.2⟩ ⟨?_, by omega⟩) hG (Nat.le_refl _) (by omega) (by omega) (by omega) (fun Q hQ => ?_) ?_
      · rw [r3ua, if_neg (by omega), pF5.2.2.1 44 _ (by omega)]; exact hw.1
      · rw [r3ua, if_pos ⟨rfl, rfl⟩]
      · refine r_isw (w := 3) ht h hi (by decide) (fun _ => ⟨fun q => absurd q (by decide), fun _ => g3 _ (q6 _ ⟨fun _ => ⟨nI_in (N := 24) (by omega) (by decide), ?_⟩, fun q => absurd q (by decide)⟩)⟩) (fun q => absurd e23 q)
        rw [eC, q4, w3]; exact hQ
      · rintro S0 S R post mc ms u v ⟨ca, by0, wt, vi, vl, un, ce, be, hm, hj, v10, v11⟩ hu hv hp
        refine ⟨hm.1.1.1.1, fun q => absurd (by rw [hm.1.2.2.2.2, e23]; rfl) q, fun _ => c_step ht hm.1 hlt (fun S63 p63 f63 => ⟨p63.1.1.1, c_num2 ht p63 (fun _ S64 p64 f64 => ?_) (fun q => absurd ok q)⟩)⟩
        have h64 := hm.pe p64 (f63.trans f64)
        refine ⟨h64.2.2.1.1.1, fun S67 e67 => ?_⟩
        rw [e67, w3]
        refine hp _ ⟨ca, by0, wt, _, vl, un, ce, be, h64.u, ?_, ?_, up_s⟩
        · exact (hj.on (cn' := cn) hs (Nat.le_refl _) (prS.gf h hc hG) (f63.trans f64) (pE.e3 hm.1.1.1.1)).u h64.2.2.1.1.1 (Or.inr rfl)
        · rw [up_o (by decide)]; exact v10
    · have pB : pF bk cn σ (rB σ4 (bdN bf z (i + 1)) (fpl bf z (i + 1))) := p1.trans rB.f (Nat.le_refl _)
      have hle2 := ht.le (i + 1) (by omega)
      refine ⟨0, rB σ4 (bdN bf z (i + 1)) (fpl bf z (i + 1)), 0, 0, pB.gf, fun Q hQ => r_isw (w := 3) ht h hi (by decide) (fun _ => ⟨fun q => absurd q (by decide), fun _ => g3 _ (n2 ok _ ⟨fun q => absurd rfl q, fun _ => hQ⟩)⟩) (fun q => absurd e23 q), Or.inr ⟨bdN bf z (i + 1), fpl bf z (i + 1), rfl, rB.d bdN_0, by omega, by omega, ?_⟩⟩
      rintro S0 S R post ⟨ca, by0, wt, vi, vl, un, ce, be, hm, hj, v10, v11⟩ hp mc ms u v hu hv
      refine ⟨hm.1.1.1.1, fun q => absurd (by rw [hm.1.2.2.2.2, e23]; rfl) q, fun _ => c_step ht hm.1 hlt (fun S63 p63 f63 => ⟨p63.1.1.1, c_num2 ht p63 (fun q => absurd q ok) (fun _ S64 p64 f64 => ?_)⟩)⟩
      have h64 := hm.dd p64 (f63.trans f64) hX.2.1.2.2.1 hj.1.2.2.2.1 hX.2.2.1.2 hj.1.2.2.2.2.1
      refine ⟨h64.k9, fun S67 e67 => ?_⟩
      rw [e67]
      exact d_117 (h64.ui (by decide)) (by omega) (by omega) hp
  · refine OUTR.pre 0 0 (T259 (w := w) (q := 0) ht h hi hnr hX hna hw ⟨h45, by omega⟩) gF.rfl (Nat.le_refl _) (Nat.le_refl _) (by omega) (by omega) (fun Q hQ => r_isw (w := 3) ht h hi (by decide) (fun q => absurd q e23) (fun _ => ⟨fun _ => hQ, fun q => absurd rfl q⟩)) ?_
    rintro S0 S R post mc ms u v ⟨ca, by0, wt, vi, vl, un, ce, be, hm, hj, v10, v11⟩ hu hv hp
    refine ⟨hm.1.1.1.1, fun _ => hp S ⟨ca, by0, wt, vi, vl, un, ce, be, hm, hj, v10, v11⟩, fun q => ?_⟩
    exact absurd ((nI_eq (b := 23) (by omega) (by decide)).mp (hm.1.2.2.2.2.symm.trans q)) e23
/-- within -/
theorem T193 (ht : tC bf z c) (h : rA bf z bk nr nm i cn σ) (hi : i ≤ c) (hnr : nr < 12) (hX : rWx σ (12 * bk + nr) x k n) (hna : ∃ n l, n ≤ 8 ∧ wdR n na (σ.2.2.2 35 (12 * bk + nr)) l) (h45 : σ.2.2.1 45 (12 * bk + nr) = 0) : OUTR G cx bf z c bk nr ra nm na i cn σ (fun Q => w_X12_rule_193 Q σ (nI (12 * bk + nr))) (fun S0 S R => ∃ ca by0 wt vi vl un ce be, mK G cx bf z c nr ra nm S0 R ca by0 wt i vi vl un ce be S ∧ cJ S σ bk nr cn x k n na vi vl un ce be ∧ vi 811 = 0)
    (fun post mc ms u v S R => w_X5_readRule_76 post G mc ms S u v (cx 0) (some R)) := by
  have hbk := h.2.2.1.2.2
  have hz := ht.1
  have hle := ht.le i hi
  have hK9 := ht.K39 hi
  have hc : cn ≤ 1100 := by have := h.2.2.2.2.1.2.1; omega
  have eC : (nI (12 * bk + nr)).toNatClampNeg = 12 * bk + nr := nI_clamp (by omega)
  obtain ⟨m1, m2⟩ := r_must (w := 2) ht h hi (by decide)
  by_cases e22 : kt bf z i = 22
  · have hlt := ht.lt hi (by omega)
    have hone := ht.one hlt
    obtain ⟨σ4, g1, g2, g3⟩ := m1 e22
    have p1 : pF bk cn σ σ4 := g1.pf
    obtain ⟨n1, n2⟩ := r_num2 (x := 1) (y := 1000000) ht g2 (by omega)
    by_cases ok : okN bf z (i + 1) 1 1000000
    · obtain ⟨σ5, q1, q2, q3, q4, q5, q6⟩ := n1 ok
      have hlt2 := ht.lt (i := i + 1) (by omega) (by have := ok.1; omega)
      have hone2 := ht.one hlt2
      obtain ⟨w, w1, w2, w3⟩ := i32n (a := 1) (b := 1000000) ok.2.1 ok.2.2 (by decide) (by decide)
      have pF5 : pF bk cn σ σ5 := p1.trans q1 (Nat.le_refl _)
      have hG : gF bk nr cn σ (rf_ua σ5 44 (12 * bk + nr) (nI w)) := pF5.gf.ua hnr (Or.inl ⟨by omega, by omega, by omega, rfl⟩)
      have hs : sK σ (rf_ua σ5 44 (12 * bk + nr) (nI w)) := pF5.sk.trans (sK.ua (Or.inl rfl))
      refine OUTR.pre 0 0 (T_qu (w := w) ht (q3.r44 (kk := 44) (j := 12 * bk + nr) (y := nI w) (by omega)) (by omega) hnr (hX.on hs) (by rw [hs.2 35 _ (by decide) (by decide)]; exact hna) ⟨by rw [r3ua, if_pos ⟨rfl, rfl⟩], w1, w2⟩ ?_) hG (Nat.le_refl _) (by omega) (by omega) (by omega) (fun Q hQ => ?_) ?_
      · rw [r3ua, if_neg (by omega), pF5.2.2.1 45 _ (by omega)]; exact h45
      · refine g3 _ ⟨fun q => absurd q (by decide), fun _ => q6 _ ⟨fun _ => ⟨nI_in (N := 24) (by omega) (by decide), ?_⟩, fun q => absurd q (by decide)⟩⟩
        rw [q4, w3]; rw [eC] at hQ ⊢; exact hQ
      · rintro S0 S R post mc ms u v ⟨ca, by0, wt, vi, vl, un, ce, be, hm, hj, v11⟩ hu hv hp
        refine ⟨by omega, by omega, hm.1.1.1.1, c_skip (x := 22) ht hm.1 (by decide) (by decide) (fun _ S55 p55 f55 => ⟨p55.1.1.1, c_num2 ht p55 (fun _ S57 p57 f57 => ?_) (fun q => absurd ok q)⟩) (fun q => absurd e22 q)⟩
        have h57 := hm.pe p57 (f55.trans f57)
        refine ⟨R, rfl, h57.2.2.1.1.1, fun S61 e61 => ?_⟩
        rw [e61, w3]
        refine hp _ ⟨ca, by0, wt, _, vl, un, ce, be, h57.u, ?_, up_s, ?_⟩
        · exact (hj.on (cn' := cn) hs (Nat.le_refl _) (prS.gf h hc hG) (f55.trans f57) (pE.e3 hm.1.1.1.1)).u h57.2.2.1.1.1 (Or.inl rfl)
        · rw [up_o (by decide)]; exact v11
    · have pB : pF bk cn σ (rB σ4 (bdN bf z (i + 1)) (fpl bf z (i + 1))) := p1.trans rB.f (Nat.le_refl _)
      have hle2 := ht.le (i + 1) (by omega)
      refine ⟨0, rB σ4 (bdN bf z (i + 1)) (fpl bf z (i + 1)), 0, 0, pB.gf, fun Q hQ => g3 _ ⟨fun q => absurd q (by decide), fun _ => n2 ok _ ⟨fun q => absurd rfl q, fun _ => hQ⟩⟩, Or.inr ⟨bdN bf z (i + 1), fpl bf z (i + 1), rfl, rB.d bdN_0, by omega, by omega, ?_⟩⟩
      rintro S0 S R post ⟨ca, by0, wt, vi, vl, un, ce, be, hm, hj, v11⟩ hp mc ms u v hu hv
      refine ⟨by omega, by omega, hm.1.1.1.1, c_skip (x := 22) ht hm.1 (by decide) (by decide) (fun _ S55 p55 f55 => ⟨p55.1.1.1, c_num2 ht p55 (fun q => absurd q ok) (fun _ S57 p57 f57 => ?_)⟩) (fun q => absurd e22 q)⟩
      have h57 := hm.dd p57 (f55.trans f57) hX.2.1.2.2.1 hj.1.2.2.2.1 hX.2.2.1.2 hj.1.2.2.2.2.1
      refine ⟨R, rfl, h57.k9, fun S61 e61 => ?_⟩
      rw [e61]
      have h61 := h57.ui (f := 810) (x := 0) (by decide)
      exact ⟨h61.k7, fun _ => d_117 h61 (by omega) (by omega) hp, fun q => absurd q (h61.k0 (x := 23) (by decide) (by decide))⟩
  · refine ⟨0, rB σ (fk2 bf z i) (fpl bf z i), 0, 0, rB.f.gf, fun Q hQ => m2 e22 _ ⟨fun _ => hQ, fun q => absurd rfl q⟩, Or.inr ⟨fk2 bf z i, fpl bf z i, rfl, rB.d fk2_0, by omega, by omega, ?_⟩⟩
    rintro S0 S R post ⟨ca, by0, wt, vi, vl, un, ce, be, hm, hj, v11⟩ hp mc ms u v hu hv
    refine ⟨by omega, by omega, hm.1.1.1.1, c_skip (x := 22) ht hm.1 (by decide) (by decide) (fun q => absurd q e22) (fun _ S55 p55 f55 => ?_)⟩
    have h55 := hm.dd p55 f55 hX.2.1.2.2.1 hj.1.2.2.2.1 hX.2.2.1.2 hj.1.2.2.2.2.1
    refine ⟨h55.k7, d_number h55.1 ⟨R, rfl, h55.k9, fun S61 e61 => ?_⟩⟩
    rw [e61]
    have h61 := h55.ui (f := 810) (x := 0) (by decide)
    exact ⟨h61.k7, fun _ => d_117 h61 (by omega) (by omega) hp, fun q => absurd q (h61.k0 (x := 23) (by decide) (by decide))⟩
end T19
