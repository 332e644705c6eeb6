/-! ===== pack, as a call of the law ===== -/
section PKC
variable {G : Nat → Nat} {xo ob tp sc kd pl am rv rc pk wt z y te : Nat} {S S' : cs_S} {σ σ' : rf_S} {Bc Bs : Int} {Cm Sm i u v : Nat} {xs : Nat → Int32} {K : cs_S → rf_S → Nat → Nat → Prop}
theorem jY.bx (h : jY G xo ob tp sc kd pl am rv rc pk wt z y te Bc Bs S σ) (r : Int32) : jY G xo ob tp sc kd pl am rv rc pk wt z y te Bc Bs (cs_ual S ob 0 r.toInt64) σ := by
  obtain ⟨hC, ht, hp, ho, hb, hL⟩ := id h
  obtain ⟨⟨c1, c2, c3⟩, c4, c5, ⟨d1, d2, d3, d4, d5, d6, d7, d8, d9⟩, c6⟩ := id hC
  refine ⟨⟨⟨c1, c2, c3⟩, c4, c5, ⟨d1, d2, d3, d4, d5, d6, d7, d8, fun j => ?_⟩, c6⟩, ht, hp, ho, ⟨r, by rw [alual, if_pos ⟨rfl, rfl⟩]⟩, hL.jn hC ho hb (jn.ual (Or.inr rfl))⟩
  rw [alual, if_neg (fun q => ho.2.2.2 q.1.symm)]
  exact d9 j
/-- an event was packed -/
theorem jY.pg {y' : Nat} (h : jY G xo ob tp sc kd pl am rv rc pk wt z y te Bc Bs S σ) (hp' : pg rc pk S S') (hq : qg σ σ') (hJ : pkJ S' σ' rc pk y') : jY G xo ob tp sc kd pl am rv rc pk wt z y' te Bc Bs S' σ' := by
  obtain ⟨hC, ht, hp, ho, hb, hL⟩ := id h
  obtain ⟨⟨a1, a2, a3, a4, a5⟩, ⟨b1, b2⟩, -, -, ⟨e1, e2, e3, e4⟩, ⟨f1, -⟩, g⟩ := id hC
  obtain ⟨j1, j2, j3, j4, j5, j6, j7, j8⟩ := hJ
  have hxr : xo ≠ rc := fun e => by rw [e, e1] at a1; cases a1
  have hi : ∀ f, cs_i S' f xo = cs_i S f xo := fun f => (hp' xo).2.2.2.2.1 f (fun e => absurd e hxr)
  refine ⟨hC.of (ob := ob) ((hp' wt).1.trans f1) (fun a _ => ⟨fun f _ => (hp' a).2.2.2.1 f, (hp' a).2.2.2.2.2.1⟩) (fun a _ => ⟨(hp' a).1, (hp' a).2.1⟩), ⟨(hi 1201).trans ht.1, ht.2.1, (hq.1 2 (by decide)).trans ht.2.2.1, fun j hj => ?_⟩, ⟨((hi 1202).trans hp.1).trans (hq.1 5 (by decide)).symm, ((hi 1203).trans hp.2.1).trans (hq.1 7 (by decide)).symm, j5, j7, j6, fun j hj => ?_⟩, ⟨(hp' ob).1.trans ho.1, (hp' ob).2.1.trans ho.2.1, ho.2.2⟩, ?_, (hL.jn hC ho hb ?_).jr ?_⟩
  · rw [(hp' tp).2.2.2.2.2.2.2 g.2.2.1 j, hq.2.2.1 1 (by decide)]
    exact ht.2.2.2 j hj
  · obtain ⟨b, -, q1, q2⟩ := j8 j hj
    rw [q1, q2]
  · obtain ⟨x, hx⟩ := hb
    exact ⟨x, ((hp' ob).2.2.2.2.2.1 0).trans hx⟩
  · exact ⟨fun a _ => ⟨(hp' a).1, (hp' a).2.1⟩, fun f a _ _ _ hr => ⟨(hp' a).2.2.2.2.1 f (fun e => absurd e hr), (hp' a).2.2.1 f, (hp' a).2.2.2.1 f⟩, fun a j _ _ _ _ hk => (hp' a).2.2.2.2.2.2.2 hk j, fun a j _ _ _ => (hp' a).2.2.2.2.2.1 j, fun a j _ => (hp' a).2.2.2.2.2.2.1 j⟩
  · exact ⟨fun k hk => hq.1 k (fun e => by rw [e] at hk; exact absurd hk (by decide)), fun k _ _ _ _ => by rw [hq.2.1], fun k j _ _ hk => by rw [hq.2.2.1 k hk], fun k j => by rw [hq.2.2.2]⟩
theorem jY_pack (h : jY G xo ob tp sc kd pl am rv rc pk wt z y te Bc Bs S σ) (kk : ∀ S σ y1, jY G xo ob tp sc kd pl am rv rc pk wt z y1 te Bc Bs S σ → K S σ (u + 1) (v + 6)) (hu : u + 1 ≤ Cm) (hv : v + 6 ≤ Sm) : lw_pack Cm Sm xs G xo ob i K S σ u v := by
  obtain ⟨hC, ht, hp, ho, hb9, hL⟩ := id h
  obtain ⟨⟨a1, a2, a3, a4, a5⟩, -, -, -, ⟨e1, e2, e3, e4⟩, -⟩ := hC
  obtain ⟨bk, nr, x, k, n, w, q, L, dp, tr, ud, ut, nv, ne, na, nl, now, pr, lr, le, tm, ev, ra, rr, lt, tl, S0, hS, hB, hD, hW, -⟩ := hL
  obtain ⟨ko, Ow, al, ed, wl, hSH, -⟩ := hW
  obtain ⟨w1, w2, w3, w4, w5, w6, w7, w8, w9, w10⟩ := hSH.1
  have i4 := hSH.2.1.1
  have hlt := hSH.2.2.2.1
  obtain ⟨d1, d2, d3, d4, d5⟩ := hD.1
  generalize hp1 : xs (i + 1) = p1
  have bad : (¬ lat ne p1 ∨ (¬ p1 ≤ 0 ∧ ¬ lat ne (p1 - 1))) → wp_X12_pack (fun b σ1 => wp_X12_thrown (fun t σ2 => t = 1 ∧ ((1 : Int32) = 0 → cs_k S ob = 21 ∧ vp_in 0 (cs_n S ob) ∧ cs_al S ob 0 = b.toInt64) ∧ K S σ2 (u + 1) (v + 6)) σ1) σ p1 := fun hb => r_pack_bad d1 d2 hb ⟨rfl, fun hc => absurd hc (by decide), kk _ _ _ (h.thr 1)⟩
  -- what packs
  have good : ∀ e ta, p1 = nI e → e < ne → ne ≤ e + 64 → (p1 ≤ 0 ∨ lat ne (p1 - 1)) → ta ≤ tm e → (e = 0 → ta = 0) → (0 < e → σ.2.2.1 8 (e - 1) = nI ta) → wp_X6_packEvent (fun S23 => cs_k S23 xo = 13 ∧ ∀ r26, r26 = cs_r S23 1205 xo → ∃ b27, r26 = some b27 ∧ cs_k S23 b27 = 8 ∧ (cs_k S23 ob = 21 ∧ vp_in 0 (cs_n S23 ob) ∧ wp_X12_pack (fun b σ1 => wp_X12_thrown (fun t σ2 => t = 0 ∧ ((0 : Int32) = 0 → cs_k (cs_ual S23 ob 0 (cs_i S23 703 b27).toInt64) ob = 21 ∧ vp_in 0 (cs_n (cs_ual S23 ob 0 (cs_i S23 703 b27).toInt64) ob) ∧ cs_al (cs_ual S23 ob 0 (cs_i S23 703 b27).toInt64) ob 0 = b.toInt64) ∧ K (cs_ual S23 ob 0 (cs_i S23 703 b27).toInt64) σ2 (u + 1) (v + 6)) σ1) σ p1)) G S rc (some (ev e)) (nI ta) := fun e ta ee he hl hpr hta h0 h1 => by
    obtain ⟨⟨m, hev⟩, t1, t2, t3, t4⟩ := hSH.2.2.1 e he
    obtain ⟨-, t8, t9, -⟩ := hD.2.1 e he
    refine sp_pack (σ := rf_ui σ 0 0) (by omega) d3 e1 e2 e3 e4 hev (fun vs k va tx q1 q2 q3 q4 q5 => ?_) t1 t8 hta (by omega) h0 h1 (fun S' σ' y' hy' hJ hpg hqg reach => ?_)
    · obtain ⟨-, -, -, -, nm, vs', -, -, -, v8, -, -, hfl⟩ := hev
      have evs : vs' = vs := Option.some.inj (v8.symm.trans q1)
      subst evs
      obtain ⟨-, ⟨va', z1, hvl⟩, -⟩ := hfl k q2
      have eva : va' = va := Option.some.inj (z1.symm.trans q3)
      subst eva
      obtain ⟨-, -, -, tx', L', z4, z5, z6, z7, -⟩ := hvl
      have etx : tx' = tx := Option.some.inj (z4.symm.trans q4)
      rw [etx, q5, e4] at z6
      omega
    · have hj := (h.thr 0).pg hpg hqg hJ
      refine ⟨(hpg xo).1.trans a1, fun r26 e26 => ⟨rc, e26.trans (((hpg xo).2.2.2.1 1205).trans a4), (hpg rc).1.trans e1, (hpg ob).1.trans ho.1, hj.2.2.2.1.at0, r_pack_ok d1 d2 ⟨e, ee, he, hl⟩ hpr ?_⟩⟩
      rw [ee]
      refine reach _ ⟨?_, fun _ => ⟨(hpg ob).1.trans ho.1, hj.2.2.2.1.at0, ?_⟩, kk _ _ _ (hj.bx _)⟩
      · exact (hqg.1 0 (by decide)).trans rfl
      · rw [alual, if_pos ⟨rfl, rfl⟩, hJ.2.2.2.2.1]
  refine ⟨1, 6, hu, hv, a1, a1, fun r36 e36 => ⟨wt, e36.trans a5, w1, ?_⟩⟩
  rw [hp1]
  have z0 : ∀ a : Nat, 0 ≤ a := Nat.zero_le
  refine c_lat w1 i4 d2 w6 w7 w8 hlt (fun hn => ?_) (fun e ee he hl => ⟨fun hz => ⟨a1, fun r41 e41 => ⟨wt, e41.trans a5, w1, c_lat w1 i4 d2 w6 w7 w8 hlt (fun hn => ?_) (fun e' ee' he' hl' => ?_)⟩⟩, fun hz => ?_⟩)
  · have N : ∀ y0, w_X11_pack_27 (fun r S1 => cs_k S1 ob = 21 ∧ vp_in 0 (cs_n S1 ob) ∧ wp_X12_pack (fun b σ1 => wp_X12_thrown (fun t σ2 => t = 0 ∧ ((0 : Int32) = 0 → cs_k (cs_ual S1 ob 0 r.toInt64) ob = 21 ∧ vp_in 0 (cs_n (cs_ual S1 ob 0 r.toInt64) ob) ∧ cs_al (cs_ual S1 ob 0 r.toInt64) ob 0 = b.toInt64) ∧ K (cs_ual S1 ob 0 r.toInt64) σ2 (u + 1) (v + 6)) σ1) σ p1) (fun S1 => wp_X12_pack (fun b σ1 => wp_X12_thrown (fun t σ2 => t = 1 ∧ ((1 : Int32) = 0 → cs_k S1 ob = 21 ∧ vp_in 0 (cs_n S1 ob) ∧ cs_al S1 ob 0 = b.toInt64) ∧ K S1 σ2 (u + 1) (v + 6)) σ1) σ p1) G 1 6 S 0 0 xo p1 none y0 := fun y0 => ⟨z0 _, z0 _, fun _ => ⟨z0 _, z0 _, Nat.le_refl _, Nat.le_refl _, bad (Or.inl hn)⟩, fun b z => (nomatch z)⟩
    exact ⟨fun hz => ⟨a1, fun r41 e41 => ⟨wt, e41.trans a5, w1, c_lat w1 i4 d2 w6 w7 w8 hlt (fun _ => N _) (fun _ _ _ _ => N _)⟩⟩, fun hz => N _⟩
  · have hn0 : ¬ p1 ≤ 0 := fun q => by
      rw [ee] at q hz
      by_cases c : e = 0
      · exact hz (by rw [c]; rfl)
      · exact absurd q (nI_ge (a := 0) (b := e) (by omega) (by omega))
    exact ⟨z0 _, z0 _, fun z => (nomatch z), fun b33 e33 => ⟨fun q => absurd q hz, fun _ => ⟨fun _ => ⟨z0 _, z0 _, Nat.le_refl _, Nat.le_refl _, bad (Or.inr ⟨hn0, hn⟩)⟩, fun b q => (nomatch q)⟩⟩⟩
  · have h0 : e ≠ 0 := fun c => hz (by rw [ee, c]; rfl)
    have hee : e' = e - 1 := by
      rw [ee] at ee'
      have q1 : (nI e - 1).toInt = (e : Int) - 1 := by
        have e64 : (1 : Int32).toInt = 1 := by decide
        rw [Int32.toInt_sub, nI_toInt (by omega), e64, Int.bmod_eq_of_le (by omega) (by omega)]
      rw [ee', nI_toInt (by omega)] at q1
      omega
    obtain ⟨⟨m', hev'⟩, t1', -⟩ := hSH.2.2.1 e' he'
    have t8' := (hD.2.1 e' he').2.1
    refine ⟨z0 _, z0 _, fun z => (nomatch z), fun b33 e33 => ⟨fun q => absurd q hz, fun _ => ⟨fun q => (nomatch q), fun b34 e34 => ?_⟩⟩⟩
    cases e33
    cases e34
    refine ⟨z0 _, z0 _, a1, fun r30 e30 => ⟨fun q => (nomatch q), fun b31 e31 => ?_⟩⟩
    cases e31
    refine ⟨hev'.1, z0 _, z0 _, rc, e30.trans a4, e1, ?_⟩
    rw [t1']
    exact good e (tm e') ee he hl (Or.inr ⟨e', ee', he', hl'⟩) (hD.2.2.1 e' e (by omega) he) (fun c => absurd c h0) (fun _ => by rw [← hee]; exact t8')
  · have h0 : e = 0 := by
      rw [ee] at hz
      have : (nI e).toInt = (0 : Int32).toInt := by rw [hz]
      rw [nI_toInt (by omega), show (0 : Int32).toInt = 0 from by decide] at this
      omega
    refine ⟨z0 _, z0 _, fun z => (nomatch z), fun b33 e33 => ⟨fun _ => ?_, fun q => absurd hz q⟩⟩
    cases e33
    exact ⟨z0 _, z0 _, a1, fun r30 e30 => ⟨fun _ => ⟨z0 _, z0 _, rc, e30.trans a4, e1, good e 0 ee he hl (Or.inl (by rw [hz]; decide)) (z0 _) (fun _ => rfl) (fun c => absurd c (by omega))⟩, fun b q => (nomatch q)⟩⟩
end PKC
