/-! ===== octet and alert, as calls of the law ===== -/
section ALC
variable {G : Nat → Nat} {xo ob tp sc kd pl am rv rc pk wt z y te : Nat} {S S' : cs_S} {σ σ' : rf_S} {Bc Bs : Int} {Cm Sm i u v : Nat} {xs : Nat → Int32} {K : cs_S → rf_S → Nat → Nat → Prop}
/-- the box is written -/
theorem jY.box (h : jY G xo ob tp sc kd pl am rv rc pk wt z y te Bc Bs S σ) (r c : Int32) : jY G xo ob tp sc kd pl am rv rc pk wt z y te Bc Bs (cs_ual S ob 0 r.toInt64) (rf_ui σ 0 c) := by
  obtain ⟨hC, ht, hp, ho, hb, hL⟩ := id h
  obtain ⟨⟨c1, c2, c3⟩, c4, c5, ⟨d1, d2, d3, d4, d5, d6, d7, d8, d9⟩, c6⟩ := id hC
  refine ⟨⟨⟨c1, c2, c3⟩, c4, c5, ⟨d1, d2, d3, d4, d5, d6, d7, d8, fun j => ?_⟩, c6⟩, ht, hp, ho, ⟨r, by rw [alual, if_pos ⟨rfl, rfl⟩]⟩, (hL.jn hC ho hb (jn.ual (Or.inr rfl))).jr (jr.ui rfl)⟩
  rw [alual, if_neg (fun q => ho.2.2.2 q.1.symm)]
  exact d9 j
theorem jX_o.at0 (ho : jX_o S ob am rv) : vp_in 0 (cs_n S ob) := by
  rw [ho.2.1]
  exact fun q => by
    rcases q with q | q
    · exact absurd q (by decide)
    · exact absurd q (by decide)
theorem jY_octet (h : jY G xo ob tp sc kd pl am rv rc pk wt z y te Bc Bs S σ) (kk : ∀ S σ, jY G xo ob tp sc kd pl am rv rc pk wt z y te Bc Bs S σ → K S σ (u + 1) (v + 6)) (hu : u + 1 ≤ Cm) (hv : v + 6 ≤ Sm) : lw_octet Cm Sm xs G xo ob i K S σ u v := by
  obtain ⟨hC, ht, hp, ho, hb9, hL⟩ := id h
  obtain ⟨⟨a1, a2, a3, a4, a5⟩, ⟨b1, b2⟩, -, -, ⟨e1, e2, e3, e4⟩, ⟨f1, -⟩, g⟩ := id hC
  have e85 : cs_i S 703 rc = σ.1 85 := hp.2.2.1.trans hp.2.2.2.2.1.symm
  have bad : ∀ x, w_X12_octet_13 (fun b σ1 => wp_X12_thrown (fun t σ2 => t = 1 ∧ ((1 : Int32) = 0 → cs_k S ob = 21 ∧ vp_in 0 (cs_n S ob) ∧ cs_al S ob 0 = b.toInt64) ∧ K S σ2 (u + 1) (v + 6)) σ1) σ x :=
    fun x => ⟨fun hc => absurd hc (by decide), fun _ => ⟨rfl, fun hc => absurd hc (by decide), fun _ => ⟨rfl, fun hc => absurd hc (by decide), kk _ _ (h.thr 1)⟩⟩⟩
  refine ⟨1, 6, hu, hv, a1, fun hc => ⟨Nat.zero_le _, Nat.zero_le _, Nat.le_refl _, Nat.le_refl _, fun _ => bad _, fun hd => absurd hc hd⟩, fun hc => ⟨a1, fun r er => ⟨rc, er.trans a4, e1, fun hd => ?_, fun hd => ⟨Nat.zero_le _, Nat.zero_le _, Nat.le_refl _, Nat.le_refl _, fun he => absurd he hc, fun _ => ⟨fun he => absurd (by rw [e85]; exact he) hd, fun _ => bad _⟩⟩⟩⟩⟩
  have h0 : (0 : Int) ≤ (xs (i + 1)).toInt := by
    have := Int32.not_lt.mp hc
    simpa using Int32.le_iff_toInt_le.mp this
  have hd2 := Int32.lt_iff_toInt_lt.mp hd
  have hy := hp.2.2.2.1
  rw [hp.2.2.1, nI_toInt (by omega)] at hd2
  have hcl : (xs (i + 1)).toNatClampNeg < y := by
    show (xs (i + 1)).toInt.toNat < y
    omega
  have hin : ∀ n, y ≤ n → vp_in (xs (i + 1)) n := fun n hn q => by
    rcases q with q | q
    · exact hc q
    · omega
  have hb := hp.2.2.2.2.2 _ hcl
  have hd9 : xs (i + 1) < σ.1 85 := by rw [← e85]; exact hd
  refine fun r2 er2 => ⟨rc, er2.trans a4, e1, fun r3 er3 => ⟨pk, er3.trans e2, e3, hin _ (by rw [e4]; exact hy), ho.1, ho.at0, ?_⟩⟩
  refine ⟨fun he => absurd he hc, fun _ => ⟨fun _ => ⟨fun _ => ⟨rfl, fun _ => ⟨hin _ (by show y ≤ rf_n 84; exact Nat.le_trans hy (by decide)), rfl, fun _ => ⟨ho.1, ho.at0, ?_⟩, kk _ _ (h.box _ 0)⟩, fun hq => absurd rfl hq⟩, fun hq => absurd rfl hq⟩, fun hq => absurd hd9 hq⟩⟩
  rw [alual, if_pos ⟨rfl, rfl⟩, hb]
  rfl
theorem r_alert_bad {Q : Int32 → rf_S → Prop} {p1 p2 : Int32} (h : p1 < 0 ∨ σ.1 78 ≤ p1 ∨ 500 ≤ p1 ∨ p2 < 0 ∨ ¬ p2 ≤ 4) (hQ : Q 0 (rf_ui σ 0 1)) : wp_X12_alert Q σ p1 p2 := by
  have b : w_X12_alert_29 Q σ p1 p2 := ⟨fun z => absurd z (by decide), fun _ => ⟨rfl, fun z => absurd z (by decide), fun _ => hQ⟩⟩
  refine ⟨fun _ => b, fun h1 => ⟨fun _ => b, fun h2 => ⟨fun _ => b, fun h3 => ⟨fun _ => b, fun h4 => ⟨fun h5 => ?_, fun _ => b⟩⟩⟩⟩⟩
  rcases h with z | z | z | z | z
  · exact absurd z h1
  · exact absurd z h2
  · exact absurd z h3
  · exact absurd z h4
  · exact absurd h5 z
theorem r_alert_ok {Q : Int32 → rf_S → Prop} {j na : Nat} {p2 : Int32} (h78 : σ.1 78 = nI na) (hna : na ≤ 48000) (hj : j < min na 500) (h4 : ¬ p2 < 0) (h5 : p2 ≤ 4) (hQ : ∀ x, (p2 = 0 → x = σ.2.2.1 73 j) → (p2 = 1 → x = σ.2.2.1 77 j) → (p2 = 2 → x = σ.2.2.1 74 j) → (p2 = 3 → x = σ.2.2.1 75 j) → (p2 = 4 → x = σ.2.2.1 76 j) → Q x (rf_ui σ 0 0)) : wp_X12_alert Q σ (nI j) p2 := by
  have cj : (nI j).toNatClampNeg = j := nI_clamp (by omega)
  have hin : ∀ kk, rf_n kk = 500 → vp_in (nI j) (rf_n kk) := fun kk h => by rw [h]; exact nI_in (by omega) (by decide)
  refine ⟨fun z => absurd z (nI_nlt (a := j) (b := 0) (by omega) (by omega)), fun _ => ⟨fun z => ?_, fun _ => ⟨fun z => absurd z (show ¬ (500 : Int32) ≤ nI j from nI_ge (a := j) (b := 500) (by omega) (by omega)), fun _ => ⟨fun z => absurd z h4, fun _ => ⟨fun _ => ⟨fun _ => ⟨rfl, fun _ => ⟨fun c0 => ⟨fun c1 => ⟨fun c2 => ⟨fun c3 => ⟨hin 76 (by decide), ?_⟩, fun c3 => ⟨hin 75 (by decide), ?_⟩⟩, fun c2 => ⟨hin 74 (by decide), ?_⟩⟩, fun c1 => ⟨hin 77 (by decide), ?_⟩⟩, fun c0 => ⟨hin 73 (by decide), ?_⟩⟩, fun z => absurd rfl z⟩, fun z => absurd rfl z⟩, fun z => absurd h5 z⟩⟩⟩⟩⟩
  · rw [h78] at z; exact absurd z (nI_ge (by omega) (by omega))
  · rw [cj]; exact hQ _ (fun z => absurd z c0) (fun z => absurd z c1) (fun z => absurd z c2) (fun z => absurd z c3) (fun _ => rfl)
  · rw [cj]; exact hQ _ (fun z => absurd z c0) (fun z => absurd z c1) (fun z => absurd z c2) (fun _ => rfl) (fun z => absurd (c3.symm.trans z) (by decide))
  · rw [cj]; exact hQ _ (fun z => absurd z c0) (fun z => absurd z c1) (fun _ => rfl) (fun z => absurd (c2.symm.trans z) (by decide)) (fun z => absurd (c2.symm.trans z) (by decide))
  · rw [cj]; exact hQ _ (fun z => absurd z c0) (fun _ => rfl) (fun z => absurd (c1.symm.trans z) (by decide)) (fun z => absurd (c1.symm.trans z) (by decide)) (fun z => absurd (c1.symm.trans z) (by decide))
  · rw [cj]; exact hQ _ (fun _ => rfl) (fun z => absurd (c0.symm.trans z) (by decide)) (fun z => absurd (c0.symm.trans z) (by decide)) (fun z => absurd (c0.symm.trans z) (by decide)) (fun z => absurd (c0.symm.trans z) (by decide))
theorem jY_alert (h : jY G xo ob tp sc kd pl am rv rc pk wt z y te Bc Bs S σ) (kk : ∀ S σ, jY G xo ob tp sc kd pl am rv rc pk wt z y te Bc Bs S σ → K S σ (u + 1) (v + 6)) (hu : u + 1 ≤ Cm) (hv : v + 6 ≤ Sm) : lw_alert Cm Sm xs G xo ob i K S σ u v := by
  obtain ⟨hC, ht, hp, ho, hb9, hL⟩ := id h
  obtain ⟨a1, a2, a3, a4, a5⟩ := hC.1
  obtain ⟨bk, nr, x, k, n, w, q, L, dp, tr, ud, ut, nv, ne, na, nl, now, pr, lr, le, tm, ev, ra, rr, lt, tl, S0, hS, hB, hD, hW, -⟩ := hL
  obtain ⟨bnl, bna, bns, bpr, blk⟩ := hD.bnd hS.2.2.2.1
  obtain ⟨ko, Ow, al, ed, wl, hSH, -⟩ := hW
  have kw := hSH.1.1
  have r1103 : cs_r S 1103 wt = some tl := hSH.1.2.2.2.2.2.2.2.2.1
  obtain ⟨⟨t1, t2, t3, t4, t5, t6, t7⟩, hAL⟩ := hSH.2.2.2.2.1
  have i78 : σ.1 78 = nI na := hD.2.2.2.2.2.1.2.2.1
  generalize hp1 : xs (i + 1) = p1
  generalize hp2 : xs (i + 2) = p2
  -- what throws
  have bad : (p1 < 0 ∨ σ.1 78 ≤ p1 ∨ 500 ≤ p1 ∨ p2 < 0 ∨ ¬ p2 ≤ 4) → wp_X12_alert (fun b σ1 => wp_X12_thrown (fun t σ2 => t = 1 ∧ ((1 : Int32) = 0 → cs_k S ob = 21 ∧ vp_in 0 (cs_n S ob) ∧ cs_al S ob 0 = b.toInt64) ∧ K S σ2 (u + 1) (v + 6)) σ1) σ p1 p2 := fun hb => r_alert_bad hb ⟨rfl, fun hc => absurd hc (by decide), kk _ _ (h.thr 1)⟩
  refine ⟨1, 6, hu, hv, a1, a1, fun r17 e17 => ⟨wt, e17.trans a5, kw, ?_⟩⟩
  rw [hp1, hp2]
  refine ⟨fun h1 => ⟨fun _ => ⟨Nat.le_refl _, Nat.le_refl _, bad (Or.inl h1)⟩, fun b z => (nomatch z)⟩, fun h1 => ⟨kw, fun r12 e12 => ⟨tl, e12.trans r1103, t1, t1, ?_⟩⟩⟩
  rw [t5]
  refine ⟨fun h2 => ⟨kw, fun r17 e17 => ⟨tl, e17.trans r1103, t1, t1, h1, ?_⟩⟩, fun h2 => ⟨fun _ => ⟨Nat.le_refl _, Nat.le_refl _, bad ?_⟩, fun b z => (nomatch z)⟩⟩
  · obtain ⟨j, ej⟩ : ∃ j, p1 = nI j ∧ j < 2 ^ 31 := by
      have b1 := Int32.le_iff_toInt_le.mp (Int32.not_lt.mp h1)
      have b2 : p1.toInt ≤ 2147483647 := Int32.toInt_le p1
      have b3 : (0 : Int32).toInt = 0 := by decide
      rw [b3] at b1
      exact ⟨p1.toInt.toNat, nI_at (by omega) (by omega), by omega⟩
    obtain ⟨ej, hj31⟩ := ej
    subst ej
    have hj : j < min na 500 := (nI_ltI hj31 (by omega)).mp h2
    have cj : (nI j).toNatClampNeg = j := nI_clamp (by omega)
    obtain ⟨g1, g2⟩ := t7 j hj
    obtain ⟨r, e, f, z1, z2, z3, z4, z5, z6, z7, z8, z9, z10, z11, z12⟩ := hAL j hj
    refine ⟨by rw [t5]; exact h2, t1, t1, fun r7 e7 => ⟨ed, e7.trans t2, t3, ?_, fun r10 e10 => ?_⟩⟩
    · rw [t4]
      have hcp := (cpF_a j (by omega)).1
      have hmono : min na 500 ≤ cpF (min na 500) := by
        by_cases c : min na 500 < 500
        · exact (cpF_a _ c).1
        · have : min na 500 = 500 := by omega
          rw [this]; decide
      have := cpF_le (min na 500)
      exact nI_in (by omega) (by omega)
    · rw [cj, g1] at e10
      subst e10
      have hok : ∀ x : Int32, (p2 = 0 → x = σ.2.2.1 73 j) → (p2 = 1 → x = σ.2.2.1 77 j) → (p2 = 2 → x = σ.2.2.1 74 j) → (p2 = 3 → x = σ.2.2.1 75 j) → (p2 = 4 → x = σ.2.2.1 76 j) → ¬ p2 < 0 → p2 ≤ 4 → cs_k S ob = 21 ∧ vp_in 0 (cs_n S ob) ∧ wp_X12_alert (fun b σ1 => wp_X12_thrown (fun t σ2 => t = 0 ∧ ((0 : Int32) = 0 → cs_k (cs_ual S ob 0 x.toInt64) ob = 21 ∧ vp_in 0 (cs_n (cs_ual S ob 0 x.toInt64) ob) ∧ cs_al (cs_ual S ob 0 x.toInt64) ob 0 = b.toInt64) ∧ K (cs_ual S ob 0 x.toInt64) σ2 (u + 1) (v + 6)) σ1) σ (nI j) p2 := fun x q0 q1 q2 q3 q4 h4 h5 => by
        refine ⟨ho.1, ho.at0, r_alert_ok i78 bna hj h4 h5 (fun x' u0 u1 u2 u3 u4 => ?_)⟩
        have ex : x = x' := by
          have b1 := Int32.le_iff_toInt_le.mp (Int32.not_lt.mp h4)
          have b2 := Int32.le_iff_toInt_le.mp h5
          have b3 : (0 : Int32).toInt = 0 := by decide
          have b4 : (4 : Int32).toInt = 4 := by decide
          rw [b3] at b1
          rw [b4] at b2
          have : p2.toInt = 0 ∨ p2.toInt = 1 ∨ p2.toInt = 2 ∨ p2.toInt = 3 ∨ p2.toInt = 4 := by omega
          rcases this with c | c | c | c | c
          · have e : p2 = 0 := Int32.toInt_inj.mp (by rw [c]; decide)
            rw [q0 e, u0 e]
          · have e : p2 = 1 := Int32.toInt_inj.mp (by rw [c]; decide)
            rw [q1 e, u1 e]
          · have e : p2 = 2 := Int32.toInt_inj.mp (by rw [c]; decide)
            rw [q2 e, u2 e]
          · have e : p2 = 3 := Int32.toInt_inj.mp (by rw [c]; decide)
            rw [q3 e, u3 e]
          · have e : p2 = 4 := Int32.toInt_inj.mp (by rw [c]; decide)
            rw [q4 e, u4 e]
        refine ⟨rfl, fun _ => ⟨ho.1, ho.at0, ?_⟩, kk _ _ (h.box x 0)⟩
        rw [alual, if_pos ⟨rfl, rfl⟩, ex]
      refine ⟨fun b hb => by cases hb; exact g2, fun z => (nomatch z), fun b21 e21 => ?_⟩
      cases e21
      have pe : ∀ {c : Int32} {m : Int}, p2.toInt = m → c.toInt = m → p2 = c := fun h1 h2 => Int32.toInt_inj.mp (h1.trans h2.symm)
      refine ⟨fun hb => ⟨Nat.le_refl _, Nat.le_refl _, bad ?_⟩, fun c => ⟨g2, ?_⟩, fun c => ⟨g2, ?_⟩, fun c => ⟨g2, ?_⟩, fun c => ⟨g2, ?_⟩, fun c => ⟨g2, ?_⟩⟩
      · rcases hb with hb | hb
        · exact Or.inr (Or.inr (Or.inr (Or.inl (Int32.lt_iff_toInt_lt.mpr hb))))
        · refine Or.inr (Or.inr (Or.inr (Or.inr (fun z => ?_))))
          have := Int32.le_iff_toInt_le.mp z
          have b4 : (4 : Int32).toInt = 4 := by decide
          omega
      · have e : p2 = 0 := pe c (by decide)
        subst e
        exact hok _ (fun _ => by rw [z7, z2]) (fun z => absurd z (by decide)) (fun z => absurd z (by decide)) (fun z => absurd z (by decide)) (fun z => absurd z (by decide)) (by decide) (by decide)
      · have e : p2 = 1 := pe c (by decide)
        subst e
        exact hok _ (fun z => absurd z (by decide)) (fun _ => z8) (fun z => absurd z (by decide)) (fun z => absurd z (by decide)) (fun z => absurd z (by decide)) (by decide) (by decide)
      · have e : p2 = 2 := pe c (by decide)
        subst e
        exact hok _ (fun z => absurd z (by decide)) (fun z => absurd z (by decide)) (fun _ => z9) (fun z => absurd z (by decide)) (fun z => absurd z (by decide)) (by decide) (by decide)
      · have e : p2 = 3 := pe c (by decide)
        subst e
        exact hok _ (fun z => absurd z (by decide)) (fun z => absurd z (by decide)) (fun z => absurd z (by decide)) (fun _ => by rw [z10, z4]) (fun z => absurd z (by decide)) (by decide) (by decide)
      · have e : p2 = 4 := pe c (by decide)
        subst e
        exact hok _ (fun z => absurd z (by decide)) (fun z => absurd z (by decide)) (fun z => absurd z (by decide)) (fun z => absurd z (by decide)) (fun _ => z11) (by decide) (by decide)
  · by_cases c : na < 500
    · rw [Nat.min_eq_left (by omega)] at h2
      rw [i78]
      exact Or.inr (Or.inl (Int32.not_lt.mp h2))
    · rw [Nat.min_eq_right (by omega)] at h2
      exact Or.inr (Or.inr (Or.inl (Int32.not_lt.mp h2)))
end ALC
