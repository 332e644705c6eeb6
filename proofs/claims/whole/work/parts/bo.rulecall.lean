/-! ===== rule, as a call of the law ===== -/
section RUR
variable {σ : rf_S} {Q : Int32 → rf_S → Prop} {p1 p2 : Int32} {nr r : Nat}
theorem r_rule_bad (h33 : σ.1 33 = nI nr) (h : p1 < 0 ∨ nI nr ≤ p1 ∨ p2 < 0 ∨ ¬ p2 ≤ 1) (hQ : Q 0 (rf_ui σ 0 1)) : wp_X12_rule_ Q σ p1 p2 := by
  have b : w_X12_rule__22 Q σ p1 p2 := ⟨fun z => absurd z (by decide), fun _ => ⟨rfl, fun z => absurd z (by decide), fun _ => hQ⟩⟩
  refine ⟨fun _ => b, fun h1 => ⟨fun _ => b, fun h2 => ⟨fun _ => b, fun h3 => ⟨fun h4 => ?_, fun _ => b⟩⟩⟩⟩
  rcases h with z | z | z | z
  · exact absurd z h1
  · exact absurd (by rw [h33]; exact z) h2
  · exact absurd z h3
  · exact absurd h4 z
theorem r_rule_ok (h33 : σ.1 33 = nI nr) (hnr : nr ≤ 12) (hr : r < nr) (h4 : ¬ p2 < 0) (h5 : p2 ≤ 1) (h1 : ¬ p2 = 0 → Q (σ.2.2.1 67 r) (rf_ui σ 0 0)) (h0 : p2 = 0 → wp_X12_heldOf (fun r4 σ4 => Q r4 σ4) (rf_ui σ 0 0) (nI r)) : wp_X12_rule_ Q σ (nI r) p2 := by
  have cr : (nI r).toNatClampNeg = r := nI_clamp (by omega)
  refine ⟨fun z => absurd z (nI_nlt (a := r) (b := 0) (by omega) (by omega)), fun _ => ⟨fun z => absurd (by rw [h33] at z; exact z) (nI_ge (a := r) (b := nr) (by omega) (by omega)), fun _ => ⟨fun z => absurd z h4, fun _ => ⟨fun _ => ⟨fun _ => ⟨rfl, fun _ => ⟨fun c => ⟨nI_in (N := 12) (by omega) (by decide), ?_⟩, fun c => h0 c⟩, fun z => absurd rfl z⟩, fun z => absurd rfl z⟩, fun z => absurd h5 z⟩⟩⟩⟩
  rw [cr]
  exact h1 c
end RUR
section RUJ
variable {G : Nat → Nat} {xo ob tp sc kd pl am rv rc pk wt z y te : Nat} {S S' : cs_S} {σ σ' : rf_S} {Bc Bs : Int} {Cm Sm i u v : Nat} {xs : Nat → Int32} {K : cs_S → rf_S → Nat → Nat → Prop}
/-- only rules and keys changed -/
theorem jY.f96 (h : jY G xo ob tp sc kd pl am rv rc pk wt z y te Bc Bs S σ) (hF : fX (fun _ _ a => cs_k S a = 9 ∨ cs_k S a = 6) S S') (hL : LG G (PXs G xo ob tp sc kd pl am rv rc pk) wt S' σ te Bc Bs) : jY G xo ob tp sc kd pl am rv rc pk wt z y te Bc Bs S' σ := by
  obtain ⟨hC, ht, hp, ho, hb, -⟩ := id h
  obtain ⟨⟨a1, a2, a3, a4, a5⟩, ⟨b1, b2⟩, ⟨c1, -⟩, ⟨k1, -, k3, -, k5, -, k7, -⟩, ⟨e1, e2, e3, e4⟩, ⟨f1, f2, -⟩, g⟩ := id hC
  have hpx : ∀ a, PXs G xo ob tp sc kd pl am rv rc pk a → cs_k S a ≠ 0 ∧ ¬ (cs_k S a = 9 ∨ cs_k S a = 6) := by
    have ho1 := ho.1
    rintro a (q | q | q | q | q | q | q | q | q | q | q) <;> rw [q] <;> omega
  have un : ∀ a, cs_k S a ≠ 0 → ¬ (cs_k S a = 9 ∨ cs_k S a = 6) → (∀ f, cs_i S' f a = cs_i S f a) ∧ (∀ f, cs_r S' f a = cs_r S f a) ∧ (∀ j, cs_ai S' a j = cs_ai S a j) ∧ ∀ j, cs_al S' a j = cs_al S a j := fun a h0 h1 => by
    obtain ⟨-, -, q3, -, q5, q6, q7, -⟩ := hF a h0
    exact ⟨fun f => q3 f h1, fun f => q5 f h1, fun j => q6 j h1, fun j => q7 j h1⟩
  have ux := un xo (by omega) (by omega)
  have ut := un tp (by omega) (by omega)
  have ur := un rc (by omega) (by omega)
  have up := un pk (by omega) (by omega)
  have uo := un ob (by have := ho.1; omega) (by have := ho.1; omega)
  refine ⟨hC.of (ob := ob) ((hF wt (by omega)).1.trans f1) (fun a ha => ⟨fun f _ => (un a (hpx a ha).1 (hpx a ha).2).2.1 f, (un a (hpx a ha).1 (hpx a ha).2).2.2.2⟩) (fun a ha => ⟨(hF a ha).1, (hF a ha).2.1⟩), ⟨(ux.1 _).trans ht.1, ht.2.1, ht.2.2.1, fun j hj => (ut.2.2.1 j).trans (ht.2.2.2 j hj)⟩, ⟨(ux.1 _).trans hp.1, (ux.1 _).trans hp.2.1, (ur.1 _).trans hp.2.2.1, hp.2.2.2.1, hp.2.2.2.2.1, fun j hj => (up.2.2.1 j).trans (hp.2.2.2.2.2 j hj)⟩, ⟨(hF ob (by have := ho.1; omega)).1.trans ho.1, (hF ob (by have := ho.1; omega)).2.1.trans ho.2.1, ho.2.2⟩, ?_, hL⟩
  obtain ⟨b, hb⟩ := hb
  exact ⟨b, (uo.2.2.2 0).trans hb⟩
theorem jY_rule (h : jY G xo ob tp sc kd pl am rv rc pk wt z y te Bc Bs S σ) (kk : ∀ S σ, jY G xo ob tp sc kd pl am rv rc pk wt z y te Bc Bs S σ → K S σ (u + 1) (v + 6)) (hu : u + 1 ≤ Cm) (hv : v + 6 ≤ Sm) : lw_rule Cm Sm xs G xo ob i K S σ u v := by
  obtain ⟨hC, ht, hp, ho, hb9, hL⟩ := id (h.thr 0)
  obtain ⟨a1, a2, a3, a4, a5⟩ := hC.1
  obtain ⟨bk, nr, x, k, n, w, q, L, dp, tr, ud, ut, nv, ne, na, nl, now, pr, lr, le, tm, ev, ra, rr, lt, tl, S0, hS, hB, hD, hW, h20, hBc, hBs, hRQ⟩ := id hL
  obtain ⟨bnl, bna, bns, bpr, blk⟩ := hD.bnd hS.2.2.2.1
  obtain ⟨ko, Ow, al, ed, wl, hSH, hCR, -⟩ := id hW
  obtain ⟨w1, w2, w3, ⟨w4, w4'⟩, w5, w6, w7, w8, w9, w10⟩ := hSH.1
  have h33 : σ.1 33 = nI nr := hS.2.2.1
  have hnr := hS.2.2.2.1
  generalize hp1 : xs (i + 1) = p1
  generalize hp2 : xs (i + 2) = p2
  have z0 : ∀ a : Nat, 0 ≤ a := Nat.zero_le
  have bad : (p1 < 0 ∨ nI nr ≤ p1 ∨ p2 < 0 ∨ ¬ p2 ≤ 1) → w_X11_rule_24 (fun r S1 => cs_k S1 ob = 21 ∧ vp_in 0 (cs_n S1 ob) ∧ wp_X12_rule_ (fun b σ1 => wp_X12_thrown (fun t σ2 => t = 0 ∧ ((0 : Int32) = 0 → cs_k (cs_ual S1 ob 0 r.toInt64) ob = 21 ∧ vp_in 0 (cs_n (cs_ual S1 ob 0 r.toInt64) ob) ∧ cs_al (cs_ual S1 ob 0 r.toInt64) ob 0 = b.toInt64) ∧ K (cs_ual S1 ob 0 r.toInt64) σ2 (u + 1) (v + 6)) σ1) σ p1 p2) (fun S1 => wp_X12_rule_ (fun b σ1 => wp_X12_thrown (fun t σ2 => t = 1 ∧ ((1 : Int32) = 0 → cs_k S1 ob = 21 ∧ vp_in 0 (cs_n S1 ob) ∧ cs_al S1 ob 0 = b.toInt64) ∧ K S1 σ2 (u + 1) (v + 6)) σ1) σ p1 p2) G 1 6 S 0 0 := fun hb => ⟨z0 _, z0 _, Nat.le_refl _, Nat.le_refl _, r_rule_bad h33 hb ⟨rfl, fun hc => absurd hc (by decide), kk _ _ (h.thr 1)⟩⟩
  -- what is told
  have hok : ∀ (S1 : cs_S) (xv : Int32), jY G xo ob tp sc kd pl am rv rc pk wt z y te Bc Bs S1 (rf_ui σ 0 0) → (fun b σ1 => wp_X12_thrown (fun t σ2 => t = 0 ∧ ((0 : Int32) = 0 → cs_k (cs_ual S1 ob 0 xv.toInt64) ob = 21 ∧ vp_in 0 (cs_n (cs_ual S1 ob 0 xv.toInt64) ob) ∧ cs_al (cs_ual S1 ob 0 xv.toInt64) ob 0 = (b : Int32).toInt64) ∧ K (cs_ual S1 ob 0 xv.toInt64) σ2 (u + 1) (v + 6)) σ1) xv (rf_ui σ 0 0) := fun S1 xv hj => ⟨rfl, fun _ => ⟨hj.2.2.2.1.1, hj.2.2.2.1.at0, by rw [alual, if_pos ⟨rfl, rfl⟩]⟩, kk _ _ (hj.bx xv)⟩
  refine ⟨1, 6, hu, hv, a1, ?_⟩
  rw [hp1, hp2]
  refine ⟨fun c => bad (Or.inl c), fun c1 => ⟨a1, fun r21 e21 => ⟨wt, e21.trans a5, w1, fun c => bad (Or.inr (Or.inl (by rw [w5] at c; exact c))), fun c2 => ⟨fun c => bad (Or.inr (Or.inr (Or.inl c))), fun c3 => ⟨fun c4 r24 e24 => ⟨wt, e24.trans a5, w1, fun r27 e27 => ⟨rr, e27.trans w2, w3, ?_⟩⟩, fun c => bad (Or.inr (Or.inr (Or.inr c)))⟩⟩⟩⟩⟩
  obtain ⟨r, rfl, hr31⟩ := i_nat c1
  rw [w5] at c2
  have hr : r < nr := Nat.not_le.mp (fun q => c2 (nI_le q (by omega)))
  have cr : (nI r).toNatClampNeg = r := nI_clamp (by omega)
  refine ⟨nI_in (by omega) (by omega), fun r30 e30 => ?_⟩
  rw [cr, w10 r hr] at e30
  subst e30
  obtain ⟨hruC, -, wtt, bt, nb, bl, eo, so, lo, sr, an, hJ, hlc⟩ := id (hCR r hr)
  have k9 := hruC.1
  refine ⟨fun c0 => ⟨ra r, rfl, k9, z0 _, z0 _, ho.1, ho.at0, r_rule_ok h33 hnr hr c3 c4 (fun _ => ?_) (fun z => absurd z c0)⟩, fun c0 r33 e33 => ⟨wt, e33.trans a5, w1, ra r, rfl, k9, ?_⟩⟩
  · have e : cs_i S 812 (ra r) = σ.2.2.1 67 r := hJ.2.2.2.2.2.1
    rw [← e]
    exact hok S _ (h.thr 0)
  · have h1108 : cs_i S 1108 wt = nI now := hSH.2.1.2.2.2.2.1
    rw [h1108]
    have hw := (hS.2.2.2.2 r hr).1.2.2.2.2.2.2.1
    have h810 : cs_i S 810 (ra r) = nI (w r) := hruC.2.2.2.2.2.2.2.2.2.1
    have hru := (hS.2.2.2.2 r hr).1
    have h38 := hru.1
    have e12 : (12 * ((rf_ui σ 0 0).1 32)) + nI r = nI (12 * bk + r) := by rw [hS.1, n12]
    have cb : (nI (12 * bk + r)).toNatClampNeg = 12 * bk + r := nI_clamp (by have := hS.2.1; omega)
    have hin38 : vp_in (nI (12 * bk + r)) (rf_n 38) := nI_in (N := 24) (by have := hS.2.1; omega) (by decide)
    have hkk : ∀ o, o < ne → (rf_ui σ 0 0).2.2.1 63 (4000 * r + o) = -1 ∨ ∃ f, f ≤ o ∧ (rf_ui σ 0 0).2.2.1 63 (4000 * r + o) = nI f := fun o ho' => by
      have hne := hD.1.2.1
      rcases (hD.2.2.2.2.2.1.1 r hr).2.1.1 o (by omega) with q | ⟨f, q1, q2, -⟩
      · exact Or.inl q
      · exact Or.inr ⟨f, q1, q2⟩
    have hev : ∀ o, o < ne → (rf_ui σ 0 0).2.2.1 8 o = nI (tm o) ∧ tm o ≤ 2000000000 := fun o ho' => ⟨(hD.2.1 o ho').2.1, by have := (hD.2.1 o ho').2.2.1; have := hD.1.2.2.2.2; omega⟩
    have tell : ∀ (S1 : cs_S) (V : Int32), jY G xo ob tp sc kd pl am rv rc pk wt z y te Bc Bs S1 (rf_ui σ 0 0) → (∀ Q : Int32 → rf_S → Prop, Q V (rf_ui σ 0 0) → wp_X12_heldOf Q (rf_ui σ 0 0) (nI r)) → cs_k S1 ob = 21 ∧ vp_in 0 (cs_n S1 ob) ∧ wp_X12_rule_ (fun b σ1 => wp_X12_thrown (fun t σ2 => t = 0 ∧ ((0 : Int32) = 0 → cs_k (cs_ual S1 ob 0 V.toInt64) ob = 21 ∧ vp_in 0 (cs_n (cs_ual S1 ob 0 V.toInt64) ob) ∧ cs_al (cs_ual S1 ob 0 V.toInt64) ob 0 = b.toInt64) ∧ K (cs_ual S1 ob 0 V.toInt64) σ2 (u + 1) (v + 6)) σ1) σ (nI r) p2 := fun S1 V hj hR => ⟨hj.2.2.2.1.1, hj.2.2.2.1.at0, r_rule_ok h33 hnr hr c3 c4 (fun q => absurd c0 q) (fun _ => hR _ (hok S1 V hj))⟩
    have hwh := hruC.2.2.1
    by_cases x3 : x r = 3
    · have e28 : cs_i S 802 (ra r) = 28 := by
        rcases hwh with ⟨q1, q2⟩ | ⟨q1, q2⟩ | ⟨q1, q2⟩ | ⟨q1, q2⟩ | ⟨q1, q2⟩ <;> first | exact q2 | omega
      refine ⟨k9, fun q => absurd e28 q, fun _ => ?_⟩
      rw [h810]
      refine CWst hW hS hD hr x3 ⟨z0 _, z0 _, tell S _ (h.thr 0) (fun Q hQ => ⟨by rw [e12]; exact hin38, fun _ => ⟨ne + 1, ?_⟩, fun q => ?_⟩)⟩
      · rw [e12]
        refine r_h74c (k := k r) hD.1.1 hD.1.2.1 (by omega) hS.1 hS.2.1 rfl (by rw [h38, x3]; rfl) hru.2.2.2.2.2.2.2.2.2.1.1 hru.2.2.2.2.2.2.2.2.2.1.2.1 hru.2.2.2.2.2.2.2.2.2.1.2.2.1 hru.2.2.2.2.1 hw hD.1.2.2.2.1 hD.1.2.2.2.2 hkk hev ne 0 0 (by omega) ?_
        rw [Int.zero_add]
        exact hQ
      · rw [e12, cb, h38, x3] at q; exact absurd q (by decide)
    · have n28 : ¬ cs_i S 802 (ra r) = 28 := fun e => by
        rcases hwh with ⟨q1, q2⟩ | ⟨q1, q2⟩ | ⟨q1, q2⟩ | ⟨q1, q2⟩ | ⟨q1, q2⟩
        · rw [q2] at e; exact absurd e (by decide)
        · rw [q2] at e; exact absurd e (by decide)
        · rw [q2] at e; exact absurd e (by decide)
        · exact x3 q1
        · rw [q2] at e; exact absurd e (by decide)
      refine ⟨k9, fun _ => ⟨fun q31 => ⟨k9, z0 _, z0 _, ?_⟩, fun q31 => ?_⟩, fun q => absurd q n28⟩
      · have x4 : x r = 4 := by
          by_cases c : x r = 4
          · exact c
          · exact absurd q31 ((wh4 hwh).2 c)
        have hh := lc_held (hJ.2.2.2.2.2.2.2.2.2 x4) (hlc x4)
        rw [hh]
        refine tell S _ (h.thr 0) (fun Q hQ => ⟨by rw [e12]; exact hin38, fun q => absurd ?_ q, fun _ => ⟨nl + 1, ?_⟩⟩)
        · rw [e12, cb, h38, x4]; rfl
        · refine r_h25 hD.2.2.2.2.2.1.2.1.1 bnl (by omega) (fun j hj => ⟨by have := (blk j hj).1; omega, (hD.2.2.2.2.2.1.2.1.2.2 j hj).2.2.1⟩) nl 0 0 (by omega) ?_
          rw [Int.zero_add]
          exact hQ
      · have x2 : x r ≤ 2 := by
          have h4 := hru.2.1
          by_cases c : x r = 4
          · exact absurd ((wh4 hwh).1 c) q31
          · omega
        refine CWfg hW hS hD hr x2 (fun S1 hW1 hF1 k91 h813 => ⟨k91, z0 _, z0 _, ?_⟩)
        rw [h813]
        have hj := (h.thr 0).f96 hF1 ⟨bk, nr, x, k, n, w, q, L, dp, tr, ud, ut, nv, ne, na, nl, now, pr, lr, le, tm, ev, ra, rr, lt, tl, S0, hS, hB, hD, hW1, h20, hBc, hBs, hRQ⟩
        refine tell S1 _ hj (fun Q hQ => ⟨by rw [e12]; exact hin38, fun _ => ⟨ne + 1, ?_⟩, fun q => ?_⟩)
        · rw [e12]
          refine r_h74 hD.1.1 hD.1.2.1 (by omega) hS.1 hS.2.1 rfl (fun q => x3 ?_) hru.2.2.2.2.1 hw hD.1.2.2.2.1 hD.1.2.2.2.2 hkk (fun o ho' => ⟨?_, hev o ho'⟩) ne 0 0 (by omega) ?_
          · rw [h38] at q
            exact (nI_eq (b := 3) (by omega) (by decide)).mp q
          · obtain ⟨⟨m, b1, b2, b3, -⟩, -⟩ := hD.2.1 o ho'
            exact ⟨m, b2, b3⟩
          · rw [Int.zero_add]
            exact hQ
        · rw [e12, cb, h38] at q
          have := (nI_eq (b := 4) (by omega) (by decide)).mp q
          omega
end RUJ
