/-! ===== key, as a call of the law ===== -/
section KYR
variable {σ : rf_S} {Q : Int32 → rf_S → Prop} {p1 p2 p3 : Int32} {j na bk r e m i n te kk : Nat}
/-- what key tells of the field found -/
def kAt (post : Int32 → rf_S → Prop) (x3 r7 : Int32) (σ7 : rf_S) : Prop := (2 ≤ x3 → vp_in r7 (rf_n 14) ∧ (¬ (σ7.2.2.1 14 r7.toNatClampNeg) = 1 → w_X12_key_157 post σ7 x3 r7) ∧ ((σ7.2.2.1 14 r7.toNatClampNeg) = 1 → vp_in r7 (rf_n 15) ∧ ((x3 - 2) < (σ7.2.2.1 15 r7.toNatClampNeg) → w_X12_key_162 post σ7 x3 r7 0) ∧ (¬ (x3 - 2) < (σ7.2.2.1 15 r7.toNatClampNeg) → w_X12_key_157 post σ7 x3 r7))) ∧ (¬ 2 ≤ x3 → (¬ x3 = 0 → vp_in r7 (rf_n 15) ∧ w_X12_key_131 post σ7 (σ7.2.2.1 15 r7.toNatClampNeg)) ∧ (x3 = 0 → vp_in r7 (rf_n 14) ∧ w_X12_key_131 post σ7 (σ7.2.2.1 14 r7.toNatClampNeg)))
theorem r_key_bad1 (h78 : σ.1 78 = nI na) (hna : na ≤ 48000) (h : ¬ ∃ j, p1 = nI j ∧ j < min na 500) (hQ : Q 0 (rf_ui σ 0 1)) : wp_X12_key Q σ p1 p2 p3 := by
  have b : w_X12_key_20 Q σ p1 p2 p3 := ⟨fun z => absurd z (by decide), fun _ => ⟨rfl, fun z => absurd z (by decide), fun _ => hQ⟩⟩
  refine ⟨fun _ => b, fun h1 => ⟨fun _ => b, fun h2 => ⟨fun h3 => ?_, fun _ => b⟩⟩⟩
  obtain ⟨j, rfl, hj⟩ := i_nat h1
  rw [h78] at h2
  have a1 : j < na := Nat.not_le.mp (fun q => h2 (nI_le q (by omega)))
  have a2 : j < 500 := (nI_ltI hj (by decide)).mp h3
  exact absurd ⟨j, rfl, by omega⟩ h
/-- the alert is there -/
theorem r_key_at (h78 : σ.1 78 = nI na) (hna : na ≤ 48000) (hj : j < min na 500) (h32 : σ.1 32 = nI bk) (hbk : bk ≤ 1) (h73 : σ.2.2.1 73 j = nI r) (hr : r < 12) (h43 : σ.2.2.1 43 (12 * bk + r) = nI n) (hn3 : n ≤ 3) (hb : (¬ ∃ kk, p2 = nI kk ∧ kk < n) ∨ ¬ 0 ≤ p3 → Q 0 (rf_ui (rf_ui σ 0 0) 0 1)) (hg : ∀ kk, p2 = nI kk → kk < n → 0 ≤ p3 → wp_X12_fieldOf (fun r7 σ7 => kAt Q p3 r7 σ7) (rf_ui (rf_ui σ 0 0) 0 0) (σ.2.2.1 75 j) (σ.2.2.2 37 (3 * (12 * bk + r) + kk))) : wp_X12_key Q σ (nI j) p2 p3 := by
  have G1 : ¬ nI j < 0 := nI_nlt (a := j) (b := 0) (by omega) (by omega)
  have G2 : ¬ nI na ≤ nI j := nI_ge (by omega) (by omega)
  have G3 : nI j < 500 := nI_lt (a := j) (b := 500) (by omega) (by decide)
  have cj : (nI j).toNatClampNeg = j := nI_clamp (by omega)
  have hin : ∀ kk, rf_n kk = 500 → vp_in (nI j) (rf_n kk) := fun kk h => by rw [h]; exact nI_in (by omega) (by decide)
  have e4 : (12 * ((rf_ui σ 0 0).1 32)) + ((rf_ui σ 0 0).2.2.1 73 (nI j).toNatClampNeg) = nI (12 * bk + r) := by
    rw [r1ui, if_neg (by decide), h32, cj]
    show (12 * nI bk) + σ.2.2.1 73 j = _
    rw [h73, n12]
  have e5 : (rf_ui σ 0 0).2.2.1 43 (nI (12 * bk + r)).toNatClampNeg = nI n := by
    rw [nI_clamp (by omega)]; exact h43
  have b : ((¬ ∃ kk, p2 = nI kk ∧ kk < n) ∨ ¬ 0 ≤ p3) → w_X12_key_69 Q (rf_ui σ 0 0) (nI j) p2 p3 (nI (12 * bk + r)) := fun c => ⟨fun z => absurd z (by decide), fun _ => ⟨rfl, fun z => absurd z (by decide), fun _ => hb c⟩⟩
  refine ⟨fun z => absurd z G1, fun _ => ⟨fun z => absurd (by rw [h78] at z; exact z) G2, fun _ => ⟨fun _ => ⟨fun _ => ⟨rfl, fun _ => ⟨hin 73 (by decide), ?_, ?_⟩, fun z => absurd rfl z⟩, fun z => absurd rfl z⟩, fun z => absurd G3 z⟩⟩⟩
  · intro c
    rw [e4]
    refine b (Or.inl ?_)
    rintro ⟨kk, rfl, h⟩
    exact absurd c (nI_nlt (a := kk) (b := 0) (by omega) (by omega))
  · intro c
    rw [e4, e5]
    refine ⟨nI_in (N := 24) (by omega) (by decide), fun c2 => b (Or.inl ?_), fun c2 => ⟨fun c3 => ?_, fun c3 => b (Or.inr c3)⟩⟩
    · rintro ⟨kk, rfl, h⟩
      exact nI_ge h (by omega) c2
    · obtain ⟨kk, rfl, hk⟩ := i_nat c
      have hkn : kk < n := Nat.not_le.mp (fun q => c2 (nI_le q (by omega)))
      refine ⟨fun _ => ⟨rfl, fun _ => ⟨hin 75 (by decide), ?_, ?_⟩, fun z => absurd rfl z⟩, fun z => absurd rfl z⟩
      · rw [n3]; exact nI_in (N := 72) (by omega) (by decide)
      · have e6 : ((3 * nI (12 * bk + r)) + nI kk).toNatClampNeg = 3 * (12 * bk + r) + kk := by rw [n3, nI_clamp (by omega)]
        rw [e6, cj]
        exact hg kk rfl hkn c3
end KYR
section KYC
variable {G : Nat → Nat} {S : cs_S} {wt tl ed N a vs n : Nat} {al : Nat → Nat} {p : Int32} {post : Option Nat → cs_S → Prop}
theorem c_told (kw : cs_k S wt = 12) (r1103 : cs_r S 1103 wt = some tl) (ht : tlW G S tl ed N al) (hN : N ≤ 500) (h0 : (¬ ∃ j, p = nI j ∧ j < N) → post none S) (h1 : ∀ j, p = nI j → j < N → cs_k S (al j) = 2 → post (some (al j)) S) : wp_X10_toldAt post G S wt p := by
  obtain ⟨t1, t2, t3, t4, t5, t6, t7⟩ := ht
  refine ⟨fun hc => h0 ?_, fun hc => ⟨kw, fun r12 e12 => ⟨tl, e12.trans r1103, t1, t1, ?_⟩⟩⟩
  · rintro ⟨j, rfl, h⟩
    exact absurd hc (nI_nlt (a := j) (b := 0) (by omega) (by omega))
  · obtain ⟨j, rfl, hj31⟩ := i_nat hc
    rw [t5]
    refine ⟨fun h2 => ⟨kw, fun r17 e17 => ⟨tl, e17.trans r1103, t1, t1, hc, ?_⟩⟩, fun h2 => h0 ?_⟩
    · have hj : j < N := (nI_ltI hj31 (by omega)).mp h2
      have cj : (nI j).toNatClampNeg = j := nI_clamp (by omega)
      obtain ⟨g1, g2⟩ := t7 j hj
      refine ⟨by rw [t5]; exact h2, t1, t1, fun r7 e7 => ⟨ed, e7.trans t2, t3, ?_, fun r10 e10 => ?_⟩⟩
      · rw [t4]
        have hmono : N ≤ cpF N := by
          by_cases c : N < 500
          · exact (cpF_a _ c).1
          · have : N = 500 := by omega
            rw [this]; decide
        have := cpF_le N
        exact nI_in (by omega) (by omega)
      · rw [cj, g1] at e10
        subst e10
        exact ⟨fun b hb => by cases hb; exact g2, h1 j rfl hj g2⟩
    · rintro ⟨j', h, hj'⟩
      exact h2 (by rw [h]; exact nI_lt hj' (by omega))
theorem c_val (hk : kyW S a vs n) (h0 : (¬ ∃ k, p = nI k ∧ k < n) → post none S) (h1 : ∀ k va, p = nI k → k < n → cs_ar S vs k = some va → vK S va → post (some va) S) : wp_X4_valueAt post G S a p := by
  obtain ⟨k1, k2, k3, k4, k5, k6, k7⟩ := hk
  refine ⟨fun hc => h0 ?_, fun hc => ⟨k1, fun r10 e10 => ⟨vs, e10.trans k2, k3, fun hd r13 e13 => ⟨vs, e13.trans k2, k3, ?_, fun r16 e16 => ?_⟩, fun hd => h0 ?_⟩⟩⟩
  · rintro ⟨j, rfl, h⟩
    exact absurd hc (nI_nlt (a := j) (b := 0) (by omega) (by omega))
  · obtain ⟨j, rfl, hj31⟩ := i_nat hc
    rw [k4] at hd
    have hj : j < n := (nI_ltI hj31 (by omega)).mp hd
    rw [k4]; exact nI_in hj (by omega)
  · obtain ⟨j, rfl, hj31⟩ := i_nat hc
    rw [k4] at hd
    have hj : j < n := (nI_ltI hj31 (by omega)).mp hd
    obtain ⟨va, v1, v2⟩ := k6 j hj
    rw [nI_clamp (by omega), v1] at e16
    subst e16
    exact h1 j va rfl hj v1 v2
  · rintro ⟨j, rfl, h⟩
    rw [k4] at hd
    exact hd (nI_lt h (by omega))
end KYC
theorem nI_s2 (c : Nat) (h : c + 2 < 2 ^ 31) : nI (c + 2) - 2 = nI c := by
  refine nI_at ?_ (by omega)
  have e2 : (2 : Int32).toInt = 2 := by decide
  rw [Int32.toInt_sub, nI_toInt (by omega), e2, Int.bmod_eq_of_le (by omega) (by omega)]
  omega
theorem i_nat2 {p : Int32} (h : ¬ p < 2) : ∃ t, p = nI (t + 2) ∧ t + 2 < 2 ^ 31 ∧ p - 2 = nI t := by
  have b1 := Int32.le_iff_toInt_le.mp (Int32.not_lt.mp h)
  have b2 : p.toInt ≤ 2147483647 := Int32.toInt_le p
  have b3 : (2 : Int32).toInt = 2 := by decide
  rw [b3] at b1
  have e : p = nI (p.toInt.toNat - 2 + 2) := nI_at (by omega) (by omega)
  exact ⟨p.toInt.toNat - 2, e, by omega, by have := nI_s2 (p.toInt.toNat - 2) (by omega); rw [← e] at this; exact this⟩
section KYJ
variable {G : Nat → Nat} {xo ob tp sc kd pl am rv rc pk wt z y te : Nat} {S S' : cs_S} {σ σ' : rf_S} {Bc Bs : Int} {Cm Sm i u v : Nat} {xs : Nat → Int32} {K : cs_S → rf_S → Nat → Nat → Prop}
theorem jY_key (h : jY G xo ob tp sc kd pl am rv rc pk wt z y te Bc Bs S σ) (kk : ∀ S σ, jY G xo ob tp sc kd pl am rv rc pk wt z y te Bc Bs S σ → K S σ (u + 1) (v + 6)) (hu : u + 1 ≤ Cm) (hv : v + 6 ≤ Sm) : lw_key Cm Sm xs G xo ob i K S σ u v := by
  obtain ⟨hC, ht, hp, ho, hb9, hL⟩ := id h
  obtain ⟨a1, a2, a3, a4, a5⟩ := hC.1
  obtain ⟨bk, nr, x, k, n, w, q, L, dp, tr, ud, ut, nv, ne, na, nl, now, pr, lr, le, tm, ev, ra, rr, lt, tl, S0, hS, hB, hD, hW, -⟩ := hL
  obtain ⟨bnl, bna, bns, bpr, blk⟩ := hD.bnd hS.2.2.2.1
  obtain ⟨ko, Ow, al, ed, wl, hSH, hCR, -⟩ := hW
  have kw := hSH.1.1
  have r1103 : cs_r S 1103 wt = some tl := hSH.1.2.2.2.2.2.2.2.2.1
  obtain ⟨hTL, hAL⟩ := hSH.2.2.2.2.1
  have i78 : σ.1 78 = nI na := hD.2.2.2.2.2.1.2.2.1
  generalize hp1 : xs (i + 1) = p1
  generalize hp2 : xs (i + 2) = p2
  generalize hp3 : xs (i + 3) = p3
  have bq : ∀ (σ0 : rf_S), jY G xo ob tp sc kd pl am rv rc pk wt z y te Bc Bs S σ0 → (fun b σ1 => wp_X12_thrown (fun t σ2 => t = 1 ∧ ((1 : Int32) = 0 → cs_k S ob = 21 ∧ vp_in 0 (cs_n S ob) ∧ cs_al S ob 0 = (b : Int32).toInt64) ∧ K S σ2 (u + 1) (v + 6)) σ1) 0 (rf_ui σ0 0 1) := fun σ0 hj => ⟨rfl, fun hc => absurd hc (by decide), kk _ _ (hj.thr 1)⟩
  have z0 : ∀ a : Nat, 0 ≤ a := Nat.zero_le
  refine ⟨1, 6, hu, hv, a1, a1, fun r35 e35 => ⟨wt, e35.trans a5, kw, ?_⟩⟩
  rw [hp1, hp2, hp3]
  refine c_told kw r1103 hTL (by omega) (fun hn => ⟨fun _ => ⟨z0 _, z0 _, fun _ => ⟨Nat.le_refl _, Nat.le_refl _, r_key_bad1 i78 bna hn (bq σ h)⟩, fun b z => (nomatch z)⟩, fun b z => (nomatch z)⟩) (fun j ej hj hk2 => ⟨fun z => (nomatch z), fun b39 e39 => ?_⟩)
  cases e39
  subst ej
  obtain ⟨r, e, f, z1, z2, z3, z4, z5, z6, z7, z8, z9, z10, z11, z12⟩ := hAL j hj
  obtain ⟨-, -, wtt, bt, nb, bl, eo, so, lo, sr, an, hJK, -⟩ := hCR r z1
  obtain ⟨-, -, hbI, -⟩ := hJK
  obtain ⟨ib, vs, hib, -, hky, hrx⟩ := hbI.2.1 f z6
  have hru := (hS.2.2.2.2 r z1).1
  have h43 := hru.2.2.1
  have hn3 := hru.2.2.2.1
  have hnr := hS.2.2.2.1
  have hpr := hD.2.2.2.2.2.2.1 r z1
  have hne := hD.1.2.1
  have hte := hD.1.2.2.1
  have heN : e < ne := by omega
  obtain ⟨⟨m, hm4, hm8, hm9, hmv⟩, -⟩ := hD.2.1 e heN
  have hmn : ∀ o, o < ne → ∃ m, m ≤ 8 ∧ σ.2.2.1 9 o = nI m := fun o ho => by
    obtain ⟨⟨m, b1, b2, b3, -⟩, -⟩ := hD.2.1 o ho
    exact ⟨m, b2, b3⟩
  have hkI := (hD.2.2.2.2.2.1.1 r z1).2.1
  have hbad : (¬ ∃ kk, p2 = nI kk ∧ kk < n r) ∨ ¬ 0 ≤ p3 → wp_X12_key (fun b σ1 => wp_X12_thrown (fun t σ2 => t = 1 ∧ ((1 : Int32) = 0 → cs_k S ob = 21 ∧ vp_in 0 (cs_n S ob) ∧ cs_al S ob 0 = b.toInt64) ∧ K S σ2 (u + 1) (v + 6)) σ1) σ (nI j) p2 p3 := fun c => r_key_at i78 bna hj hS.1 hS.2.1 z2 (by omega) h43 hn3 (fun _ => bq _ (h.thr 0)) (fun kk q1 q2 q3 => by
    rcases c with c | c
    · exact absurd ⟨kk, q1, q2⟩ c
    · exact absurd q3 c)
  refine ⟨hk2, fun r41 e41 => ⟨ko r f, e41.trans z12, hky.1, c_val hky (fun hn => ⟨z0 _, z0 _, fun _ => ⟨Nat.le_refl _, Nat.le_refl _, hbad (Or.inl hn)⟩, fun b z => (nomatch z)⟩) (fun kq va ek hk hva hvk => ⟨z0 _, z0 _, fun z => (nomatch z), fun b24 e24 => ?_⟩)⟩⟩
  cases e24
  subst ek
  -- the field of the event
  obtain ⟨f', hf'1, hf'2, hf'3, hkHe, hkMe⟩ : ∃ f', f' ≤ e ∧ σ.2.2.1 63 (4000 * r + e) = nI f' ∧ σ.2.2.1 63 (4000 * r + f') = nI f' ∧ kH σ (12 * bk + r) (n r) e ∧ kM σ (12 * bk + r) (n r) f' e := by
    rcases hkI.1 e (by omega) with c | c
    · rw [z5] at c
      exact absurd c (nI_m f (by have := z6.1; have := bpr r z1; omega))
    · exact c
  have eff : f' = f := (nI_eq (by omega) (by have := z6.1; have := bpr r z1; omega)).mp (hf'2.symm.trans z5)
  subst eff
  have hkHf := (hD.ky z1).2 f' z6
  have hkc := (km_c hD.2.2.2.1.2.1 (by omega) heN hmn hkHf hkHe).mp hkMe kq hk
  obtain ⟨ix, hix⟩ := hkHe kq hk
  have hixm := (fO_lt hm9 hm8 hix).1
  have hvw := hmv ix hixm
  have hvC : vX S va = vC σ (8 * e + ix) := by
    have := hrx kq hk
    unfold rX at this
    rw [hva] at this
    rw [show vX S va = vX S ((some va).getD 0) from rfl, this, hkc]
    unfold kcO
    rw [hix]; rfl
  have hV0 : cs_i S 1000 va = σ.2.2.1 14 (8 * e + ix) := congrArg (fun c => c.1) hvC
  have hV1 : cs_i S 1001 va = σ.2.2.1 15 (8 * e + ix) := congrArg (fun c => c.2.1) hvC
  have hV2 : ∀ t, (if cs_i S 1000 va = 1 ∧ t < (cs_i S 1001 va).toNatClampNeg then cs_ai S ((cs_r S 1002 va).getD 0) t else 0) = (if σ.2.2.1 14 (8 * e + ix) = 1 ∧ t < (σ.2.2.1 15 (8 * e + ix)).toNatClampNeg then σ.2.2.1 18 ((σ.2.2.1 16 (8 * e + ix)).toNatClampNeg + t) else 0) := fun t => congrFun (congrArg (fun c => c.2.2) hvC) t
  obtain ⟨tx, LL, c1, c2, c3, c4, c5, -, c7⟩ := hvk
  have cg : (nI (8 * e + ix)).toNatClampNeg = 8 * e + ix := nI_clamp (by omega)
  have hin : ∀ q, rf_n q = 32008 → vp_in (nI (8 * e + ix)) (rf_n q) := fun q h => by rw [h]; exact nI_in (by omega) (by decide)
  -- what the reference tells
  have go : ∀ (Q : Int32 → rf_S → Prop), ¬ p3 < 0 → kAt Q p3 (nI (8 * e + ix)) (rf_ui (rf_ui σ 0 0) 0 0) → wp_X12_key Q σ (nI j) (nI kq) p3 := fun Q h0 hQ => r_key_at i78 bna hj hS.1 hS.2.1 z2 (by omega) h43 hn3 (fun c => by
    rcases c with c | c
    · exact absurd ⟨kq, rfl, hk⟩ c
    · exact absurd (Int32.not_lt.mp h0) c) (fun k9 q1 q2 q3 => by
    have : kq = k9 := (nI_eq (by omega) (by omega)).mp q1
    subst this
    rw [z4]
    refine rfo (σ := rf_ui (rf_ui σ 0 0) 0 0) (by omega) hm9 hm8 ?_
    rw [show fO (rf_ui (rf_ui σ 0 0) 0 0) e (σ.2.2.2 37 (3 * (12 * bk + r) + kq)) = some ix from hix]
    exact hQ)
  have hok : ∀ (σ0 : rf_S) (xv : Int32), jY G xo ob tp sc kd pl am rv rc pk wt z y te Bc Bs S σ0 → σ0.1 0 = 0 → (fun b σ1 => wp_X12_thrown (fun t σ2 => t = 0 ∧ ((0 : Int32) = 0 → cs_k (cs_ual S ob 0 xv.toInt64) ob = 21 ∧ vp_in 0 (cs_n (cs_ual S ob 0 xv.toInt64) ob) ∧ cs_al (cs_ual S ob 0 xv.toInt64) ob 0 = (b : Int32).toInt64) ∧ K (cs_ual S ob 0 xv.toInt64) σ2 (u + 1) (v + 6)) σ1) xv σ0 := fun σ0 xv hj h0 => ⟨h0, fun _ => ⟨ho.1, ho.at0, by rw [alual, if_pos ⟨rfl, rfl⟩]⟩, kk _ _ (hj.bx xv)⟩
  refine ⟨fun n0 => ⟨fun n1 => ⟨fun l2 => ⟨z0 _, z0 _, Nat.le_refl _, Nat.le_refl _, hbad (Or.inr (fun q => ?_))⟩, fun l2 => ⟨c1, fun r26 e26 => ⟨tx, e26.trans c2, c3, fun hd r29 e29 => ⟨tx, e29.trans c2, c3, ?_, ho.1, ho.at0, ?_⟩, fun hd => ⟨z0 _, z0 _, Nat.le_refl _, Nat.le_refl _, ?_⟩⟩⟩⟩, fun n1 => ⟨c1, ho.1, ho.at0, ?_⟩⟩, fun n0 => ⟨c1, ho.1, ho.at0, ?_⟩⟩
  · have b1 := Int32.le_iff_toInt_le.mp q
    have b2 := Int32.lt_iff_toInt_lt.mp l2
    have b3 : (0 : Int32).toInt = 0 := by decide
    have b4 : (2 : Int32).toInt = 2 := by decide
    rw [b3] at b1
    rw [b4] at b2
    have : p3.toInt = 0 ∨ p3.toInt = 1 := by omega
    rcases this with c | c
    · exact n0 (Int32.toInt_inj.mp (by rw [c]; decide))
    · exact n1 (Int32.toInt_inj.mp (by rw [c]; decide))
  · obtain ⟨t, et, ht2, em⟩ := i_nat2 l2
    rw [em, c4] at hd
    rw [em, c4]
    exact nI_in ((nI_ltI (by omega) (by omega)).mp hd) (by omega)
  · obtain ⟨t, et, ht2, em⟩ := i_nat2 l2
    rw [em, c4] at hd
    have htL : t < LL := (nI_ltI (by omega) (by omega)).mp hd
    obtain ⟨s1, s2⟩ : cs_i S 1000 va = 1 ∧ cs_i S 1001 va = nI LL := by
      rcases c7 with c | c
      · exact c
      · omega
    obtain ⟨L2, o2, q1, q2, q3, q4⟩ : ∃ L o, σ.2.2.1 15 (8 * e + ix) = nI L ∧ L ≤ 24 ∧ σ.2.2.1 16 (8 * e + ix) = nI o ∧ o + L ≤ te := by
      rcases hvw.2 with c | c | c
      · exact c.2
      · rw [← hV0, s1] at c; exact absurd c (by decide)
      · rw [← hV0, s1] at c; exact absurd c (by decide)
    have eL : L2 = LL := (nI_eq (by omega) (by omega)).mp ((q1.symm.trans hV1.symm).trans s2)
    subst eL
    have htx : cs_ai S tx t = σ.2.2.1 18 (o2 + t) := by
      have := hV2 t
      rw [if_pos ⟨s1, by rw [s2, nI_clamp (by omega)]; exact htL⟩, if_pos ⟨by rw [← hV0]; exact s1, by rw [q1, nI_clamp (by omega)]; exact htL⟩, c2, q3, nI_clamp (by omega)] at this
      exact this
    have ei : (((rf_ui (rf_ui (rf_ui σ 0 0) 0 0) 0 0).2.2.1 16 (nI (8 * e + ix)).toNatClampNeg) + p3) - 2 = nI (o2 + t) := by
      rw [cg]
      show σ.2.2.1 16 (8 * e + ix) + p3 - 2 = _
      rw [q3, et, lw_ad, ← Nat.add_assoc]
      exact nI_s2 _ (by omega)
    refine go _ (fun q => ?_) ⟨fun _ => ⟨hin 14 (by decide), fun c => absurd ?_ c, fun c => ⟨hin 15 (by decide), fun _ => ⟨fun _ => ⟨rfl, fun _ => ⟨hin 16 (by decide), ?_, ?_⟩, fun q => absurd rfl q⟩, fun q => absurd rfl q⟩, fun c2 => absurd ?_ c2⟩⟩, fun c => absurd (Int32.not_lt.mp l2) c⟩
    · rw [et] at q; exact absurd q (nI_nlt (a := t + 2) (b := 0) (by omega) (by omega))
    · rw [cg]; exact hV0.symm.trans s1
    · rw [ei]; exact nI_in (N := 24000) (by omega) (by decide)
    · rw [ei, nI_clamp (by omega), em, nI_clamp (by omega), htx]
      exact hok _ _ (((h.thr 0).thr 0).thr 0) rfl
    · rw [cg, em]
      show nI t < σ.2.2.1 15 (8 * e + ix)
      rw [q1]; exact nI_lt htL (by omega)
  · obtain ⟨t, et, ht2, em⟩ := i_nat2 l2
    rw [em, c4] at hd
    have b157 := bq _ ((h.thr 0).thr 0)
    refine go _ (fun q => ?_) ⟨fun _ => ⟨hin 14 (by decide), fun c => ⟨fun q => absurd q (by decide), fun _ => ⟨rfl, fun q => absurd q (by decide), fun _ => b157⟩⟩, fun c => ⟨hin 15 (by decide), fun c2 => absurd ?_ hd, fun c2 => ⟨fun q => absurd q (by decide), fun _ => ⟨rfl, fun q => absurd q (by decide), fun _ => b157⟩⟩⟩⟩, fun c => absurd (Int32.not_lt.mp l2) c⟩
    · rw [et] at q; exact absurd q (nI_nlt (a := t + 2) (b := 0) (by omega) (by omega))
    · rw [cg, em] at c2
      rw [cg] at c
      rcases c7 with s | s
      · rw [show (rf_ui (rf_ui σ 0 0) 0 0).2.2.1 15 (8 * e + ix) = nI LL from hV1.symm.trans s.2] at c2
        exact c2
      · exact absurd (hV0.trans c) s.1
  · subst n1
    have e1 : (rf_ui (rf_ui σ 0 0) 0 0).2.2.1 15 (nI (8 * e + ix)).toNatClampNeg = cs_i S 1001 va := by rw [cg]; exact hV1.symm
    refine go _ (by decide) ⟨fun c => absurd c (by decide), fun _ => ⟨fun _ => ⟨hin 15 (by decide), ?_⟩, fun c => absurd c (by decide)⟩⟩
    rw [e1]
    exact hok _ _ ((h.thr 0).thr 0) rfl
  · subst n0
    have e1 : (rf_ui (rf_ui σ 0 0) 0 0).2.2.1 14 (nI (8 * e + ix)).toNatClampNeg = cs_i S 1000 va := by rw [cg]; exact hV0.symm
    refine go _ (by decide) ⟨fun c => absurd c (by decide), fun _ => ⟨fun c => absurd rfl c, fun _ => ⟨hin 14 (by decide), ?_⟩⟩⟩
    rw [e1]
    exact hok _ _ ((h.thr 0).thr 0) rfl
end KYJ
