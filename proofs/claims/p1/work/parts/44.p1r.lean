/-! ===== rules() on a fresh object; the claim's pure part for one call ===== -/
/-- a TEXT of no bytes -/
theorem scan0 {post : cs_S → Prop} {G : Nat → Nat} {S : cs_S} {sc tp kd pl am : Nat} (c1 : cs_k S sc = 10) (b1 : cs_k S tp = 20) (b2 : cs_n S tp = 2100) (c2 : cs_r S 900 sc = some kd) (c3 : cs_r S 901 sc = some pl) (c4 : cs_r S 902 sc = some am) (d1 : cs_k S kd = 20) (d2 : cs_n S kd = 2001) (d3 : cs_k S pl = 20) (d4 : cs_n S pl = 2001) (d5 : cs_k S am = 21) (d6 : cs_n S am = 2001)
    (h : post (cs_ui (cs_ual (cs_uai (cs_uai (cs_ui (cs_ui (cs_ur S 904 sc (some tp)) 905 sc 0) 906 sc 0) kd 0 1) pl 0 0) am 0 0) 906 sc 1)) : wp_X8_scan post G S sc (some tp) 0 := by
  have e9 : (if Int32.ofNat 2100 < (0 : Int32) then Int32.ofNat 2100 else 0) = 0 := by decide
  refine ⟨c1, fun S35 e35 => ⟨tp, rfl, ?_, ?_, fun S39 e39 => ⟨?_, fun S41 e41 => ⟨1, ?_⟩⟩⟩⟩
  · subst e35; exact b1
  · subst e35; exact c1
  · subst e39; subst e35; exact c1
  have e41' : S41 = cs_ui (cs_ui (cs_ur S 904 sc (some tp)) 905 sc 0) 906 sc 0 := by
    subst e41; subst e39; subst e35
    rw [nur, b2, e9]
  have q5 : cs_i S41 905 sc = 0 := by rw [e41']; simp [iui]
  have q6 : cs_i S41 906 sc = 0 := by rw [e41']; simp [iui]
  have k1 : cs_k S41 sc = 10 := by rw [e41']; exact c1
  have r0 : cs_r S41 900 sc = some kd := by rw [e41']; simp [rui, rur, c2]
  have r1 : cs_r S41 901 sc = some pl := by rw [e41']; simp [rui, rur, c3]
  have r2 : cs_r S41 902 sc = some am := by rw [e41']; simp [rui, rur, c4]
  have k2 : cs_k S41 kd = 20 := by rw [e41']; exact d1
  have k3 : cs_k S41 pl = 20 := by rw [e41']; exact d3
  have k4 : cs_k S41 am = 21 := by rw [e41']; exact d5
  have n2 : cs_n S41 kd = 2001 := by rw [e41']; exact d2
  have n3 : cs_n S41 pl = 2001 := by rw [e41']; exact d4
  have n4 : cs_n S41 am = 2001 := by rw [e41']; exact d6
  have z : (0 : Int32).toNatClampNeg = 0 := by decide
  have vin : vp_in 0 2001 := nI_in (c := 0) (by decide) (by decide)
  refine ⟨k1, fun _ => ⟨k1, fun _ => ⟨k1, fun r22 e22 => ⟨kd, e22.trans r0, k2, fun hc => absurd hc (by rw [n2, q6]; decide), fun _ r25 e25 => ⟨kd, e25.trans r0, k2, by rw [n2, q6]; exact vin, fun S28 e28 => ?_⟩⟩⟩, fun hc => absurd (by rw [q5]; decide) hc⟩, fun hc => absurd (by rw [q5]; decide) hc⟩
  rw [q6, z] at e28
  subst e28
  refine ⟨k1, fun r30 e30 => ⟨pl, e30.trans r1, k3, by rw [nuai, iuai, n3, q6]; exact vin, fun S33 e33 => ?_⟩⟩
  rw [iuai, q6, z, q5] at e33
  subst e33
  refine ⟨k1, fun r35 e35 => ⟨am, e35.trans r2, k4, by rw [nuai, nuai, iuai, iuai, n4, q6]; exact vin, fun S38 e38 => ?_⟩⟩
  rw [iuai, iuai, q6, z] at e38
  subst e38
  refine ⟨k1, fun S40 e40 => ?_⟩
  rw [iual, iuai, iuai, q6] at e40
  subst e40
  rw [e41']
  exact h
theorem byte0 {post : Int32 → rf_S → Prop} {σ : rf_S} {x : Int32} (h3 : σ.1 3 ≤ x) (h : post (-1) σ) : wp_X12_byteAt post σ x := ⟨fun _ => h, fun hc => absurd h3 hc⟩
theorem next0 {post : rf_S → Prop} {σ : rf_S} (h3 : σ.1 3 = 0) (h4 : σ.1 4 = 0) (h : post (rf_ui (rf_ui σ 55 0) 54 0)) : wp_X12_next post σ := by
  have le : σ.1 3 ≤ σ.1 4 := by rw [h3, h4]; decide
  refine ⟨1, byte0 le ⟨fun hc => absurd hc (by decide), fun _ => byte0 le ⟨fun _ => byte0 (by show (rf_ui σ 55 (σ.1 4)).1 3 ≤ _; rw [r1ui, h3, h4]; decide) ⟨fun _ => ?_, fun hc => absurd ?_ hc⟩, fun hc => absurd hc (by decide)⟩⟩⟩
  · refine ⟨fun hc => absurd hc (by decide), fun _ => ?_⟩
    rw [h4]
    exact h
  · rw [r1ui, h4, if_pos rfl]
    decide
theorem ref_rules0 {post : Int32 → rf_S → Prop} {σ : rf_S} (hR : rf_F σ) (h : ∀ σ1, post 0 σ1) : wp_X12_rules post σ := by
  have r2 := hR.1 2 (by decide) (by decide)
  refine ⟨1, fun _ => next0 ?_ ?_ ⟨1, fun _ => ⟨fun _ => ⟨rfl, fun _ => el_all ?_, fun hc => absurd hc (by decide)⟩, fun hc => absurd ?_ hc⟩, fun hc => absurd ?_ hc⟩, fun hc => absurd ?_ hc⟩
  · simp [r1ui, r2]
  · simp [r1ui]
  · rw [rf_E1]
    simp only [r1ui]
    simp
    exact h _
  · simp only [r1ui]
    simp [r2]
  · simp only [r1ui]
    simp
  · simp only [r1ui]
    simp [r2]
section P1R
variable {Cm Sm : Nat} {xs : Nat → Int32} {G : Nat → Nat} {xo ob i u v : Nat} {K : cs_S → rf_S → Nat → Nat → Prop} {S : cs_S} {σ : rf_S}
set_option maxHeartbeats 4000000 in
theorem p1_rules (hF : cf_F G S xo) (hR : rf_F σ) (hK : ∀ S σ u v, K S σ u v) (hu : u + 5 ≤ Cm) (hv : v + 98 ≤ Sm) : lw_rules Cm Sm xs G xo ob i K S σ u v := by
  obtain ⟨tp, sc, kd, pl, am, rv, rc, pk, wt, ru, la, td, ⟨⟨a1, a2, a3, a4, a5⟩, ⟨b1, b2⟩, ⟨c1, c2, c3, c4, c5⟩, ⟨d1, d2, d3, d4, d5, d6, d7, d8, d9⟩, ⟨e1, e2, e3, e4⟩, ⟨f1, f2, f3, f4, f5⟩, ⟨g1, g2, g3, g4, -⟩⟩, ⟨h1, h2, h3⟩, -⟩ := hF
  refine ⟨5, 98, hu, hv, a1, fun r59 e59 r60 e60 => ⟨sc, e59.trans a3, c1, ?_⟩⟩
  rw [e60, a2, h1]
  refine scan0 c1 b1 b2 c2 c3 c4 d1 d2 d3 d4 d5 d6 ⟨a1, fun S65 e65 => ⟨by decide, by decide, fun pa hpa S67 e67 => ?_⟩⟩
  have t1 : cs_k S65 xo = 13 := by rw [e65]; exact a1
  have t2 : cs_k S65 sc = 10 := by rw [e65]; exact c1
  have t3 : cs_k S65 kd = 20 := by rw [e65]; exact d1
  have t4 : cs_n S65 kd = 2001 := by rw [e65]; exact d2
  have t5 : cs_r S65 1204 xo = some sc := by rw [e65]; simp [rui, rual, ruai, rur, a3]
  have t6 : cs_r S65 900 sc = some kd := by rw [e65]; simp [rui, rual, ruai, rur, c2]
  have t7 : cs_ai S65 kd 0 = 1 := by rw [e65]; simp [aiui, aiual, aiuai, aiur, g4]
  clear e65
  have y1 := (cs_ne hpa t1).symm
  have y2 := (cs_ne hpa t2).symm
  have y3 := (cs_ne hpa t3).symm
  have u0 : cs_k S67 pa = 7 := by rw [e67]; simp [knew]
  have u1 : cs_k S67 xo = 13 := by rw [e67]; simp [knew, y1, t1]
  have u2 : cs_k S67 sc = 10 := by rw [e67]; simp [knew, y2, t2]
  have u3 : cs_k S67 kd = 20 := by rw [e67]; simp [knew, y3, t3]
  have u4 : cs_n S67 kd = 2001 := by rw [e67]; exact t4
  have u5 : cs_r S67 1204 xo = some sc := by rw [e67]; simp [rnew, y1, t5]
  have u6 : cs_r S67 900 sc = some kd := by rw [e67]; simp [rnew, y2, t6]
  have u7 : cs_ai S67 kd 0 = 1 := by rw [e67]; exact t7
  have u8 : cs_i S67 602 pa = 0 := by rw [e67]; simp [inew]
  have u9 : cs_i S67 601 pa = 0 := by rw [e67]; simp [inew]
  clear e67
  have n12 : (12 : Int32).toNatClampNeg = 12 := by decide
  have n0 : (0 : Int32).toNatClampNeg = 0 := by decide
  refine ⟨u1, fun r69 e69 => ⟨1, 12, by decide, by decide, u0, fun S15 e15 => ⟨by decide, by decide, by decide, by decide, fun rd hrd S17 e17 => ?_⟩⟩⟩
  have hrd' : cs_k S67 rd = 0 := by rw [e15] at hrd; exact hrd
  rw [n12] at e17
  have z0 := (cs_ne hrd' u0).symm
  have z1 := (cs_ne hrd' u1).symm
  have z2 := (cs_ne hrd' u2).symm
  have z3 := (cs_ne hrd' u3).symm
  have e17' : S17 = cs_newA (cs_ur S67 604 pa r69) rd 22 12 := by rw [e17, e15]
  clear e17 e15 hrd
  refine ⟨by rw [e17']; simp [knewA, kur, z0, u0], fun S19 e19 => ⟨sc, e69.trans u5, by rw [e19, e17']; simp [knewA, kur, z2, u2], fun r22 e22 => ⟨kd, ?_, by rw [e19, e17']; simp [knewA, kur, z3, u3], ?_, by rw [e19, e17']; simp [knewA, kur, z0, u0], fun S26 e26 => ?_⟩⟩⟩
  · rw [e22, e19, e17']
    simp [rur, rnewA, u6]
  · have : cs_n S19 kd = 2001 := by rw [e19, e17']; simp [nur, nnewA, z3, u4]
    rw [this]
    exact nI_in (c := 0) (by decide) (by decide)
  have e26' : S26 = cs_ui (cs_ur (cs_newA (cs_ur S67 604 pa r69) rd 22 12) 600 pa (some rd)) 606 pa 1 := by
    rw [e26, e19, e17', n0]
    congr 1
    simp [aiur, ainewA, z3, u7]
  clear e26 e22 e19 e17'
  have v0 : cs_k S26 pa = 7 := by rw [e26']; simp [kui, kur, knewA, z0, u0]
  have v1 : cs_k S26 xo = 13 := by rw [e26']; simp [kui, kur, knewA, z1, u1]
  have v2 : cs_k S26 rd = 22 := by rw [e26']; simp [kui, kur, knewA]
  have v3 : cs_n S26 rd = 12 := by rw [e26']; simp [nui, nur, nnewA]
  have v4 : cs_i S26 602 pa = 0 := by rw [e26']; simp [iui, iur, inewA, u8]
  have v5 : cs_i S26 601 pa = 0 := by rw [e26']; simp [iui, iur, inewA, u9]
  have v6 : cs_i S26 606 pa = 1 := by rw [e26']; simp [iui]
  have v7 : cs_r S26 600 pa = some rd := by rw [e26']; simp [rui, rur]
  clear e26'
  refine ⟨1, by decide, by decide, fun hc => absurd hc (by decide), fun _ => ⟨pa, rfl, v0, v0, fun hc => absurd v4 hc, fun _ => ⟨fun _ => ⟨rfl, fun _ => ⟨by decide, by decide, pa, rfl, v0, v1, fun S38 e38 => ⟨by rw [e38]; exact v1, fun S40 e40 => ?_⟩⟩, fun hc => absurd rfl hc⟩, fun hc => absurd v6 hc⟩⟩⟩
  have w0 : cs_k S40 pa = 7 := by rw [e40, e38]; exact v0
  have w1 : cs_k S40 xo = 13 := by rw [e40, e38]; exact v1
  have w2 : cs_k S40 rd = 22 := by rw [e40, e38]; exact v2
  have w3 : cs_n S40 rd = 12 := by rw [e40, e38]; exact v3
  have w4 : cs_i S40 602 pa = 0 := by rw [e40, e38]; simp [iui, v4]
  have w5 : cs_i S40 601 pa = 0 := by rw [e40, e38]; simp [iui, v5]
  have w7 : cs_r S40 600 pa = some rd := by rw [e40, e38]; simp [rui, v7]
  clear e40 e38
  refine ⟨w0, fun _ => ⟨by decide, by decide, fun nw hnw S43 e43 => ?_⟩, fun hc => absurd w4 hc⟩
  have s0 := (cs_ne hnw w0).symm
  have s1 := (cs_ne hnw w1).symm
  have s2 := (cs_ne hnw w2).symm
  have x0 : cs_k S43 nw = 12 := by rw [e43]; simp [knew]
  have x1 : cs_k S43 pa = 7 := by rw [e43]; simp [knew, s0, w0]
  have x2 : cs_k S43 xo = 13 := by rw [e43]; simp [knew, s1, w1]
  have x3 : cs_k S43 rd = 22 := by rw [e43]; simp [knew, s2, w2]
  have x4 : cs_n S43 rd = 12 := by rw [e43]; exact w3
  have x5 : cs_r S43 600 pa = some rd := by rw [e43]; simp [rnew, s0, w7]
  have x6 : cs_i S43 601 pa = 0 := by rw [e43]; simp [inew, s0, w5]
  clear e43
  refine ⟨x1, fun r45 e45 => ⟨2, 67, by decide, by decide, ?_⟩⟩
  rw [e45, x5, x6]
  refine ci_X10 x0 x3 (by decide) (by decide) (fun la2 td2 hla htd hne => ?_)
  have o1 := (cs_ne hla x2).symm
  have o2 := (cs_ne htd x2).symm
  have o3 := (cs_ne hla x0).symm
  have o4 := (cs_ne htd x0).symm
  refine ⟨by simp [ci_S10, kui, kur, knew, knewA, o1, o2, x2], fun S48 e48 => ⟨by rw [e48]; simp [ci_S10, kui, kur, knew, knewA, o1, o2, x2], fun r50 e50 => ⟨nw, by rw [e50, e48]; simp [rur], by rw [e48]; simp [ci_S10, kui, kur, knew, knewA, o3, o4, x0], ?_⟩⟩⟩
  have ez : cs_i S48 1101 nw = 0 := by
    rw [e48]
    have e9 : (if Int32.ofNat 12 < (0 : Int32) then Int32.ofNat 12 else 0) = 0 := by decide
    simp [ci_S10, iur, iui, inew, inewA, o4, x4, e9]
  rw [ez]
  exact ref_rules0 hR (fun σ1 => ⟨rfl, hK _ _ _ _⟩)
/-- one call, or none -/
theorem p1_all {L : Nat} (hL : L ≤ 6) {Cm Sm : Nat} (hCm : 100 ≤ Cm) (hSm : 800000 ≤ Sm) {xs : Nat → Int32} : lw_all Cm Sm L xs := by
  intro G xo hG hxo
  refine ⟨12, 8517, by omega, by omega, ci_X11 hG hxo (fun S1 hF => el_all (fun ob hob => ?_))⟩
  have hF2 := cf_newA hF hob
  have hR := rf_F0
  by_cases h6 : 6 ≤ L
  · have hL6 : L = 6 := by omega
    subst hL6
    have hK : ∀ (S : cs_S) (σ : rf_S) (u v : Nat), lw_run Cm Sm 6 xs G xo ob 0 (0 + 6) S σ u v := fun _ _ _ _ => by
      show ¬ (0 + 6) + 6 ≤ 6
      omega
    have hk13 : cs_k (cs_newA S1 ob 21 1) xo = 13 := by
      obtain ⟨tp, sc, kd, pl, am, rv, rc, pk, wt, ru, la, td, ⟨⟨a1, -⟩, -⟩, -⟩ := hF2
      exact a1
    exact ⟨1, fun _ => ⟨hk13, fun _ => p1_feed hF2 hR hK, fun _ => p1_end hF2 hR hK, fun _ => p1_rules hF2 hR hK (by omega) (by omega), fun _ => p1_fault hF2 hR hK, fun _ => p1_place hF2 hR hK, fun _ => p1_take hF2 hR hK (by omega) (by omega), fun _ => p1_pass hF2 hR hK (by omega) (by omega), fun _ => p1_count hF2 hR hK, fun _ => p1_alert hF2 hR hK (by omega) (by omega), fun _ => p1_key hF2 hR hK (by omega) (by omega), fun _ => p1_rule hF2 hR hK (by omega) (by omega), fun _ => p1_event hF2 hR hK (by omega) (by omega), fun _ => p1_pack hF2 hR hK (by omega) (by omega), fun _ => p1_octet hF2 hR hK (by omega) (by omega), fun _ => hK _ _ _ _⟩⟩
  · refine ⟨0, ?_⟩
    show ¬ 0 + 6 ≤ L
    omega
end P1R
