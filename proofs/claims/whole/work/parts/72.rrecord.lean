/-! ===== reading a record, both in step ===== -/
theorem bdR.to {W : (Int32 → rf_S → Prop) → Prop} {rc m f0 te : Nat} {S S1 S2 : cs_S} {σ : rf_S} (h : bdR W rc m f0 te S S1 σ) (g : rg rc S S2) (e7 : cs_i S2 700 rc = cs_i S1 700 rc) (e71 : cs_i S2 701 rc = cs_i S1 701 rc) : bdR W rc m f0 te S S2 σ :=
  fun Q hQ => h Q (fun σ' hb => hQ σ' ⟨g, hb.2.1, by rw [e7]; exact hb.2.2.1, by rw [e7]; exact hb.2.2.2.1, by rw [e71]; exact hb.2.2.2.2⟩)
section REC
variable {G : Nat → Nat} {rc tp z p te nw : Nat} {bf : Nat → Nat} {S : cs_S} {σ : rf_S} {bs : Int32} {post : Option Nat → cs_S → Prop}
theorem sm_rec (hJ : rdJ S σ rc tp z p bf) (hp : p < z) (hG0 : cs_k S (G 0) = 20 ∧ cs_n S (G 0) = 0) (h20 : σ.1 20 = nI te) (hte : te + 192 ≤ 24000) (hnw : nw ≤ 2000000000) (h22 : σ.1 22 = bs) (h21 : σ.1 21 = nI nw)
    (hok : ∀ q (S' : cs_S) (σ' : rf_S) p' te' m tn, p + 6 + 4 * m ≤ p' → nw ≤ tn → tn ≤ 2000000000 → rdJ S' σ' rc tp z p' bf → rg rc S S' → sg 4000 32000 te σ σ' → σ'.1 20 = nI te' → te ≤ te' → te' + p ≤ te + p' → σ'.1 31 = nI tn → cs_k S q = 0 → cs_i S' 400 q = nI tn → cs_i S' 402 q = -1 → (∀ vs, cs_r S' 404 q = some vs → cs_k S vs = 0) → evR S' σ' te' q 4000 m → (∀ Q : Int32 → rf_S → Prop, Q 1 σ' → wp_X12_readsRecord Q σ (nI 4000)) → post (some q) S')
    (hbad : ∀ S', rg rc S S' → ¬ cs_i S' 700 rc = 0 → bdR (fun Q => wp_X12_readsRecord Q σ (nI 4000)) rc 4000 32000 te S S' σ → post none S') : wp_X6_readRecord post G 19 247 S rc bs (nI nw) := by
  obtain ⟨k1, k2, k3, k4, k5, k6, k7, k8⟩ := id hJ.1
  have hlive : cs_k S rc ≠ 0 := by rw [k1]; decide
  have hGl : cs_k S (G 0) ≠ 0 := by rw [hG0.1]; decide
  have ea := hJ.2.2.2.2.1 _ hp
  have er := hJ.2.2.2.2.2 _ hp
  have hb := hJ.2.2.2.1 _ hp
  have hdd : ∀ S1, rg rc S S1 → ¬ cs_i S1 700 rc = 0 → bdR (fun Q => wp_X12_readsRecord Q σ (nI 4000)) rc 4000 32000 te S S1 σ → ∀ t, w_X6_readRecord_55 post G 19 247 S1 0 0 rc (nI p) t ∧ ∀ ta, w_X6_readRecord_48 post G 19 247 S1 0 0 rc (nI p) ta t := by
    intro S1 g1 hf1 hB t
    have hD := rdD.of hJ.1 g1 hf1
    have h55 : w_X6_readRecord_55 post G 19 247 S1 0 0 rc (nI p) t := rr_55d (by omega) (by omega) (by omega) hD g1 (fun S' g' e7 e71 => hbad S' g' (by rw [e7]; exact hf1) (hB.to g' e7 e71))
    exact ⟨h55, fun ta => ⟨by omega, by omega, hD.1, rd_fail2 hD.1 hf1 h55⟩⟩
  refine ⟨k1, ?_⟩
  by_cases h229 : bf p = 229
  · have hrg1 : rg rc S (cs_ui S 706 rc (nI (p + 1))) := rg.ui (by omega)
    have hsg1 : sg 4000 32000 te σ (rf_ui σ 4 (nI (p + 1))) := sg.rfl.ui (by omega)
    have hJ1 : rdJ (cs_ui S 706 rc (nI (p + 1))) (rf_ui σ 4 (nI (p + 1))) rc tp z (p + 1) bf := hJ.on2 hrg1 hsg1 (by rw [iui, if_neg (fun q => absurd q.1 (by decide))]; exact hJ.2.2.1) (by rw [iui, if_pos ⟨rfl, rfl⟩]) (by rw [r1ui, if_pos rfl]) hp
    have ep : cs_i (cs_ui S 706 rc (nI (p + 1))) 706 rc = nI (p + 1) := by rw [iui, if_pos ⟨rfl, rfl⟩]
    refine rd_ok hJ.1 hJ.2.2.1 hp (by rw [ea, h229]; decide) (by rw [ea, h229]; decide) ⟨k1, ?_⟩
    have hR1 : ∀ Q : Int32 → rf_S → Prop, wp_X12_readsUnsigned (fun r20 σ20 => (¬ r20 = 0 → (0 < (lg_cmp (((σ20.1 22).toInt64) + (σ20.2.1 27)) 2000000000) → w_X12_readsRecord_85 Q σ20 (nI (p + 1))) ∧ (¬ 0 < (lg_cmp (((σ20.1 22).toInt64) + (σ20.2.1 27)) 2000000000) → (0 ≤ (lg_cmp (((σ20.1 22).toInt64) + (σ20.2.1 27)) ((σ20.1 21).toInt64)) → wp_X12_readsCount (fun r21 σ21 => (r21 = 0 → w_X12_readsRecord_120 Q σ21) ∧ (¬ r21 = 0 → wp_X12_readsLetters (fun r22 σ22 => (¬ r22 = 0 → vp_in (nI 4000) (rf_n 11) ∧ vp_in (nI 4000) (rf_n 12) ∧ wp_X12_readsCount (fun r23 σ23 => (¬ r23 = 0 → vp_in (nI 4000) (rf_n 9) ∧ ∃ n9, w_X12_readsRecord_173 Q n9 (rf_ua σ23 9 4000 (σ23.1 28)) (nI 4000) (nI p) (σ23.1 20) 0) ∧ (r23 = 0 → Q 0 σ23)) (rf_ub (rf_ub σ22 11 4000 (σ22.2.1 29)) 12 4000 (σ22.2.1 30)) 0 8) ∧ (r22 = 0 → w_X12_readsRecord_120 Q σ22)) σ21 (σ21.1 28))) (rf_ui σ20 31 ((((σ20.1 22).toInt64) + (σ20.2.1 27)).toInt32)) 1 12) ∧ (¬ 0 ≤ (lg_cmp (((σ20.1 22).toInt64) + (σ20.2.1 27)) ((σ20.1 21).toInt64)) → w_X12_readsRecord_85 Q σ20 (nI (p + 1))))) ∧ (r20 = 0 → Q 0 σ20)) (rf_ui σ 4 (nI (p + 1))) → wp_X12_readsRecord Q σ (nI 4000) := by
      intro Q hQ
      show wp_X12_byteAt _ σ (σ.1 4)
      rw [hJ.2.1.2.1]
      refine re_byte hJ.2.1 hp ?_
      rw [er, h229]
      refine ⟨fun _ => ?_, fun hc => absurd (by decide) hc⟩
      rw [hJ.2.1.2.1, nI_1, nI_clamp (by decide)]
      exact hQ
    refine sm_u (m := 4000) (f0 := 32000) (te := te) hJ1 (fun v p' S2 σ2 hpp hJ2 g2 s2 e20 e31 e22 e27 re2 => ?_) (fun y S2 g2 hf2 hB2 => ?_)
    · rw [k6, ep]
      have g02 := hrg1.trans g2
      have s02 := hsg1.trans s2
      have q22 : σ2.1 22 = bs := (s02.1 22 (by decide) (by decide) (by decide) (by decide) (by decide) (by decide)).trans h22
      have q21 : σ2.1 21 = nI nw := (s02.1 21 (by decide) (by decide) (by decide) (by decide) (by decide) (by decide)).trans h21
      -- a time that is refused
      have href : (0 < lg_cmp (bs.toInt64 + v) 2000000000 ∨ (¬ 0 < lg_cmp (bs.toInt64 + v) 2000000000 ∧ ¬ 0 ≤ lg_cmp (bs.toInt64 + v) (nI nw).toInt64)) → w_X6_readRecord_48 post G 19 247 S2 0 0 rc (nI p) (nI (p + 1)) (bs.toInt64 + v) := by
        intro hc
        have hB := rdB.mk (rc := rc) (m := 4000) (f0 := 32000) (te := te) (S := S) (S1 := S2) (σ := σ) (σ1 := σ2) (c := 3) (a := nI (p + 1)) g02 s02 (by decide)
        refine ⟨by omega, by omega, hJ2.1.1, rd_fail hJ2.1.1 hJ2.2.2.1 (hdd _ hB.1 hB.2.2.1 (fun Q hQ => hR1 Q (re2 _ ⟨fun _ => ?_, fun q => absurd q (by decide)⟩)) _).1⟩
        rw [q22, q21, e27]
        rcases hc with hc | ⟨hc1, hc2⟩
        · exact ⟨fun _ => ⟨rfl, hQ _ hB⟩, fun hn => absurd hc hn⟩
        · exact ⟨fun hn => absurd hn hc1, fun _ => ⟨fun hn => absurd hn hc2, fun _ => ⟨rfl, hQ _ hB⟩⟩⟩
      refine ⟨fun hc => href (Or.inl hc), fun hc1 => ⟨fun hc2 => ?_, fun hc2 => href (Or.inr ⟨hc1, hc2⟩)⟩⟩
      obtain ⟨tn, ht1, ht2, ht3⟩ := tm_ok hnw hc1 hc2
      -- the kind
      have s3 : sg 4000 32000 te σ2 (rf_ui σ2 31 (nI tn)) := sg.rfl.ui (by omega)
      have hJ3 : rdJ S2 (rf_ui σ2 31 (nI tn)) rc tp z p' bf := hJ2.on2 rg.rfl s3 hJ2.2.2.1 hJ2.1.2.2.2.2.2.1 hJ2.2.1.2.1 hJ2.2.1.2.2.2
      have i9 : vp_in (nI 4000) (rf_n 9) := nI_in (N := 4001) (by decide) (by decide)
      have i11 : vp_in (nI 4000) (rf_n 11) := nI_in (N := 4001) (by decide) (by decide)
      have i12 : vp_in (nI 4000) (rf_n 12) := nI_in (N := 4001) (by decide) (by decide)
      have hR2 : ∀ Q : Int32 → rf_S → Prop, rwK (fun σ21 => Q 0 σ21) (fun σ22 => vp_in (nI 4000) (rf_n 11) ∧ vp_in (nI 4000) (rf_n 12) ∧ wp_X12_readsCount (fun r23 σ23 => (¬ r23 = 0 → vp_in (nI 4000) (rf_n 9) ∧ ∃ n9, w_X12_readsRecord_173 Q n9 (rf_ua σ23 9 4000 (σ23.1 28)) (nI 4000) (nI p) (σ23.1 20) 0) ∧ (r23 = 0 → Q 0 σ23)) (rf_ub (rf_ub σ22 11 4000 (σ22.2.1 29)) 12 4000 (σ22.2.1 30)) 0 8) (rf_ui σ2 31 (nI tn)) (nI 12) → wp_X12_readsRecord Q σ (nI 4000) := by
        intro Q hQ
        refine hR1 Q (re2 _ ⟨fun _ => ⟨fun hn => ?_, fun _ => ⟨fun _ => ?_, fun hn => ?_⟩⟩, fun q => absurd q (by decide)⟩)
        · rw [q22, e27] at hn; exact absurd hn hc1
        · rw [q22, e27, ht3]; exact hQ
        · rw [q22, q21, e27] at hn; exact absurd hc2 hn
      refine ⟨by omega, by omega, hJ2.1.1, sm_w (most := 12) (m := 4000) (f0 := 32000) (te := te) (by decide) hJ3 (fun n c S3 σ4 hn1 hn12 hJ4 g4 s4 f20 f31 f22 hW reW => ?_) (fun y S3 g4 hf4 hB4 => ?_)⟩
      · have s5 : sg 4000 32000 te σ4 (rf_ub (rf_ub σ4 11 4000 (σ4.2.1 29)) 12 4000 (σ4.2.1 30)) := (sg.rfl.ub (by omega)).ub (by omega)
        have hJ5 : rdJ S3 (rf_ub (rf_ub σ4 11 4000 (σ4.2.1 29)) 12 4000 (σ4.2.1 30)) rc tp z (p' + 1 + n) bf := hJ4.on2 rg.rfl s5 hJ4.2.2.1 hJ4.1.2.2.2.2.2.1 hJ4.2.1.2.1 hJ4.2.1.2.2.2
        have s05 : sg 4000 32000 te σ (rf_ub (rf_ub σ4 11 4000 (σ4.2.1 29)) 12 4000 (σ4.2.1 30)) := ((s02.trans s3).trans s4).trans s5
        have g04 := g02.trans g4
        refine ⟨hJ4.1.1, sm_b (m := 4000) (f0 := 32000) (te := te) (lo := 0) (hi := 8) (by decide) (by decide) hJ5 (fun S4 σ6 hp6 _ hm8 hJ6 g6 s6 d20 d31 d28 d22 re6 => ?_) (fun S4 g6 hf6 hB6 => ?_)⟩
        · generalize hmm : bf (p' + 1 + n) = m at hm8 d28
          have d20' : σ6.1 20 = nI te := d20.trans (f20.trans (e20.trans h20))
          have g06 := g04.trans g6
          refine ⟨nI_pos (by omega), ?_, by omega, ?_, fun q71 hq71 S72 e72 => ⟨nI_pos (by omega), ?_, by omega, ?_, fun q73 hq73 S74 e74 => ⟨m + 1, ?_⟩⟩⟩
          · rw [nI_clamp (by omega)]; show m * 8 ≤ 536870912; omega
          · rw [nI_clamp (by omega)]; omega
          · rw [nI_clamp (by omega)]; omega
          · rw [nI_clamp (by omega)]; omega
          · rw [nI_clamp (by omega)] at e72 e74 ⊢
            have hne : q71 ≠ q73 := fun e => by rw [e72, ← e, knewA, if_pos rfl] at hq73; exact absurd hq73 (by decide)
            have hg74 : gw S4 S74 := fun rc => by rw [e74, e72]; exact (rg.rfl.newA hq71).newA (by rw [← e72]; exact hq73)
            have hl4 : cs_k S4 rc ≠ 0 := g06.live hlive
            have g07 := g06.trans (hg74 rc)
            have s07 : sg 4000 32000 te σ (rf_ua σ6 9 4000 (nI m)) := (s05.trans s6).ua (by omega)
            have hJ7 : rdJ S74 (rf_ua σ6 9 4000 (nI m)) rc tp z (p' + 1 + n + 1) bf := hJ.on2 g07 s07 (by rw [hg74.i hl4]; exact hJ6.2.2.1) (by rw [hg74.i hl4]; exact hJ6.1.2.2.2.2.2.1) hJ6.2.1.2.1 hJ6.2.1.2.2.2
            have hrw : rwS S74 q71 q73 m := by
              rw [e74, e72]
              exact ⟨by rw [knewA, if_neg hne, knewA, if_pos rfl], by rw [nnewA, if_neg hne, nnewA, if_pos rfl], by rw [knewA, if_pos rfl], by rw [nnewA, if_pos rfl]⟩
            have hq73' : cs_k S q73 = 0 := (g06.trans (by rw [e72]; exact rg.rfl.newA hq71 : rg rc S4 S72)).dead hq73
            refine sm_fl (te0 := te) (st := p) hJ hG0 (g06.dead hq71) hq73' hm8 m 0 S74 (rf_ua σ6 9 4000 (nI m)) (p' + 1 + n + 1) te _ _ 0 (by omega) g07 s07 hJ7 (by omega) hrw (fun _ => rfl) (fun q => absurd q (by omega)) (fun i hi => absurd hi (by omega)) (by rw [r3ua, if_pos ⟨rfl, rfl⟩]) d20' (Nat.le_refl _) (by omega) (by omega) (by omega) (by omega) (fun S5 σ8 p2 te2 u2 v2 a1 a2 a3 a4 a5 a6 a7 a8 a9 a10 a11 a12 a13 a14 a15 a16 => ?_) (fun S5 a1 a2 a3 => hbad S5 a1 a2 (fun Q hQ => hR2 Q (reW _ _ ⟨i11, i12, re6 _ ⟨fun _ => ⟨i9, m + 1, ?_⟩, fun q => absurd q (by decide)⟩⟩)))
            · refine ⟨by omega, by omega, a3.1.1, fun hc => absurd a3.2.2.1 hc, fun _ => ⟨by omega, by omega, fun q hq S41 e41 => ?_⟩⟩
              subst e41
              have hk5 : cs_k (cs_new S5 q 4) q = 5 := by rw [knew, if_pos rfl]
              rw [ht3]
              refine ⟨hk5, fun S12 e12 => ?_⟩
              subst e12
              refine ⟨hk5, fun S14 e14 => ?_⟩
              subst e14
              refine ⟨hk5, fun S16 e16 => ?_⟩
              subst e16
              refine ⟨hk5, fun S18 e18 => ?_⟩
              subst e18
              refine ⟨hk5, fun S20 e20x => ?_⟩
              have hgE : gw S5 S20 := fun rc => by rw [e20x]; exact (((((rg.rfl.new hq).fui hq).ful hq).fui hq).fur hq).fur hq
              have hl5 : cs_k S5 rc ≠ 0 := by rw [a3.1.1]; decide
              have ln : cs_k S5 q71 ≠ 0 := by rw [a5.1]; decide
              have lv : cs_k S5 q73 ≠ 0 := by rw [a5.2.2.1]; decide
              have hrwE := a5.on (hgE rc)
              refine ⟨by omega, by omega, hok q S20 σ8 p2 te2 m tn (by omega) ht1 ht2 (a3.on2 (hgE rc) (sg.rfl (m := 0) (f0 := 0) (te := 0)) (by rw [hgE.i hl5]; exact a3.2.2.1) (by rw [hgE.i hl5]; exact a3.1.2.2.2.2.2.1) a3.2.1.2.1 a3.2.1.2.2.2) (a1.trans (hgE rc)) a2 a11 a12 a13 ?_ (a1.dead hq) ?_ ?_ ?_ ⟨?_, ⟨n, hn1, ?_⟩, hm8, a7, q71, q73, ?_, hrwE.1, hrwE.2.1, ?_, hrwE.2.2.1, hrwE.2.2.2, fun i hi => ?_⟩ (fun Q hQ => hR2 Q (reW _ _ ⟨i11, i12, re6 _ ⟨fun _ => ⟨i9, m + 1, ?_⟩, fun q => absurd q (by decide)⟩⟩))⟩
              · rw [a10, r1ua, d31]
                show σ4.1 31 = nI tn
                rw [f31, r1ui, if_pos rfl]
              · rw [e20x, iur, iur, iui, if_neg (fun e => absurd e.1 (by decide)), iul, iui, if_pos ⟨rfl, rfl⟩]
              · rw [e20x, iur, iur, iui, if_pos ⟨rfl, rfl⟩]
              · intro vs hv
                rw [e20x, rur, if_pos ⟨rfl, rfl⟩] at hv
                cases hv
                exact hq73'
              · rw [e20x]; exact hk5
              · rw [e20x, lur, lur, lui, lul, if_pos ⟨rfl, rfl⟩, a8, a9, r4ua, r4ua, d22, r4ub, if_neg (fun e => absurd e.1 (by decide)), r4ub, if_pos ⟨rfl, rfl⟩, r4ub, if_pos ⟨rfl, rfl⟩]
                exact hW
              · rw [e20x, rur, if_neg (fun e => absurd e.1 (by decide)), rur, if_pos ⟨rfl, rfl⟩]
              · rw [e20x, rur, if_pos ⟨rfl, rfl⟩]
              · obtain ⟨⟨n', l', b1, b2, b3⟩, ⟨va, b4, b5⟩, b6⟩ := a6 i hi
                have gn := hgE 0 q71 ln
                have gv := hgE 0 q73 lv
                refine ⟨⟨n', l', b1, b2, ?_⟩, ⟨va, (gv.2.2.2.2.2.2.2 i).trans b4, b5.onv hgE.v rfl rfl rfl (fun _ _ => rfl) (Nat.le_refl _)⟩, fun h0 => ?_⟩
                · rw [gn.2.2.2.2.2.2.1 i]; exact b3
                · rw [gn.2.2.2.2.2.2.1 i, gn.2.2.2.2.2.2.1 (i - 1)]; exact b6 h0
              · rw [d28, d20']; exact a16 Q hQ
            · rw [d28, d20']; exact a3 Q hQ
        · have hB : bdR (fun Q => wp_X12_readsRecord Q σ (nI 4000)) rc 4000 32000 te S S4 σ := fun Q hQ => hR2 Q (reW _ _ ⟨i11, i12, hB6 _ (fun σ' hb => ⟨fun q => absurd rfl q, fun _ => hQ σ' (hb.after g04 s05)⟩)⟩)
          exact rr_55n (by omega) (by omega) (by omega) (rdD.of hJ.1 (g04.trans g6) hf6) (g04.trans g6) (fun S' g' e7 e71 => hbad S' g' (by rw [e7]; exact hf6) (hB.to g' e7 e71)) c
      · have hB : bdR (fun Q => wp_X12_readsRecord Q σ (nI 4000)) rc 4000 32000 te S S3 σ := fun Q hQ => hR2 Q (hB4 _ _ (fun σ' hb => hQ σ' (hb.after g02 (s02.trans s3))))
        have hD := rdD.of hJ.1 (g02.trans g4) hf4
        exact ⟨hD.1, rd_dead hD.1 hf4 (rr_55n (by omega) (by omega) (by omega) hD (g02.trans g4) (fun S' g' e7 e71 => hbad S' g' (by rw [e7]; exact hf4) (hB.to g' e7 e71)) y)⟩
    · rw [k6, ep]
      have hB : bdR (fun Q => wp_X12_readsRecord Q σ (nI 4000)) rc 4000 32000 te S S2 σ := fun Q hQ => hR1 Q (hB2 _ (fun σ' hb => ⟨fun q => absurd rfl q, fun _ => hQ σ' (hb.after hrg1 hsg1)⟩))
      have hd := hdd S2 (hrg1.trans g2) hf2 hB
      exact ⟨fun _ => (hd _).2 _, fun _ => ⟨fun _ => (hd _).1, fun _ => (hd _).2 _⟩⟩
  · have hB := rdB.mk (rc := rc) (m := 4000) (f0 := 32000) (te := te) (S := S) (S1 := S) (σ := σ) (σ1 := σ) (c := 2) (a := nI p) rg.rfl sg.rfl (by decide)
    have hBR : bdR (fun Q => wp_X12_readsRecord Q σ (nI 4000)) rc 4000 32000 te S (cs_ui (cs_ui S 700 rc 2) 701 rc (nI p)) σ := by
      intro Q hQ
      show wp_X12_byteAt _ σ (σ.1 4)
      rw [hJ.2.1.2.1]
      refine re_byte hJ.2.1 hp ?_
      rw [er]
      refine ⟨fun hc => absurd ((nI_eq (b := 229) (by omega) (by decide)).mp hc) h229, fun _ => ⟨rfl, ?_⟩⟩
      rw [hJ.2.1.2.1]
      exact hQ _ hB
    have hd := hdd _ hB.1 hB.2.2.1 hBR
    refine rd_bad hJ.1 hJ.2.2.1 hp ?_ ⟨k1, k1, 1, cu_dead (k := 0) (n := 0) k1 hB.2.2.1 (by decide) (fun y => ?_)⟩
    · rw [ea]
      by_cases hlt : bf p < 229
      · exact Or.inl (nI_lt (b := 229) hlt (by decide))
      · exact Or.inr (nI_ge (a := 229) (by omega) (by omega))
    · rw [k6]
      exact ⟨fun _ => (hd _).2 _, fun _ => ⟨fun _ => (hd _).1, fun _ => (hd _).2 _⟩⟩
end REC
