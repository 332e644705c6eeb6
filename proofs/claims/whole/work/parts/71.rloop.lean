/-! ===== the loop over a record's fields ===== -/
theorem rdB.u20 {rc m f0 te : Nat} {S S' : cs_S} {σ σ' : rf_S} {x : Int32} (h : rdB rc m f0 te S S' σ σ') : rdB rc m f0 te S S' σ (rf_ui σ' 20 x) :=
  ⟨h.1, h.2.1.ui (by omega), h.2.2.1, by rw [r1ui, if_neg (by decide)]; exact h.2.2.2.1, by rw [r1ui, if_neg (by decide)]; exact h.2.2.2.2⟩
section FL2
variable {G : Nat → Nat} {rc tp z p00 m nm vs te0 st : Nat} {bf : Nat → Nat} {S0 : cs_S} {σ0 : rf_S} {x5 x7 : Int64} {post : Option Nat → cs_S → Prop}
theorem sm_fl (hJ0 : rdJ S0 σ0 rc tp z p00 bf) (hG0 : cs_k S0 (G 0) = 20 ∧ cs_n S0 (G 0) = 0) (hnm0 : cs_k S0 nm = 0) (hvs0 : cs_k S0 vs = 0) (hm : m ≤ 8) : ∀ r k (S : cs_S) (σ : rf_S) (p te u v : Nat) (ah : Int64), k + r = m → rg rc S0 S → sg 4000 32000 te0 σ0 σ → rdJ S σ rc tp z p bf → st ≤ p → rwS S nm vs m → (k = 0 → ah = 0) → (0 < k → ah = cs_al S nm (k - 1)) → flR S σ te nm vs 4000 k → σ.2.2.1 9 4000 = nI m → σ.1 20 = nI te → te0 ≤ te → te + 24 * r ≤ 24000 → te + p00 ≤ te0 + p → u ≤ 2 + 2 * k → v ≤ 16 + 28 * k →
    (∀ (S' : cs_S) (σ' : rf_S) p' te' u' v', rg rc S0 S' → sg 4000 32000 te0 σ0 σ' → rdJ S' σ' rc tp z p' bf → p + 4 * r + 1 ≤ p' → rwS S' nm vs m → flR S' σ' te' nm vs 4000 m → σ'.2.2.1 9 4000 = nI m → σ'.2.2.2 11 4000 = σ.2.2.2 11 4000 → σ'.2.2.2 12 4000 = σ.2.2.2 12 4000 → σ'.1 31 = σ.1 31 → σ'.1 20 = nI te' → te0 ≤ te' → te' + p00 ≤ te0 + p' → u' ≤ 18 → v' ≤ 240 → (∀ Q : Int32 → rf_S → Prop, Q 1 σ' → w_X12_readsRecord_173 Q (r + 1) σ (nI 4000) (nI st) (nI te0) (nI k)) → w_X6_readRecord_208 post G 19 247 S' u' v' rc x5 x7 (some nm) (some vs)) →
    (∀ S', rg rc S0 S' → ¬ cs_i S' 700 rc = 0 → bdR (fun Q => w_X12_readsRecord_173 Q (r + 1) σ (nI 4000) (nI st) (nI te0) (nI k)) rc 4000 32000 te0 S0 S' σ0 → post none S') →
    w_X6_readRecord_91 post G 19 247 (r + 1) S u v rc (nI st) x5 x7 (nI m) (some nm) (some vs) ah (nI k) := by
  intro r
  induction r with
  | zero =>
    intro k S σ p te u v ah hk hg hs hJ hst hrw ha0 ha1 hfl h9 h20 hte hte2 hte3 hu hv hok hbad
    have : k = m := by omega
    subst this
    refine ⟨by omega, by omega, fun _ => sm_ck hm hg hs hJ hst h9 (by omega) (by omega) (fun S' σ' g s J e31 e20 e22 re => ?_) hbad, fun hc => absurd (nI_le (Nat.le_refl _) (by omega)) hc⟩
    have hrwS := hrw.on g
    refine hok S' σ' (p + 1) te u v (hg.trans g) (hs.trans s) J (by omega) hrwS (fun i hi => ?_) (by rw [e22]; exact h9) (by rw [e22]) (by rw [e22]) e31 (e20.trans h20) hte (by omega) (by omega) (by omega) re
    obtain ⟨⟨n, l, b1, b2, b3⟩, ⟨va, b4, b5⟩, b6⟩ := hfl i hi
    have gn := g nm (by rw [hrw.1]; decide)
    have gv := g vs (by rw [hrw.2.2.1]; decide)
    refine ⟨⟨n, l, b1, b2, ?_⟩, ⟨va, (gv.2.2.2.2.2.2.2 i).trans b4, ?_⟩, fun h0 => ?_⟩
    · rw [gn.2.2.2.2.2.2.1 i, e22]; exact b3
    · refine b5.onv (g.v hJ.1.1) ?_ ?_ ?_ (fun j _ => ?_) (Nat.le_refl _) <;> rw [e22]
    · rw [gn.2.2.2.2.2.2.1 i, gn.2.2.2.2.2.2.1 (i - 1)]; exact b6 h0
  | succ r ih =>
    intro k S σ p te u v ah hk hg hs hJ hst hrw ha0 ha1 hfl h9 h20 hte hte2 hte3 hu hv hok hbad
    have hf : 32000 + k < 32008 := by omega
    have hf31 : 32000 + k < 2 ^ 31 := by omega
    have i13 : vp_in (nI (32000 + k)) (rf_n 13) := nI_in (N := 32008) hf (by decide)
    -- a step of the reference's loop
    have hstep : ∀ (Q : Int32 → rf_S → Prop), wp_X12_readsField (fun r18 σ18 => (¬ r18 = 0 → w_X12_readsRecord_173 Q (r + 1) σ18 (nI 4000) (nI st) (nI te0) (nI (k + 1))) ∧ (r18 = 0 → Q 0 (rf_ui σ18 20 (nI te0)))) σ (nI (32000 + k)) (nI k) → w_X12_readsRecord_173 Q (r + 1 + 1) σ (nI 4000) (nI st) (nI te0) (nI k) := by
      intro Q hQ
      refine ⟨nI_in (N := 4001) (by decide) (by decide), fun hc => ?_, fun _ => ?_⟩
      · rw [nI_clamp (by decide), h9] at hc
        exact absurd hc (nI_ge (by omega) (by omega))
      · rw [nI_1, show (8 * nI 4000) + nI k = nI (32000 + k) from by rw [show (8 * nI 4000 : Int32) = nI 32000 from by decide, nI_add]]
        exact hQ
    have hnml : cs_k S nm ≠ 0 := by rw [hrw.1]; decide
    have hvsl : cs_k S vs ≠ 0 := by rw [hrw.2.2.1]; decide
    refine ⟨by omega, by omega, fun hc => absurd hc (nI_ge (by omega) (by omega)), fun _ => ⟨hJ.1.1, fun hc => absurd hJ.2.2.1 hc, fun _ => sm_w (most := 8) (m := 4000) (f0 := 32000) (te := te0) (by decide) hJ (fun n c S1 σ1 hn1 hn8 hJ1 g1 s1 e20 e31 e22 hW reW => ?_) (fun y S1 g1 hf1 hB => ?_)⟩⟩
    · -- the name is read
      have hrw1 := hrw.on g1
      have hk1 : cs_k S1 rc = 8 := hJ1.1.1
      refine ⟨nm, rfl, hrw1.1, by rw [hrw1.2.1]; exact nI_in (by omega) (by omega), fun S63 e63 => ?_⟩
      rw [nI_clamp (by omega)] at e63
      have hal : cs_al S63 nm k = c := by rw [e63, alual, if_pos ⟨rfl, rfl⟩]
      have halo : ∀ i, i ≠ k → cs_al S63 nm i = cs_al S nm i := fun i hi => by rw [e63, alual, if_neg (fun q => hi q.2)]; exact (g1 nm hnml).2.2.2.2.2.2.1 i
      have hg63 : rg rc S0 S63 := by rw [e63]; exact (hg.trans g1).fual hnm0
      have hrw63 : rwS S63 nm vs m := by rw [e63]; exact hrw1
      have hv63 : rgv S S63 := by rw [e63]; exact (g1.v hJ.1.1).trans rgv.ual
      have har63 : ∀ i, cs_ar S63 vs i = cs_ar S vs i := fun i => by rw [e63, arual]; exact (g1 vs hvsl).2.2.2.2.2.2.2 i
      have h700 : cs_i S63 700 rc = 0 := by rw [e63, iual]; exact hJ1.2.2.1
      have h706 : cs_i S63 706 rc = nI (p + 1 + n) := by rw [e63, iual]; exact hJ1.1.2.2.2.2.2.1
      have hk63 : cs_k S63 rc = 8 := by rw [e63]; exact hk1
      have hσ2 : sg 4000 32000 te0 σ (rf_ub σ1 13 (32000 + k) (σ1.2.1 29)) := s1.ub (by omega)
      have hJ3 : rdJ S63 (rf_ub σ1 13 (32000 + k) (σ1.2.1 29)) rc tp z (p + 1 + n) bf := hJ0.on2 hg63 (hs.trans hσ2) h700 h706 hJ1.2.1.2.1 hJ1.2.1.2.2.2
      have hcond : 0 < lg_cmp c ah ↔ (k = 0 ∨ 0 < lg_cmp (σ1.2.1 29) (σ.2.2.2 13 (32000 + (k - 1)))) := by
        by_cases hk0 : k = 0
        · rw [ha0 hk0]
          exact ⟨fun _ => Or.inl hk0, fun _ => wd_pos hW hn1⟩
        · obtain ⟨⟨n', l', b1, b2, b3⟩, -, -⟩ := hfl (k - 1) (by omega)
          rw [ha1 (by omega), wd_ord hW b3 hn8 b2]
          constructor
          · intro h; exact Or.inr h
          · intro h
            rcases h with h | h
            · exact absurd h hk0
            · exact h
      -- what the reference does behind the name
      have hKK : ∀ (Q : Int32 → rf_S → Prop), (0 < lg_cmp c ah → w_X12_readsField_67 Q (rf_ub σ1 13 (32000 + k) (σ1.2.1 29)) (nI (32000 + k))) → (¬ 0 < lg_cmp c ah → Q 0 (rf_ui (rf_ui (rf_ub σ1 13 (32000 + k) (σ1.2.1 29)) 5 2) 6 (nI p))) → wp_X12_readsField Q σ (nI (32000 + k)) (nI k) := by
        intro Q h1 h2
        rw [rf_field, nI_clamp hf31]
        refine reW _ _ ⟨i13, fun hc => h1 (hcond.mpr (Or.inl ?_)), fun hc => ?_⟩
        · have := (nI_leI (b := 0) (by omega) (by decide)).mp hc
          omega
        · have hk0 : 0 < k := Nat.not_le.mp (fun q => hc (nI_le (b := 0) q (by decide)))
          have ek : nI (32000 + k) - 1 = nI (32000 + (k - 1)) := by
            rw [show 32000 + k = 32000 + (k - 1) + 1 from by omega]; exact nI_pred _
          refine ⟨i13, by rw [ek]; exact nI_in (N := 32008) (by omega) (by decide), ?_⟩
          rw [ek, nI_clamp (by omega), r4ub, if_pos ⟨rfl, rfl⟩, r4ub, if_neg (fun q => absurd q.2 (by omega)), e22]
          refine ⟨fun hc2 => h1 (hcond.mpr (Or.inr hc2)), fun hc2 => ⟨rfl, ?_⟩⟩
          rw [hJ.2.1.2.1]
          refine h2 (fun hq => ?_)
          rcases hcond.mp hq with hq | hq
          · omega
          · exact hc2 hq
      refine ⟨hrw63.1, by rw [hrw63.2.1]; exact nI_in (by omega) (by omega), ?_⟩
      rw [nI_clamp (by omega), hal]
      have hGl : cs_k S0 (G 0) ≠ 0 := by rw [hG0.1]; decide
      refine ⟨fun hc => ?_, fun hc => ⟨hk63, ?_⟩⟩
      · -- in order: the value
        refine ⟨by omega, by omega, nm, rfl, hrw63.1, by rw [hrw63.2.1]; exact nI_in (by omega) (by omega), hk63, sm_b (m := 4000) (f0 := 32000) (te := te0) (lo := 0) (hi := 2) (by decide) (by decide) hJ3 (fun S2 σ3 hp _ hs2 hJ4 g2 s2 f20 f31 f28 f22 re2 => ?_) (fun S2 g2 hf2 hB2 => ?_)⟩
        · have hG2 := ((hg63.trans g2) (G 0) hGl)
          have h20' : σ3.1 20 = nI te := f20.trans (e20.trans h20)
          refine ⟨hJ4.1.1, 2, 28, by omega, by omega, sm_v (te := te) (f := 32000 + k) hJ4 ⟨hG2.1.trans hG0.1, hG2.2.1.trans hG0.2⟩ hs2 f28 h20' (by omega) hf (fun va S3 σ4 p' te' hpp hJ5 g3 s3 h31 h222 h20'' hte' hte'' hte24 hva0 hvl reV => ?_) (fun o S3 g3 hf3 ho hB3 => ?_)⟩
          · have hrw3 := (hrw63.on g2).on g3
            refine ⟨vs, rfl, hrw3.2.2.1, by rw [hrw3.2.2.2]; exact nI_in (by omega) (by omega), fun b e => by cases e; exact hvl.1, fun S58 e58 => ?_⟩
            rw [nI_clamp (by omega)] at e58
            have g23 : rg rc S63 S3 := g2.trans g3
            have hnm63 : cs_k S63 nm ≠ 0 := by rw [hrw63.1]; decide
            have hvs63 : cs_k S63 vs ≠ 0 := by rw [hrw63.2.2.1]; decide
            have hg58 : rg rc S0 S58 := by rw [e58]; exact (hg63.trans g23).fuar hvs0
            have hal58 : ∀ i, cs_al S58 nm i = cs_al S63 nm i := fun i => by rw [e58, aluar]; exact (g23 nm hnm63).2.2.2.2.2.2.1 i
            have har58 : ∀ i, i ≠ k → cs_ar S58 vs i = cs_ar S vs i := fun i hi => by rw [e58, aruar, if_neg (fun q => hi q.2), (g23 vs hvs63).2.2.2.2.2.2.2 i]; exact har63 i
            have hv58 : rgv S S58 := by rw [e58]; exact (hv63.trans (g23.v hk63)).trans rgv.uar
            have hs4 : sg 4000 32000 te0 σ σ4 := (hσ2.trans s2).trans (s3.mono (by omega) (by omega) hte)
            have hs4' : sg 4000 (32000 + k) te σ σ4 := by
              have q1 : sg 4000 (32000 + k) te σ (rf_ub σ1 13 (32000 + k) (σ1.2.1 29)) := by
                refine ⟨hσ2.1, hσ2.2.1, fun i j _ _ _ => ?_, fun i j _ b => ?_⟩
                · show σ1.2.2.1 i j = _
                  rw [e22]
                · rw [r4ub, if_neg (fun q => by have := b q.1; omega), e22]
              have q2 : sg 4000 (32000 + k) te (rf_ub σ1 13 (32000 + k) (σ1.2.1 29)) σ3 := ⟨s2.1, s2.2.1, fun i j _ _ _ => by rw [f22], fun i j _ _ => by rw [f22]⟩
              exact (q1.trans q2).trans (s3.mono (by omega) (Nat.le_refl _) (Nat.le_refl _))
            have hJ58 : rdJ S58 σ4 rc tp z p' bf := hJ0.on2 hg58 (hs.trans hs4) (by rw [e58, iuar]; exact hJ5.2.2.1) (by rw [e58, iuar]; exact hJ5.1.2.2.2.2.2.1) hJ5.2.1.2.1 hJ5.2.1.2.2.2
            have h222' : σ4.2.2.2 = (rf_ub σ1 13 (32000 + k) (σ1.2.1 29)).2.2.2 := h222.trans (by rw [f22])
            have hreach : ∀ Q : Int32 → rf_S → Prop, Q 1 σ4 → wp_X12_readsField Q σ (nI (32000 + k)) (nI k) := fun Q hQ => hKK Q (fun _ => by rw [rfK_67]; exact re2 _ ⟨fun _ => reV Q hQ, fun q => absurd q (by decide)⟩) (fun q => absurd hc q)
            have h9' : σ4.2.2.1 9 4000 = nI m := by
              rw [s3.2.2.1 9 4000 (fun _ => by omega) (fun e => absurd e (by decide)) (fun e => absurd e (by decide)), f22]
              show σ1.2.2.1 9 4000 = nI m
              rw [e22]; exact h9
            have h11 : ∀ i, i = 11 ∨ i = 12 → σ4.2.2.2 i 4000 = σ.2.2.2 i 4000 := fun i hi => by
              rw [h222', r4ub, if_neg (fun q => by have := q.1; omega), e22]
            have hno : ∀ i, 32000 + i ≠ 32000 + k → σ4.2.2.2 13 (32000 + i) = σ.2.2.2 13 (32000 + i) := fun i hi => by
              rw [h222', r4ub, if_neg (fun q => hi q.2), e22]
            rw [nI_1, nI_clamp (by omega), hal]
            refine ih (k + 1) S58 σ4 p' te' (u + 2) (v + 28) c (by omega) hg58 (hs.trans hs4) hJ58 (by omega) (by rw [e58]; exact hrw3) (fun q => absurd q (by omega)) (fun _ => by rw [hal58]; exact hal.symm) (fun i hi => ?_) h9' h20'' (by omega) (by omega) (by omega) (by omega) (by omega) (fun S' σ' p2 te2 u2 v2 a1 a2 a3 a4 a5 a6 a7 a8 a9 a10 a11 a12 a13 a14 a15 a16 => ?_) (fun S' a1 a2 a3 => ?_)
            · by_cases hik : i = k
              · subst hik
                refine ⟨⟨n, σ1.2.1 30, hn1, hn8, ?_⟩, ⟨va, ?_, ?_⟩, fun h0 => ?_⟩
                · rw [hal58, hal, h222', r4ub, if_pos ⟨rfl, rfl⟩]; exact hW
                · rw [e58, aruar, if_pos ⟨rfl, rfl⟩]
                · rw [e58]; exact hvl.onv rgv.uar rfl rfl rfl (fun _ _ => rfl) (Nat.le_refl _)
                · rw [hal58, hal58, hal, halo (i - 1) (by omega), ← ha1 h0]; exact hc
              · obtain ⟨⟨n', l', b1, b2, b3⟩, ⟨va', b4, b5⟩, b6⟩ := hfl i (by omega)
                refine ⟨⟨n', l', b1, b2, ?_⟩, ⟨va', ?_, ?_⟩, fun h0 => ?_⟩
                · rw [hal58, halo i hik]
                  show wdR n' (cs_al S nm i) (σ4.2.2.2 13 (32000 + i)) l'
                  rw [hno i (by omega)]; exact b3
                · rw [har58 i hik]; exact b4
                · exact b5.ons hv58 hs4' (by show 32000 + i < 32000 + k; omega) hte'
                · rw [hal58, hal58, halo i hik, halo (i - 1) (by omega)]; exact b6 h0
            · exact hok S' σ' p2 te2 u2 v2 a1 a2 a3 (by omega) a5 a6 a7 (a8.trans (h11 11 (Or.inl rfl))) (a9.trans (h11 12 (Or.inr rfl))) (a10.trans (h31.trans (f31.trans e31))) a11 a12 a13 a14 a15 (fun Q hQ => hstep Q (hreach _ ⟨fun _ => a16 Q hQ, fun q => absurd q (by decide)⟩))
            · exact hbad S' a1 a2 (fun Q hQ => hstep Q (hreach _ ⟨fun _ => a3 Q hQ, fun q => absurd q (by decide)⟩))
          · -- a fault in the value
            have g23 : rg rc S63 S3 := g2.trans g3
            have hrw3 := hrw63.on g23
            have hD3 : rdD S3 rc tp := rdD.of hJ3.1 g23 hf3
            refine ⟨vs, rfl, hrw3.2.2.1, by rw [hrw3.2.2.2]; exact nI_in (by omega) (by omega), ho, fun S58 e58 => ?_⟩
            rw [nI_1]
            rw [nI_clamp (by omega)] at e58
            have hg58 : rg rc S0 S58 := by rw [e58]; exact (hg63.trans g23).fuar hvs0
            have e7 : cs_i S58 700 rc = cs_i S3 700 rc := by rw [e58, iuar]
            have e71 : cs_i S58 701 rc = cs_i S3 701 rc := by rw [e58, iuar]
            have hD58 : rdD S58 rc tp := by rw [e58]; exact hD3
            refine rr_91d (by omega) (by omega) (by have := hJ.1.2.2.2.2.2.2; omega) hD58 (hbad S58 hg58 (by rw [e7]; exact hf3) (fun Q hQ => hstep Q (hKK _ (fun _ => ?_) (fun q => absurd hc q))))
            rw [rfK_67]
            refine re2 _ ⟨fun _ => hB3 _ (fun σ' hb => ⟨fun q => absurd rfl q, fun _ => hQ _ (rdB.u20 ?_)⟩), fun q => absurd q (by decide)⟩
            exact ⟨hg58, (hs.trans (hσ2.trans s2)).trans (hb.2.1.mono (by omega) (by omega) hte), by rw [e7]; exact hf3, by rw [e7]; exact hb.2.2.2.1, by rw [e71]; exact hb.2.2.2.2⟩
        · -- a fault in the sort
          have hrw2 := hrw63.on g2
          have hD2 : rdD S2 rc tp := rdD.of hJ3.1 g2 hf2
          have hG2 := ((hg63.trans g2) (G 0) hGl)
          refine ⟨hD2.1, 2, 28, by omega, by omega, rv_dead ⟨hG2.1.trans hG0.1, hG2.2.1.trans hG0.2⟩ hD2 (fun va S3 g3 hva0 hva => ?_)⟩
          have hl2 : cs_k S2 rc ≠ 0 := by rw [hD2.1]; decide
          have hrw3 := hrw2.on (g3 rc)
          refine ⟨vs, rfl, hrw3.2.2.1, by rw [hrw3.2.2.2]; exact nI_in (by omega) (by omega), fun b e => by cases e; exact hva, fun S58 e58 => ?_⟩
          rw [nI_1]
          rw [nI_clamp (by omega)] at e58
          have hg58 : rg rc S0 S58 := by rw [e58]; exact ((hg63.trans g2).trans (g3 rc)).fuar hvs0
          have e7 : cs_i S58 700 rc = cs_i S2 700 rc := by rw [e58, iuar]; exact g3.i hl2
          have e71 : cs_i S58 701 rc = cs_i S2 701 rc := by rw [e58, iuar]; exact g3.i hl2
          have hD3' := hD2.gw g3
          have hD58 : rdD S58 rc tp := by rw [e58]; exact hD3'
          refine rr_91d (by omega) (by omega) (by have := hJ.1.2.2.2.2.2.2; omega) hD58 (hbad S58 hg58 (by rw [e7]; exact hf2) (fun Q hQ => hstep Q (hKK _ (fun _ => ?_) (fun q => absurd hc q))))
          rw [rfK_67]
          refine hB2 _ (fun σ' hb => ⟨fun q => absurd rfl q, fun _ => ⟨fun q => absurd rfl q, fun _ => hQ _ (rdB.u20 ?_)⟩⟩)
          exact ⟨hg58, (hs.trans hσ2).trans hb.2.1, by rw [e7]; exact hf2, by rw [e7]; exact hb.2.2.2.1, by rw [e71]; exact hb.2.2.2.2⟩
      · -- out of order
        rw [hJ.1.2.2.2.2.2.1]
        have hB := rdB.mk (rc := rc) (m := 4000) (f0 := 32000) (te := te0) (S := S0) (S1 := S63) (σ := σ0) (σ1 := rf_ub σ1 13 (32000 + k) (σ1.2.1 29)) (c := 2) (a := nI p) hg63 (hs.trans hσ2) (by decide)
        have hG2 := hB.1 (G 0) hGl
        refine rd_fail hk63 h700 (rr_140d (S0 := S0) (m := m) (by omega) (by omega) (by have := hJ.1.2.2.2.2.2.2; omega) ⟨hG2.1.trans hG0.1, hG2.2.1.trans hG0.2⟩ (rdD.of hJ0.1 hB.1 hB.2.2.1) hB.1 hrw63.1 hrw63.2.1 hrw63.2.2.1 hrw63.2.2.2 hvs0 hm (by omega) (fun S' g7 e7 e71 => ?_))
        refine hbad S' g7 (by rw [e7]; exact hB.2.2.1) (fun Q hQ => hstep Q (hKK _ (fun q => absurd q hc) (fun _ => ⟨fun q => absurd rfl q, fun _ => hQ _ (rdB.u20 ⟨g7, hB.2.1, by rw [e7]; exact hB.2.2.1, by rw [e7]; exact hB.2.2.2.1, by rw [e71]; exact hB.2.2.2.2⟩)⟩)))
    · -- a fault in the name
      have hrw1 := hrw.on g1
      have hD1 : rdD S1 rc tp := rdD.of hJ.1 g1 hf1
      have hGl : cs_k S0 (G 0) ≠ 0 := by rw [hG0.1]; decide
      have hG2 := (hg.trans g1) (G 0) hGl
      refine ⟨nm, rfl, hrw1.1, by rw [hrw1.2.1]; exact nI_in (by omega) (by omega), fun S63 e63 => ?_⟩
      rw [nI_clamp (by omega)] at e63
      have hg63 : rg rc S0 S63 := by rw [e63]; exact (hg.trans g1).fual hnm0
      have hrw63 : rwS S63 nm vs m := by rw [e63]; exact hrw1
      have hD63 : rdD S63 rc tp := by rw [e63]; exact hD1
      have hG63 : cs_k S63 (G 0) = 20 ∧ cs_n S63 (G 0) = 0 := by rw [e63]; exact ⟨hG2.1.trans hG0.1, hG2.2.1.trans hG0.2⟩
      have e7 : cs_i S63 700 rc = cs_i S1 700 rc := by rw [e63, iual]
      have e71 : cs_i S63 701 rc = cs_i S1 701 rc := by rw [e63, iual]
      have hw : w_X6_readRecord_140 post G 19 247 (w_X6_readRecord_91 post G 19 247 (r + 1)) S63 u v rc (nI st) x5 x7 (nI m) (some nm) (some vs) (nI k) := by
        refine rr_140d (S0 := S0) (m := m) (by omega) (by omega) (by have := hJ.1.2.2.2.2.2.2; omega) hG63 hD63 hg63 hrw63.1 hrw63.2.1 hrw63.2.2.1 hrw63.2.2.2 hvs0 hm (by omega) (fun S' g7 e8 e81 => ?_)
        refine hbad S' g7 (by rw [e8, e7]; exact hf1) (fun Q hQ => hstep Q ?_)
        rw [rf_field]
        exact hB _ _ (fun σ' hb => ⟨fun q => absurd rfl q, fun _ => hQ _ (rdB.u20 ⟨g7, hs.trans hb.2.1, by rw [e8, e7]; exact hf1, by rw [e8, e7]; exact hb.2.2.2.1, by rw [e81, e71]; exact hb.2.2.2.2⟩)⟩)
      exact ⟨hrw63.1, by rw [hrw63.2.1]; exact nI_in (by omega) (by omega), fun _ => hw, fun _ => ⟨hD63.1, rd_fail2 hD63.1 hD63.2.2.2.2 hw⟩⟩
end FL2
