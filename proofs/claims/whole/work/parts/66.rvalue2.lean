/-! ===== reading an address; any value ===== -/
section RA
variable {G : Nat → Nat} {rc tp z p0 pp te f u v : Nat} {bf : Nat → Nat} {S0 : cs_S} {σ0 : rf_S} {post : Option Nat → cs_S → Prop}
theorem sv_ad0 (hu : u + 1 ≤ 2) (hv : v + 4 ≤ 28) (hG0 : cs_k S0 (G 0) = 20 ∧ cs_n S0 (G 0) = 0) : ∀ r k (S : cs_S) (x : Int32), k + r = 4 → cs_k S rc = 8 → ¬ cs_i S 700 rc = 0 → rg rc S0 S → (∀ va S', rg rc S0 S' → cs_k S' va = 11 → cs_i S' 700 rc = cs_i S 700 rc → cs_i S' 701 rc = cs_i S 701 rc → post (some va) S') → w_X6_readValue_55 post G 2 28 (r + 1) S u v rc x (nI k) := by
  intro r
  induction r with
  | zero =>
    intro k S x hk hkr h0 hg h
    have : k = 4 := by omega
    subst this
    have hlive : cs_k S rc ≠ 0 := by rw [hkr]; decide
    have hGl : cs_k S0 (G 0) ≠ 0 := by rw [hG0.1]; decide
    have hgG := hg (G 0) hGl
    refine ⟨by omega, by omega, fun _ => ⟨hu, hv, vn_ok (hgG.1.trans hG0.1) ?_ (fun va S' hw => h va S' (hg.trans (hw.2.1 rc)) hw.2.2.1 (hw.2.1.i hlive) (hw.2.1.i hlive))⟩, fun hc => absurd (by decide) hc⟩
    rw [hgG.2.1, hG0.2]; decide
  | succ r ih =>
    intro k S x hk hkr h0 hg h
    refine ⟨by omega, by omega, fun hc => absurd hc (nI_ge (a := k) (b := 4) (by omega) (by decide)), fun _ => ⟨hkr, rd_dead hkr h0 ?_⟩⟩
    show w_X6_readValue_55 post G 2 28 (r + 1) S u v rc _ (nI k + 1)
    rw [nI_1]
    exact ih (k + 1) S _ (by omega) hkr h0 hg h
theorem sv_ad (hu : u + 1 ≤ 2) (hv : v + 4 ≤ 28) (hJ0 : rdJ S0 σ0 rc tp z pp bf) (hG0 : cs_k S0 (G 0) = 20 ∧ cs_n S0 (G 0) = 0) (hf : f < 32008) : ∀ r k (S : cs_S) (σ : rf_S) (x : Int32), k + r = 4 → rg rc S0 S → sg 4001 f te σ0 σ → cs_i S 700 rc = 0 → cs_i S 706 rc = nI (p0 + k) → σ.1 4 = nI (p0 + k) → p0 + k ≤ z → σ.1 20 = nI te → σ.2.2.1 14 f = 2 → σ.2.2.1 15 f = x →
    (∀ va S' σ', rdJ S' σ' rc tp z (p0 + 4) bf → rg rc S0 S' → sg 4001 f te σ0 σ' → σ'.1 31 = σ.1 31 → σ'.2.2.2 = σ.2.2.2 → σ'.1 20 = nI te → cs_k S0 va = 0 → vlR S' σ' te va f → (∀ Q : Int32 → rf_S → Prop, Q 1 σ' → w_X12_readsField_199 Q (r + 1) σ (nI f) 4 (nI k)) → post (some va) S') →
    (∀ o S', rg rc S0 S' → ¬ cs_i S' 700 rc = 0 → (∀ b', o = some b' → cs_k S' b' = 11) → bdR (fun Q => w_X12_readsField_199 Q (r + 1) σ (nI f) 4 (nI k)) rc 4001 f te S0 S' σ0 → post o S') →
    w_X6_readValue_55 post G 2 28 (r + 1) S u v rc x (nI k) := by
  have hGl : cs_k S0 (G 0) ≠ 0 := by rw [hG0.1]; decide
  intro r
  induction r with
  | zero =>
    intro k S σ x hk hg hs h0 h706 h4 hpz h20 h14 h15 hok hbad
    have : k = 4 := by omega
    subst this
    have hJ : rdJ S σ rc tp z (p0 + 4) bf := hJ0.on2 hg hs h0 h706 h4 hpz
    have hlive : cs_k S rc ≠ 0 := by rw [hJ.1.1]; decide
    have hgG := hg (G 0) hGl
    have hkG : cs_k S (G 0) = 20 := hgG.1.trans hG0.1
    have hnG : cs_n S (G 0) = 0 := hgG.2.1.trans hG0.2
    have hlG : cs_k S (G 0) ≠ 0 := by rw [hkG]; decide
    refine ⟨by omega, by omega, fun _ => ⟨hu, hv, vn_ok hkG (by rw [hnG]; decide) (fun va S' hw => ?_)⟩, fun hc => absurd (by decide) hc⟩
    obtain ⟨w0, w1, w2, w3, w4, w5, w6⟩ := hw
    refine hok va S' σ (hJ.on2 (m := 0) (f0 := 0) (te := 0) (w1 rc) sg.rfl (by rw [w1.i hlive]; exact h0) (by rw [w1.i hlive]; exact h706) h4 hpz) (hg.trans (w1 rc)) hs rfl rfl h20 (hg.dead w0) ⟨w2, w3.trans h14.symm, w4.trans h15.symm, G 0, 0, w5, (w1.k hlG).trans hkG, (w1.n hlG).trans hnG, by omega, ?_, fun i hi => absurd hi (by omega), Or.inr ⟨Or.inr h14, rfl⟩⟩ (fun Q hQ => ⟨fun _ => hQ, fun hc => absurd (by decide) hc⟩)
    rw [w6, h14, h15, hnG]
    rfl
  | succ r ih =>
    intro k S σ x hk hg hs h0 h706 h4 hpz h20 h14 h15 hok hbad
    have hJ : rdJ S σ rc tp z (p0 + k) bf := hJ0.on2 hg hs h0 h706 h4 hpz
    have hkr := hJ.1.1
    refine ⟨by omega, by omega, fun hc => absurd hc (nI_ge (a := k) (b := 4) (by omega) (by decide)), fun _ => ⟨hkr, ?_⟩⟩
    by_cases hp : p0 + k < z
    · have ea := hJ.2.2.2.2.1 _ hp
      have er := hJ.2.2.2.2.2 _ hp
      have hb := hJ.2.2.2.1 _ hp
      refine rd_ok hJ.1 h0 hp (by rw [ea]; exact nI_pos (by omega)) (by rw [ea]; exact nI_le (b := 255) (by omega) (by decide)) ?_
      rw [ea]
      show w_X6_readValue_55 post G 2 28 (r + 1) (cs_ui S 706 rc (nI (p0 + k + 1))) u v rc ((x <<< (8 &&& 31)) ||| nI (bf (p0 + k))) (nI k + 1)
      rw [nI_1]
      have hstep : ∀ Q : Int32 → rf_S → Prop, w_X12_readsField_199 Q (r + 1) (rf_ui (rf_ua σ 15 f ((x <<< (8 &&& 31)) ||| nI (bf (p0 + k)))) 4 (nI (p0 + k + 1))) (nI f) 4 (nI (k + 1)) → w_X12_readsField_199 Q (r + 1 + 1) σ (nI f) 4 (nI k) := by
        intro Q hQ
        refine ⟨fun hc => absurd hc (nI_ge (a := k) (b := 4) (by omega) (by decide)), fun _ => ?_⟩
        rw [h4]
        refine re_byte hJ.2.1 hp ?_
        rw [er, nI_clamp (by omega : f < 2 ^ 31)]
        refine ⟨fun _ => ⟨nI_in (N := 32008) hf (by decide), fun _ => ⟨nI_in (N := 32008) hf (by decide), nI_in (N := 32008) hf (by decide), ?_⟩, fun hc => ?_⟩, fun hc => absurd (nI_pos' (by omega)) hc⟩
        · show w_X12_readsField_199 Q (r + 1) (rf_ui (rf_ua σ 15 f ((σ.2.2.1 15 f <<< (8 &&& 31)) ||| nI (bf (p0 + k)))) 4 (σ.1 4 + 1)) (nI f) 4 (nI k + 1)
          rw [h15, h4, nI_1, nI_1]
          exact hQ
        · rw [h14] at hc
          exact absurd hc (by decide)
      refine ih (k + 1) _ (rf_ui (rf_ua σ 15 f ((x <<< (8 &&& 31)) ||| nI (bf (p0 + k)))) 4 (nI (p0 + k + 1))) _ (by omega) (hg.trans (rg.ui (by omega))) ((hs.ua (by omega)).ui (by omega)) ?_ ?_ (by rw [r1ui, if_pos rfl]; rfl) (by omega) (by rw [r1ui, if_neg (by decide), r1ua]; exact h20) ?_ ?_ (fun va S' σ' a1 a2 a3 a4 a5 a6 a7 a8 a9 => hok va S' σ' a1 a2 a3 (a4.trans ?_) a5 a6 a7 a8 (fun Q hQ => hstep Q (a9 Q hQ))) (fun o S' a1 a2 a3 a4 => hbad o S' a1 a2 a3 (fun Q hQ => hstep Q (a4 Q hQ)))
      · rw [iui, if_neg (fun q => absurd q.1 (by decide))]; exact h0
      · rw [iui, if_pos ⟨rfl, rfl⟩]; rfl
      · rw [r3ui, r3ua, if_neg (fun q => absurd q.1 (by decide))]; exact h14
      · rw [r3ui, r3ua, if_pos ⟨rfl, rfl⟩]
      · rw [r1ui, if_neg (by decide), r1ua]
    · refine rd_end hJ.1 h0 (Nat.le_antisymm hpz (by omega)) ?_
      show w_X6_readValue_55 post G 2 28 (r + 1) (cs_ui (cs_ui S 700 rc 1) 701 rc (nI z)) u v rc _ (nI k + 1)
      have e1 : cs_i (cs_ui (cs_ui S 700 rc 1) 701 rc (nI z)) 700 rc = 1 := by rw [iui, if_neg (fun q => absurd q.1 (by decide)), iui, if_pos ⟨rfl, rfl⟩]
      have e2 : cs_i (cs_ui (cs_ui S 700 rc 1) 701 rc (nI z)) 701 rc = nI z := by rw [iui, if_pos ⟨rfl, rfl⟩]
      rw [nI_1]
      refine sv_ad0 hu hv hG0 r (k + 1) _ _ (by omega) hkr (by rw [e1]; decide) ((hg.trans (rg.ui (by omega))).trans (rg.ui (by omega))) (fun va S' hg' hk' e700 e701 => ?_)
      rw [e1] at e700
      rw [e2] at e701
      refine hbad (some va) S' hg' (by rw [e700]; decide) (fun b' e => by cases e; exact hk') (fun Q hQ => ⟨fun hc => absurd hc (nI_ge (a := k) (b := 4) (by omega) (by decide)), fun _ => ?_⟩)
      rw [h4]
      refine re_none hJ.2.1 (by omega) (by have := hJ.2.1.2.2; omega) ⟨fun hc => absurd hc (by decide), fun _ => ⟨rfl, ?_⟩⟩
      rw [hJ.2.1.1]
      exact hQ _ ⟨hg', (hs.ui (by omega)).ui (by omega), by rw [e700]; decide, by rw [e700, r1ui, if_neg (by decide), r1ui, if_pos rfl], by rw [e701, r1ui, if_pos rfl]⟩
end RA
section SMV
variable {G : Nat → Nat} {rc tp z p te f s : Nat} {bf : Nat → Nat} {S : cs_S} {σ : rf_S} {post : Option Nat → cs_S → Prop}
theorem sm_v (hJ : rdJ S σ rc tp z p bf) (hG0 : cs_k S (G 0) = 20 ∧ cs_n S (G 0) = 0) (hs2 : s ≤ 2) (h28 : σ.1 28 = nI s) (h20 : σ.1 20 = nI te) (hte : te + 24 ≤ 24000) (hf : f < 32008)
    (hok : ∀ va S' σ' p' te', p < p' → rdJ S' σ' rc tp z p' bf → rg rc S S' → sg 4001 f te σ σ' → σ'.1 31 = σ.1 31 → σ'.2.2.2 = σ.2.2.2 → σ'.1 20 = nI te' → te ≤ te' → te' + p ≤ te + p' → te' ≤ te + 24 → cs_k S va = 0 → vlR S' σ' te' va f → (∀ Q : Int32 → rf_S → Prop, Q 1 σ' → rfK Q (nI f) σ) → post (some va) S')
    (hbad : ∀ o S', rg rc S S' → ¬ cs_i S' 700 rc = 0 → (∀ b, o = some b → cs_k S' b = 11) → bdR (fun Q => rfK Q (nI f) σ) rc 4001 f te S S' σ → post o S') : wp_X6_readValue post G 2 28 S rc (nI s) := by
  have hf31 : f < 2 ^ 31 := by omega
  have hlive : cs_k S rc ≠ 0 := by rw [hJ.1.1]; decide
  have hGl : cs_k S (G 0) ≠ 0 := by rw [hG0.1]; decide
  have i14 : vp_in (nI f) (rf_n 14) := nI_in (N := 32008) hf (by decide)
  have i15 : vp_in (nI f) (rf_n 15) := nI_in (N := 32008) hf (by decide)
  have i16 : vp_in (nI f) (rf_n 16) := nI_in (N := 32008) hf (by decide)
  have hnar : vp_nar .byte ((nI s).toInt8.toInt32) = nI s := nar7 s (by omega)
  have hs1 : sg 4001 f te σ (rf_ua (rf_ua σ 14 f (nI s)) 16 f 0) := (sg.rfl.ua (by omega)).ua (by omega)
  have hJ1 : rdJ S (rf_ua (rf_ua σ 14 f (nI s)) 16 f 0) rc tp z p bf := hJ.on2 rg.rfl hs1 hJ.2.2.1 hJ.1.2.2.2.2.2.1 hJ.2.1.2.1 hJ.2.1.2.2.2
  have hcase : s = 0 ∨ s = 1 ∨ s = 2 := by omega
  rcases hcase with rfl | rfl | rfl
  · -- INT
    have e0 : ∀ Q : Int32 → rf_S → Prop, wp_X12_readsUnsigned (fun r15 σ15 => (¬ r15 = 0 → vp_in (nI f) (rf_n 15) ∧ Q 1 (rf_ua σ15 15 f ((((σ15.2.1 27) >>> ((1 : Int32).toInt64 &&& 63)) ^^^ (-((σ15.2.1 27) &&& 1))).toInt32))) ∧ (r15 = 0 → Q 0 σ15)) (rf_ua (rf_ua σ 14 f (nI 0)) 16 f 0) → rfK Q (nI f) σ := by
      intro Q hQ
      rw [rfK, h28, nI_clamp hf31, hnar]
      exact ⟨i14, i16, fun hc => absurd rfl hc, fun _ => hQ⟩
    refine ⟨fun hc => absurd rfl hc, fun _ => ⟨hJ.1.1, sm_u (m := 4001) (f0 := f) (te := te) hJ1 (fun v p' S1 σ1 hp hJ2 g1 s1 e20 e31 e22 e27 re => ?_) (fun y S1 g1 hf1 hB => ?_)⟩⟩
    · have hl1 : cs_k S1 rc ≠ 0 := g1.live hlive
      have hkG : cs_k S1 (G 0) = 20 := (g1 _ hGl).1.trans hG0.1
      have hnG : cs_n S1 (G 0) = 0 := (g1 _ hGl).2.1.trans hG0.2
      have hlG : cs_k S1 (G 0) ≠ 0 := by rw [hkG]; decide
      have key : ∀ w : Int64, w = (v >>> ((1 : Int32).toInt64 &&& 63)) ^^^ (-(v &&& 1)) → w_X6_readValue_29 post G 2 28 S1 0 0 w := by
        intro w hw
        refine ⟨by omega, by omega, by omega, by omega, vn_ok hkG (by rw [hnG]; decide) (fun va S' hw1 => ?_)⟩
        obtain ⟨w0, w1, w2, w3, w4, w5, w6⟩ := hw1
        have hsg : sg 4001 f te σ (rf_ua σ1 15 f w.toInt32) := (hs1.trans s1).ua (by omega)
        have e14 : (rf_ua σ1 15 f w.toInt32).2.2.1 14 f = 0 := by
          rw [r3ua, if_neg (fun q => absurd q.1 (by decide)), e22, r3ua, if_neg (fun q => absurd q.1 (by decide)), r3ua, if_pos ⟨rfl, rfl⟩]; rfl
        have e15 : (rf_ua σ1 15 f w.toInt32).2.2.1 15 f = w.toInt32 := by rw [r3ua, if_pos ⟨rfl, rfl⟩]
        refine hok va S' (rf_ua σ1 15 f w.toInt32) p' te hp (hJ2.on2 (m := 4001) (f0 := f) (te := te) (w1 rc) (sg.rfl.ua (by omega)) (by rw [w1.i hl1]; exact hJ2.2.2.1) (by rw [w1.i hl1]; exact hJ2.1.2.2.2.2.2.1) hJ2.2.1.2.1 hJ2.2.1.2.2.2) (g1.trans (w1 rc)) hsg (by rw [r1ua]; exact e31) (by show σ1.2.2.2 = _; rw [e22]; rfl) (by rw [r1ua, e20]; exact h20) (Nat.le_refl _) (by omega) (by omega) (g1.dead w0) ⟨w2, w3.trans e14.symm, w4.trans e15.symm, G 0, 0, w5, (w1.k hlG).trans hkG, (w1.n hlG).trans hnG, by omega, ?_, fun i hi => absurd hi (by omega), Or.inr ⟨Or.inl e14, rfl⟩⟩ (fun Q hQ => e0 Q (re _ ⟨fun _ => ⟨i15, ?_⟩, fun hc => absurd hc (by decide)⟩))
        · rw [w6, e14, e15, hnG]; rfl
        · rw [e27, ← hw]; exact hQ
      exact ⟨fun hc => key _ (fold_o hc).symm, fun hc => key _ (fold_e hc).symm⟩
    · have hkG : cs_k S1 (G 0) = 20 := (g1 _ hGl).1.trans hG0.1
      have hnG : cs_n S1 (G 0) = 0 := (g1 _ hGl).2.1.trans hG0.2
      have hl1 : cs_k S1 rc ≠ 0 := g1.live hlive
      have key : ∀ w : Int64, w_X6_readValue_29 post G 2 28 S1 0 0 w := by
        intro w
        refine ⟨by omega, by omega, by omega, by omega, vn_ok hkG (by rw [hnG]; decide) (fun va S' hw1 => ?_)⟩
        obtain ⟨w0, w1, w2, w3, w4, w5, w6⟩ := hw1
        refine hbad (some va) S' (g1.trans (w1 rc)) (by rw [w1.i hl1]; exact hf1) (fun b e => by cases e; exact w2) (fun Q hQ => e0 Q (hB _ (fun σ' hb => ⟨fun hc => absurd rfl hc, fun _ => hQ σ' ?_⟩)))
        exact ⟨g1.trans (w1 rc), hs1.trans hb.2.1, by rw [w1.i hl1]; exact hf1, by rw [w1.i hl1]; exact hb.2.2.2.1, by rw [w1.i hl1]; exact hb.2.2.2.2⟩
      exact ⟨fun _ => key _, fun _ => key _⟩
  · -- TEXT
    have e0 : ∀ Q : Int32 → rf_S → Prop, wp_X12_readsCount (fun r14 σ14 => (¬ r14 = 0 → vp_in (nI f) (rf_n 15) ∧ vp_in (nI f) (rf_n 16) ∧ w_X12_readsField_190 Q (rf_ua (rf_ua σ14 15 f (σ14.1 28)) 16 f (σ14.1 20)) (nI f)) ∧ (r14 = 0 → Q 0 σ14)) (rf_ua (rf_ua σ 14 f (nI 1)) 16 f 0) 0 24 → rfK Q (nI f) σ := by
      intro Q hQ
      rw [rfK, h28, nI_clamp hf31, hnar]
      exact ⟨i14, i16, fun _ => ⟨fun hc => absurd rfl hc, fun _ => hQ⟩, fun hc => absurd hc (by decide)⟩
    refine ⟨fun _ => ⟨fun _ => ⟨hJ.1.1, sm_b (m := 4001) (f0 := f) (te := te) (lo := 0) (hi := 24) (by decide) (by decide) hJ1 (fun S1 σ1 hp hl hh hJ2 g1 s1 e20 e31 e28 e22 re => ?_) (fun S1 g1 hf1 hB => ?_)⟩, fun hc => absurd hc (by decide)⟩, fun hc => absurd hc (by decide)⟩
    · have hn24 : bf p ≤ 24 := hh
      have hlG : cs_k S1 (G 0) ≠ 0 := g1.live hGl
      have hkG : cs_k S1 (G 0) = 20 := (g1 _ hGl).1.trans hG0.1
      have hnG : cs_n S1 (G 0) = 0 := (g1 _ hGl).2.1.trans hG0.2
      have hs2 : sg 4001 f te σ1 (rf_ua (rf_ua σ1 15 f (nI (bf p))) 16 f (nI te)) := (sg.rfl.ua (by omega)).ua (by omega)
      have e20' : σ1.1 20 = nI te := e20.trans h20
      have e14 : (rf_ua (rf_ua σ1 15 f (nI (bf p))) 16 f (nI te)).2.2.1 14 f = 1 := by
        rw [r3ua, if_neg (fun q => absurd q.1 (by decide)), r3ua, if_neg (fun q => absurd q.1 (by decide)), e22, r3ua, if_neg (fun q => absurd q.1 (by decide)), r3ua, if_pos ⟨rfl, rfl⟩]; rfl
      have e15 : (rf_ua (rf_ua σ1 15 f (nI (bf p))) 16 f (nI te)).2.2.1 15 f = nI (bf p) := by rw [r3ua, if_neg (fun q => absurd q.1 (by decide)), r3ua, if_pos ⟨rfl, rfl⟩]
      have e16 : (rf_ua (rf_ua σ1 15 f (nI (bf p))) 16 f (nI te)).2.2.1 16 f = nI te := by rw [r3ua, if_pos ⟨rfl, rfl⟩]
      have key : ∀ b u v (S2 : cs_S), u + 1 ≤ 2 → v + 4 ≤ 28 → gw S1 S2 → (bf p = 0 ∨ cs_k S1 b = 0) → cs_k S2 b = 20 → cs_n S2 b = bf p → w_X6_readValue_114 post G 2 28 S2 u v rc (nI (bf p)) (some b) := by
        intro b u v S2 hu hv hg12 hb0 hkb hnb
        have hl1 : cs_k S1 rc ≠ 0 := g1.live hlive
        refine ⟨by omega, by omega, bf p + 1, sv_tx (p0 := p + 1) (n := bf p) hu hv hJ2 hb0 hn24 (by omega) hf (bf p) 0 S2 (rf_ua (rf_ua σ1 15 f (nI (bf p))) 16 f (nI te)) (by omega) (hg12 rc) hs2 hkb hnb (by rw [hg12.i hl1]; exact hJ2.2.2.1) (by rw [hg12.i hl1]; exact hJ2.1.2.2.2.2.2.1) hJ2.2.1.2.1 hp (fun i hi => absurd hi (by omega)) e20' e14 e15 e16 (fun va S' σ' a1 a2 a3 a4 a5 a6 a7 a8 a9 => ?_) (fun o S' a1 a2 a3 a4 => ?_)⟩
        · refine hok va S' σ' (p + 1 + bf p) (te + bf p) (by omega) a1 (g1.trans a2) (hs1.trans (s1.trans a3)) (a4.trans e31) (a5.trans (by show σ1.2.2.2 = _; rw [e22]; rfl)) a6 (by omega) (by omega) (by omega) (g1.dead a7) a8 (fun Q hQ => e0 Q (re _ ⟨fun _ => ⟨i15, i16, bf p + 1, ?_⟩, fun hc => absurd hc (by decide)⟩))
          have := a9 Q hQ
          rw [e28, e20', r1ua, r1ua, e28]
          exact this
        · refine hbad o S' (g1.trans a1) a2 a3 (fun Q hQ => e0 Q (re _ ⟨fun _ => ⟨i15, i16, bf p + 1, ?_⟩, fun hc => absurd hc (by decide)⟩))
          have := a4 Q (fun σ' hb => hQ σ' ⟨g1.trans hb.1, hs1.trans (s1.trans hb.2.1), hb.2.2⟩)
          rw [e28, e20', r1ua, r1ua, e28]
          exact this
      refine ⟨fun hc => ⟨nI_pos (by omega), ?_, by omega, ?_, fun q hq S2 e => ?_⟩, fun hc => ?_⟩
      · rw [nI_clamp (by omega)]
        show bf p * 4 ≤ 536870912
        omega
      · rw [nI_clamp (by omega)]; omega
      · subst e
        rw [nI_clamp (by omega)]
        refine key q _ _ _ (by omega) (by omega) (fun rc => rg.rfl.newA hq) (Or.inr hq) (by rw [knewA, if_pos rfl]) (by rw [nnewA, if_pos rfl])
      · have hb0 : bf p = 0 := (nI_eq (b := 0) (by omega) (by decide)).mp hc
        exact key (G 0) 0 0 S1 (by omega) (by omega) (fun rc => rg.rfl) (Or.inl hb0) hkG (by rw [hb0]; exact hnG)
    · have hkG : cs_k S1 (G 0) = 20 := (g1 _ hGl).1.trans hG0.1
      have hnG : cs_n S1 (G 0) = 0 := (g1 _ hGl).2.1.trans hG0.2
      have hk1 : cs_k S1 rc = 8 := (g1 _ hlive).1.trans hJ.1.1
      refine ⟨fun hc => absurd rfl hc, fun _ => ⟨by omega, by omega, 1, sv_td (n := 0) (b := G 0) (S0 := S1) (by omega) (by omega) (Or.inl rfl) (by omega) 0 0 S1 rfl hk1 hf1 hkG (by rw [hnG]; decide) (fun h => absurd h (by omega)) rg.rfl (fun va S' g2 hk2 e700 e701 => ?_)⟩⟩
      refine hbad (some va) S' (g1.trans g2) (by rw [e700]; exact hf1) (fun b e => by cases e; exact hk2) (fun Q hQ => e0 Q (hB _ (fun σ' hb => ⟨fun hc => absurd rfl hc, fun _ => hQ σ' ?_⟩)))
      exact ⟨g1.trans g2, hs1.trans hb.2.1, by rw [e700]; exact hf1, by rw [e700]; exact hb.2.2.2.1, by rw [e701]; exact hb.2.2.2.2⟩
  · -- ADDRESS
    have e0 : ∀ Q : Int32 → rf_S → Prop, w_X12_readsField_199 Q 5 (rf_ua (rf_ui (rf_ua (rf_ua σ 14 f (nI 2)) 16 f 0) 28 4) 15 f 0) (nI f) 4 (nI 0) → rfK Q (nI f) σ := by
      intro Q hQ
      rw [rfK, h28, nI_clamp hf31, hnar]
      exact ⟨i14, i16, fun _ => ⟨fun _ => ⟨i15, 5, hQ⟩, fun hc => absurd hc (by decide)⟩, fun hc => absurd hc (by decide)⟩
    have hs2 : sg 4001 f te σ (rf_ua (rf_ui (rf_ua (rf_ua σ 14 f (nI 2)) 16 f 0) 28 4) 15 f 0) := (hs1.ui (by omega)).ua (by omega)
    refine ⟨fun _ => ⟨fun hc => absurd rfl hc, fun _ => ⟨5, sv_ad (p0 := p) (te := te) (f := f) (S0 := S) (σ0 := σ) (by omega) (by omega) hJ hG0 hf 4 0 S (rf_ua (rf_ui (rf_ua (rf_ua σ 14 f (nI 2)) 16 f 0) 28 4) 15 f 0) 0 rfl rg.rfl hs2 hJ.2.2.1 hJ.1.2.2.2.2.2.1 ?_ hJ.2.1.2.2.2 ?_ ?_ ?_ (fun va S' σ' a1 a2 a3 a4 a5 a6 a7 a8 a9 => ?_) (fun o S' a1 a2 a3 a4 => ?_)⟩⟩, fun hc => absurd hc (by decide)⟩
    · exact hJ.2.1.2.1
    · exact h20
    · rw [r3ua, if_neg (fun q => absurd q.1 (by decide)), r3ui, r3ua, if_neg (fun q => absurd q.1 (by decide)), r3ua, if_pos ⟨rfl, rfl⟩]; rfl
    · rw [r3ua, if_pos ⟨rfl, rfl⟩]
    · exact hok va S' σ' (p + 4) te (by omega) a1 a2 a3 a4 a5 a6 (Nat.le_refl _) (by omega) (by omega) a7 a8 (fun Q hQ => e0 Q (a9 Q hQ))
    · exact hbad o S' a1 a2 a3 (fun Q hQ => e0 Q (a4 Q hQ))
end SMV
