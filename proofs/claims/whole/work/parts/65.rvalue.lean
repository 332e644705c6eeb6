/-! ===== reading a value, both in step ===== -/
def rfK (post : Int32 → rf_S → Prop) (x1 : Int32) (σ13 : rf_S) : Prop := vp_in x1 (rf_n 14) ∧ vp_in x1 (rf_n 16) ∧ (¬ (σ13.1 28) = 0 → (¬ (σ13.1 28) = 1 → vp_in x1 (rf_n 15) ∧ w_X12_readsField_190 post (rf_ua (rf_ui (rf_ua (rf_ua σ13 14 x1.toNatClampNeg (vp_nar .byte ((σ13.1 28).toInt8.toInt32))) 16 x1.toNatClampNeg 0) 28 4) 15 x1.toNatClampNeg 0) x1) ∧ ((σ13.1 28) = 1 → wp_X12_readsCount (fun r14 σ14 => (¬ r14 = 0 → vp_in x1 (rf_n 15) ∧ vp_in x1 (rf_n 16) ∧ w_X12_readsField_190 post (rf_ua (rf_ua σ14 15 x1.toNatClampNeg (σ14.1 28)) 16 x1.toNatClampNeg (σ14.1 20)) x1) ∧ (r14 = 0 → post 0 σ14)) (rf_ua (rf_ua σ13 14 x1.toNatClampNeg (vp_nar .byte ((σ13.1 28).toInt8.toInt32))) 16 x1.toNatClampNeg 0) 0 24)) ∧ ((σ13.1 28) = 0 → wp_X12_readsUnsigned (fun r15 σ15 => (¬ r15 = 0 → vp_in x1 (rf_n 15) ∧ post 1 (rf_ua σ15 15 x1.toNatClampNeg ((((σ15.2.1 27) >>> ((1 : Int32).toInt64 &&& 63)) ^^^ (-((σ15.2.1 27) &&& 1))).toInt32))) ∧ (r15 = 0 → post 0 σ15)) (rf_ua (rf_ua σ13 14 x1.toNatClampNeg (vp_nar .byte ((σ13.1 28).toInt8.toInt32))) 16 x1.toNatClampNeg 0))
theorem rfK_67 {post : Int32 → rf_S → Prop} {σ : rf_S} {x1 : Int32} : w_X12_readsField_67 post σ x1 = wp_X12_readsCount (fun r13 σ13 => (¬ r13 = 0 → rfK post x1 σ13) ∧ (r13 = 0 → post 0 σ13)) σ 0 2 := rfl
section RV
variable {G : Nat → Nat} {rc tp z p0 pp te f b n u v : Nat} {bf : Nat → Nat} {S0 : cs_S} {σ0 : rf_S} {post : Option Nat → cs_S → Prop}
theorem sv_td (hu : u + 1 ≤ 2) (hv : v + 4 ≤ 28) (hb0 : n = 0 ∨ cs_k S0 b = 0) (hn : n ≤ 24) : ∀ r k (S : cs_S), k + r = n → cs_k S rc = 8 → ¬ cs_i S 700 rc = 0 → cs_k S b = 20 → cs_n S b < 2 ^ 31 → (0 < n → cs_n S b = n) → rg rc S0 S → (∀ va S', rg rc S0 S' → cs_k S' va = 11 → cs_i S' 700 rc = cs_i S 700 rc → cs_i S' 701 rc = cs_i S 701 rc → post (some va) S') → w_X6_readValue_118 post G 2 28 (r + 1) S u v rc (nI n) (some b) (nI k) := by
  intro r
  induction r with
  | zero =>
    intro k S hk hkr h0 hkb hnl hnb hg h
    have : k = n := by omega
    subst this
    have hlive : cs_k S rc ≠ 0 := by rw [hkr]; decide
    exact ⟨by omega, by omega, fun _ => ⟨hu, hv, vn_ok hkb hnl (fun va S' hw => h va S' (hg.trans (hw.2.1 rc)) hw.2.2.1 (hw.2.1.i hlive) (hw.2.1.i hlive))⟩, fun hc => absurd (nI_le (Nat.le_refl _) (by omega)) hc⟩
  | succ r ih =>
    intro k S hk hkr h0 hkb hnl hnb hg h
    have hb1 : cs_k S0 b = 0 := by
      rcases hb0 with e | e
      · omega
      · exact e
    refine ⟨by omega, by omega, fun hc => absurd hc (nI_ge (by omega) (by omega)), fun _ => ⟨hkr, rd_dead hkr h0 ⟨b, rfl, hkb, by rw [hnb (by omega)]; exact nI_in (by omega) (by omega), fun S29 e => ?_⟩⟩⟩
    subst e
    rw [nI_clamp (by omega), nI_1]
    exact ih (k + 1) _ (by omega) hkr h0 hkb hnl hnb (hg.fuai hb1) h
theorem sv_tx (hu : u + 1 ≤ 2) (hv : v + 4 ≤ 28) (hJ0 : rdJ S0 σ0 rc tp z pp bf) (hb0 : n = 0 ∨ cs_k S0 b = 0) (hn : n ≤ 24) (hte : te + n ≤ 24000) (hf : f < 32008) : ∀ r k (S : cs_S) (σ : rf_S), k + r = n → rg rc S0 S → sg 4001 f te σ0 σ → cs_k S b = 20 → cs_n S b = n → cs_i S 700 rc = 0 → cs_i S 706 rc = nI (p0 + k) → σ.1 4 = nI (p0 + k) → p0 + k ≤ z → (∀ i, i < k → 32 ≤ bf (p0 + i) ∧ bf (p0 + i) ≤ 126 ∧ cs_ai S b i = nI (bf (p0 + i)) ∧ σ.2.2.1 18 (te + i) = nI (bf (p0 + i))) → σ.1 20 = nI (te + k) → σ.2.2.1 14 f = 1 → σ.2.2.1 15 f = nI n → σ.2.2.1 16 f = nI te →
    (∀ va S' σ', rdJ S' σ' rc tp z (p0 + n) bf → rg rc S0 S' → sg 4001 f te σ0 σ' → σ'.1 31 = σ.1 31 → σ'.2.2.2 = σ.2.2.2 → σ'.1 20 = nI (te + n) → cs_k S0 va = 0 → vlR S' σ' (te + n) va f → (∀ Q : Int32 → rf_S → Prop, Q 1 σ' → w_X12_readsField_199 Q (r + 1) σ (nI f) (nI n) (nI k)) → post (some va) S') →
    (∀ o S', rg rc S0 S' → ¬ cs_i S' 700 rc = 0 → (∀ b', o = some b' → cs_k S' b' = 11) → bdR (fun Q => w_X12_readsField_199 Q (r + 1) σ (nI f) (nI n) (nI k)) rc 4001 f te S0 S' σ0 → post o S') →
    w_X6_readValue_118 post G 2 28 (r + 1) S u v rc (nI n) (some b) (nI k) := by
  intro r
  induction r with
  | zero =>
    intro k S σ hk hg hs hkb hnb h0 h706 h4 hpz hrow h20 h14 h15 h16 hok hbad
    have : k = n := by omega
    subst this
    have hJ : rdJ S σ rc tp z (p0 + k) bf := hJ0.on2 hg hs h0 h706 h4 hpz
    have hlive : cs_k S rc ≠ 0 := by rw [hJ.1.1]; decide
    have hlb : cs_k S b ≠ 0 := by rw [hkb]; decide
    refine ⟨by omega, by omega, fun _ => ⟨hu, hv, vn_ok hkb (by omega) (fun va S' hw => ?_)⟩, fun hc => absurd (nI_le (Nat.le_refl _) (by omega)) hc⟩
    obtain ⟨w0, w1, w2, w3, w4, w5, w6⟩ := hw
    refine hok va S' σ (hJ.on2 (m := 0) (f0 := 0) (te := 0) (w1 rc) sg.rfl (by rw [w1.i hlive]; exact h0) (by rw [w1.i hlive]; exact h706) h4 hpz) (hg.trans (w1 rc)) hs rfl rfl h20 (hg.dead w0) ⟨w2, w3.trans h14.symm, w4.trans h15.symm, b, k, w5, (w1.k hlb).trans hkb, (w1.n hlb).trans hnb, hn, ?_, fun i hi => ⟨bf (p0 + i), (hrow i hi).1, (hrow i hi).2.1, ?_⟩, Or.inl ⟨h14, h15, te, h16, Nat.le_refl _, fun i hi => ?_⟩⟩ (fun Q hQ => ⟨fun _ => hQ, fun hc => absurd (nI_le (Nat.le_refl _) (by omega)) hc⟩)
    · rw [w6, h14, h15, hnb]
      exact vh_cong k (fun i _ => (w1.ai hlb).symm)
    · rw [w1.ai hlb]; exact (hrow i hi).2.2.1
    · rw [w1.ai hlb, (hrow i hi).2.2.1]; exact (hrow i hi).2.2.2
  | succ r ih =>
    intro k S σ hk hg hs hkb hnb h0 h706 h4 hpz hrow h20 h14 h15 h16 hok hbad
    have hb1 : cs_k S0 b = 0 := by
      rcases hb0 with e | e
      · omega
      · exact e
    have hJ : rdJ S σ rc tp z (p0 + k) bf := hJ0.on2 hg hs h0 h706 h4 hpz
    have hkr := hJ.1.1
    have hlrc0 : cs_k S0 rc ≠ 0 := by rw [hJ0.1.1]; decide
    have hbrc : rc ≠ b := fun e => hlrc0 (by rw [e]; exact hb1)
    refine ⟨by omega, by omega, fun hc => absurd hc (nI_ge (by omega) (by omega)), fun _ => ⟨hkr, ?_⟩⟩
    have hdead : ∀ (c a : Int32), ¬ c = 0 → (∀ Q : Int32 → rf_S → Prop, Q 0 (rf_ui (rf_ui σ 5 c) 6 a) → w_X12_readsField_199 Q (r + 1 + 1) σ (nI f) (nI n) (nI k)) → (fun (r25 : Int32) (S25 : cs_S) => ∃ b27, some b = some b27 ∧ cs_k S25 b27 = 20 ∧ vp_in (nI k) (cs_n S25 b27) ∧ ∀ S29, S29 = cs_uai S25 b27 (nI k).toNatClampNeg r25 → w_X6_readValue_118 post G 2 28 (r + 1) S29 u v rc (nI n) (some b27) (nI k + 1)) 32 (cs_ui (cs_ui S 700 rc c) 701 rc a) := by
      intro c a hc hreach
      have e1 : cs_i (cs_ui (cs_ui S 700 rc c) 701 rc a) 700 rc = c := by rw [iui, if_neg (fun q => absurd q.1 (by decide)), iui, if_pos ⟨rfl, rfl⟩]
      have e2 : cs_i (cs_ui (cs_ui S 700 rc c) 701 rc a) 701 rc = a := by rw [iui, if_pos ⟨rfl, rfl⟩]
      refine ⟨b, rfl, hkb, by rw [show cs_n (cs_ui (cs_ui S 700 rc c) 701 rc a) b = cs_n S b from rfl, hnb]; exact nI_in (by omega) (by omega), fun S29 e => ?_⟩
      subst e
      rw [nI_clamp (by omega), nI_1]
      refine sv_td hu hv hb0 hn r (k + 1) _ (by omega) hkr (by rw [iuai, e1]; exact hc) hkb (by rw [show cs_n (cs_uai (cs_ui (cs_ui S 700 rc c) 701 rc a) b k 32) b = cs_n S b from rfl, hnb]; omega) (fun _ => hnb) (((hg.trans (rg.ui (Or.inl rfl))).trans (rg.ui (Or.inr (Or.inl rfl)))).fuai hb1) (fun va S' hg' hk' e700 e701 => ?_)
      rw [iuai, e1] at e700
      rw [iuai, e2] at e701
      exact hbad (some va) S' hg' (by rw [e700]; exact hc) (fun b' e => by cases e; exact hk') (fun Q hQ => hreach Q (hQ _ ⟨hg', (hs.ui (by omega)).ui (by omega), by rw [e700]; exact hc, by rw [e700, r1ui, if_neg (by decide), r1ui, if_pos rfl], by rw [e701, r1ui, if_pos rfl]⟩))
    by_cases hp : p0 + k < z
    · have ea := hJ.2.2.2.2.1 _ hp
      have er := hJ.2.2.2.2.2 _ hp
      have hb := hJ.2.2.2.1 _ hp
      by_cases hl : bf (p0 + k) < 32 ∨ 126 < bf (p0 + k)
      · refine rd_bad hJ.1 h0 hp ?_ (hdead 2 _ (by decide) (fun Q hQ => ?_))
        · rw [ea]
          rcases hl with hl | hl
          · exact Or.inl (nI_lt (b := 32) hl (by decide))
          · exact Or.inr (nI_ge (a := 126) hl (by omega))
        · refine ⟨fun hc => absurd hc (nI_ge (by omega) (by omega)), fun _ => ?_⟩
          rw [h4]
          refine re_byte hJ.2.1 hp ?_
          rw [er, nI_clamp (by omega : f < 2 ^ 31)]
          refine ⟨fun _ => ⟨nI_in (N := 32008) hf (by decide), fun hc => absurd h14 hc, fun _ => ⟨fun hc => ⟨rfl, ?_⟩, fun hc => ⟨fun hd => ?_, fun hd => ⟨rfl, ?_⟩⟩⟩⟩, fun hc => absurd (nI_pos' (by omega)) hc⟩
          · rw [h4]; exact hQ
          · exfalso
            have h1 : ¬ bf (p0 + k) < 32 := fun q => hc (nI_lt (b := 32) q (by decide))
            have h2 : bf (p0 + k) ≤ 126 := (nI_leI (b := 126) (by omega) (by decide)).mp hd
            omega
          · rw [h4]; exact hQ
      · have h1 : 32 ≤ bf (p0 + k) := by omega
        have h2 : bf (p0 + k) ≤ 126 := by omega
        refine rd_ok hJ.1 h0 hp (by rw [ea]; exact nI_nlt (b := 32) h1 (by omega)) (by rw [ea]; exact nI_le (b := 126) h2 (by decide)) ?_
        refine ⟨b, rfl, hkb, by rw [show cs_n (cs_ui S 706 rc (nI (p0 + k + 1))) b = cs_n S b from rfl, hnb]; exact nI_in (by omega) (by omega), fun S29 e => ?_⟩
        subst e
        rw [nI_clamp (by omega), nI_1, ea]
        have hstep : ∀ Q : Int32 → rf_S → Prop, w_X12_readsField_199 Q (r + 1) (rf_ui (rf_ui (rf_ua σ 18 (te + k) (nI (bf (p0 + k)))) 20 (nI (te + k + 1))) 4 (nI (p0 + k + 1))) (nI f) (nI n) (nI (k + 1)) → w_X12_readsField_199 Q (r + 1 + 1) σ (nI f) (nI n) (nI k) := by
          intro Q hQ
          refine ⟨fun hc => absurd hc (nI_ge (by omega) (by omega)), fun _ => ?_⟩
          rw [h4]
          refine re_byte hJ.2.1 hp ?_
          rw [er, nI_clamp (by omega : f < 2 ^ 31)]
          refine ⟨fun _ => ⟨nI_in (N := 32008) hf (by decide), fun hc => absurd h14 hc, fun _ => ⟨fun hc => absurd hc (nI_nlt (b := 32) h1 (by omega)), fun _ => ⟨fun _ => ⟨by rw [h20]; exact nI_in (N := 24000) (by omega) (by decide), ?_⟩, fun hc => absurd (nI_le (b := 126) h2 (by decide)) hc⟩⟩⟩, fun hc => absurd (nI_pos' (by omega)) hc⟩
          show w_X12_readsField_199 Q (r + 1) (rf_ui (rf_ui (rf_ua σ 18 (σ.1 20).toNatClampNeg (vp_nar .byte (nI (bf (p0 + k))).toInt8.toInt32)) 20 (σ.1 20 + 1)) 4 (σ.1 4 + 1)) (nI f) (nI n) (nI k + 1)
          rw [h20, h4, nI_clamp (by omega), nar7 _ (by omega), nI_1, nI_1, nI_1]
          exact hQ
        refine ih (k + 1) _ (rf_ui (rf_ui (rf_ua σ 18 (te + k) (nI (bf (p0 + k)))) 20 (nI (te + k + 1))) 4 (nI (p0 + k + 1))) (by omega) ((hg.trans (rg.ui (by omega))).fuai hb1) (((hs.ua (by omega)).ui (by omega)).ui (by omega)) hkb hnb ?_ ?_ (by rw [r1ui, if_pos rfl]; rfl) (by omega) (fun i hi => ?_) (by rw [r1ui, if_neg (by decide), r1ui, if_pos rfl]; rfl) ?_ ?_ ?_ (fun va S' σ' a1 a2 a3 a4 a5 a6 a7 a8 a9 => hok va S' σ' a1 a2 a3 (a4.trans ?_) a5 a6 a7 a8 (fun Q hQ => hstep Q (a9 Q hQ))) (fun o S' a1 a2 a3 a4 => hbad o S' a1 a2 a3 (fun Q hQ => hstep Q (a4 Q hQ)))
        · rw [iuai, iui, if_neg (fun q => absurd q.1 (by decide))]; exact h0
        · rw [iuai, iui, if_pos ⟨rfl, rfl⟩]; rfl
        · rw [aiuai, r3ui, r3ui, r3ua]
          by_cases hi2 : i = k
          · subst hi2
            rw [if_pos ⟨rfl, rfl⟩, if_pos ⟨rfl, rfl⟩]
            exact ⟨h1, h2, rfl, rfl⟩
          · rw [if_neg (fun q => hi2 q.2), if_neg (fun q => hi2 (by omega))]
            exact hrow i (by omega)
        · rw [r3ui, r3ui, r3ua, if_neg (fun q => absurd q.1 (by decide))]; exact h14
        · rw [r3ui, r3ui, r3ua, if_neg (fun q => absurd q.1 (by decide))]; exact h15
        · rw [r3ui, r3ui, r3ua, if_neg (fun q => absurd q.1 (by decide))]; exact h16
        · rw [r1ui, if_neg (by decide), r1ui, if_neg (by decide), r1ua]
    · refine rd_end hJ.1 h0 (Nat.le_antisymm hpz (by omega)) (hdead 1 _ (by decide) (fun Q hQ => ?_))
      refine ⟨fun hc => absurd hc (nI_ge (by omega) (by omega)), fun _ => ?_⟩
      rw [h4]
      refine re_none hJ.2.1 (by omega) (by have := hJ.2.1.2.2; omega) ⟨fun hc => absurd hc (by decide), fun _ => ⟨rfl, ?_⟩⟩
      rw [hJ.2.1.1]
      exact hQ
end RV
