/-! ===== the fields of a record, both in step ===== -/
/-- the rows of an event that is being read -/
def rwS (S : cs_S) (nm vs m : Nat) : Prop := cs_k S nm = 21 ∧ cs_n S nm = m ∧ cs_k S vs = 26 ∧ cs_n S vs = m
theorem rwS.on {S S' : cs_S} {rc nm vs m : Nat} (h : rwS S nm vs m) (g : rg rc S S') : rwS S' nm vs m := by
  obtain ⟨h1, h2, h3, h4⟩ := h
  have a := g nm (by rw [h1]; decide)
  have b := g vs (by rw [h3]; decide)
  exact ⟨a.1.trans h1, a.2.1.trans h2, b.1.trans h3, b.2.1.trans h4⟩
theorem rf_field {post : Int32 → rf_S → Prop} {σ : rf_S} {p1 p2 : Int32} : wp_X12_readsField post σ p1 p2 = rwK (fun σ16 => post 0 σ16) (fun σ17 => vp_in p1 (rf_n 13) ∧ (p2 ≤ 0 → w_X12_readsField_67 post (rf_ub σ17 13 p1.toNatClampNeg (σ17.2.1 29)) p1) ∧ (¬ p2 ≤ 0 → vp_in p1 (rf_n 13) ∧ vp_in (p1 - 1) (rf_n 13) ∧ (0 < (lg_cmp ((rf_ub σ17 13 p1.toNatClampNeg (σ17.2.1 29)).2.2.2 13 p1.toNatClampNeg) ((rf_ub σ17 13 p1.toNatClampNeg (σ17.2.1 29)).2.2.2 13 (p1 - 1).toNatClampNeg)) → w_X12_readsField_67 post (rf_ub σ17 13 p1.toNatClampNeg (σ17.2.1 29)) p1) ∧ (¬ 0 < (lg_cmp ((rf_ub σ17 13 p1.toNatClampNeg (σ17.2.1 29)).2.2.2 13 p1.toNatClampNeg) ((rf_ub σ17 13 p1.toNatClampNeg (σ17.2.1 29)).2.2.2 13 (p1 - 1).toNatClampNeg)) → wp_X12_wrong (fun r18 σ18 => narrow .boolean (.int r18) = .int r18 ∧ post r18 σ18) (rf_ub σ17 13 p1.toNatClampNeg (σ17.2.1 29)) 2 (σ.1 4)))) σ 8 := rfl
section FL
variable {G : Nat → Nat} {rc tp z p00 m nm vs te0 st : Nat} {bf : Nat → Nat} {S0 : cs_S} {σ0 : rf_S} {x5 x7 : Int64} {post : Option Nat → cs_S → Prop}
/-- the check byte, behind the last field -/
theorem sm_ck {S : cs_S} {σ : rf_S} {p u v : Nat} (hm : m ≤ 8) (hg : rg rc S0 S) (hs : sg 4000 32000 te0 σ0 σ) (hJ : rdJ S σ rc tp z p bf) (hst : st ≤ p) (h9 : σ.2.2.1 9 4000 = nI m) (hu : u ≤ 18) (hv : v ≤ 240)
    (hok : ∀ S' σ', rg rc S S' → sg 4000 32000 te0 σ σ' → rdJ S' σ' rc tp z (p + 1) bf → σ'.1 31 = σ.1 31 → σ'.1 20 = σ.1 20 → σ'.2.2 = σ.2.2 → (∀ Q : Int32 → rf_S → Prop, Q 1 σ' → w_X12_readsRecord_173 Q 1 σ (nI 4000) (nI st) (nI te0) (nI m)) → w_X6_readRecord_208 post G 19 247 S' u v rc x5 x7 (some nm) (some vs))
    (hbad : ∀ S', rg rc S0 S' → ¬ cs_i S' 700 rc = 0 → bdR (fun Q => w_X12_readsRecord_173 Q 1 σ (nI 4000) (nI st) (nI te0) (nI m)) rc 4000 32000 te0 S0 S' σ0 → post none S') :
    w_X6_readRecord_168 post G 19 247 S u v rc (nI st) x5 x7 (some nm) (some vs) := by
  obtain ⟨k1, k2, k3, k4, k5, k6, k7, k8⟩ := id hJ.1
  have ec : ckf (cs_ai S tp) (p - st) st 0 = ckf (fun j => nI (bf j)) (p - st) st 0 := ckf_cong _ _ _ (fun j _ h2 => hJ.2.2.2.2.1 j (by omega))
  have er : ckf (fun j => σ.2.2.1 1 j &&& 255) (p - st) st 0 = ckf (fun j => nI (bf j)) (p - st) st 0 := ckf_cong _ _ _ (fun j _ h2 => hJ.2.2.2.2.2 j (by omega))
  obtain ⟨cb, hcb, ecb⟩ := ckf_b (B := fun j => nI (bf j)) (p - st) st 0 (by decide) (fun j _ h2 => ⟨bf j, hJ.2.2.2.1 j (by omega), rfl⟩)
  have ecb' : ckf (fun j => nI (bf j)) (p - st) st 0 = nI cb := ecb
  refine ⟨by omega, by omega, k1, fun r44 e => ?_⟩
  rw [e, k2, k6]
  refine cck_ok k3 (by omega) (by omega) hst ?_
  rw [ec, ecb']
  refine ⟨k1, ?_⟩
  have hpre : ∀ Q : Int32 → rf_S → Prop, wp_X12_byteAt (fun r15 σ15 => (¬ r15 = nI cb → (0 ≤ r15 → wp_X12_wrong (fun r16 σ16 => w_X12_readsRecord_286 Q σ16 r16) (rf_ui σ15 20 (nI te0)) 4 (σ15.1 4)) ∧ (¬ 0 ≤ r15 → wp_X12_wrong (fun r17 σ17 => w_X12_readsRecord_286 Q σ17 r17) (rf_ui σ15 20 (nI te0)) 1 (σ15.1 3))) ∧ (r15 = nI cb → Q 1 (rf_ui σ15 4 ((σ15.1 4) + 1)))) σ (nI p) → w_X12_readsRecord_173 Q 1 σ (nI 4000) (nI st) (nI te0) (nI m) := by
    intro Q hQ
    refine ⟨nI_in (N := 4001) (by decide) (by decide), fun _ => ?_, fun hc => ?_⟩
    · rw [hJ.2.1.2.1]
      refine rck_ok (by omega) hst ?_
      rw [er, ecb', hJ.2.1.2.1]
      exact hQ
    · rw [nI_clamp (by decide), h9] at hc
      exact absurd (nI_le (Nat.le_refl _) (by omega)) hc
  have hD : ∀ c a : Int32, ¬ c = 0 → (∀ Q : Int32 → rf_S → Prop, Q 0 (rf_ui (rf_ui (rf_ui σ 20 (nI te0)) 5 c) 6 a) → w_X12_readsRecord_173 Q 1 σ (nI 4000) (nI st) (nI te0) (nI m)) → w_X6_readRecord_208 post G 19 247 (cs_ui (cs_ui S 700 rc c) 701 rc a) u v rc x5 x7 (some nm) (some vs) := by
    intro c a hc hreach
    have hB := rdB.mk (rc := rc) (m := 4000) (f0 := 32000) (te := te0) (S := S0) (S1 := S) (σ := σ0) (σ1 := rf_ui σ 20 (nI te0)) (a := a) hg (hs.ui (by omega)) hc
    exact rr_208d (by omega) (by omega) (rdD.of hJ.1 ((rg.ui (Or.inl rfl)).trans (rg.ui (Or.inr (Or.inl rfl)))) hB.2.2.1) (hbad _ hB.1 hB.2.2.1 (fun Q hQ => hreach Q (hQ _ hB)))
  by_cases hp : p < z
  · have ea := hJ.2.2.2.2.1 _ hp
    have er2 := hJ.2.2.2.2.2 _ hp
    have hb := hJ.2.2.2.1 _ hp
    refine rd_ok hJ.1 hJ.2.2.1 hp (by rw [ea]; exact nI_pos (by omega)) (by rw [ea]; exact nI_le (b := 255) (by omega) (by decide)) ?_
    rw [ea]
    refine ⟨fun hc => ?_, fun hc => ⟨k1, ?_⟩⟩
    · have hsg : sg 4000 32000 te0 σ (rf_ui σ 4 (nI (p + 1))) := sg.rfl.ui (by omega)
      have hrg : rg rc S (cs_ui S 706 rc (nI (p + 1))) := rg.ui (by omega)
      refine hok _ (rf_ui σ 4 (nI (p + 1))) hrg hsg (hJ.on2 hrg hsg (by rw [iui, if_neg (fun q => absurd q.1 (by decide))]; exact hJ.2.2.1) (by rw [iui, if_pos ⟨rfl, rfl⟩]) (by rw [r1ui, if_pos rfl]) hp) (by rw [r1ui, if_neg (by decide)]) (by rw [r1ui, if_neg (by decide)]) rfl (fun Q hQ => hpre Q (re_byte hJ.2.1 hp ?_))
      rw [er2]
      refine ⟨fun hn => absurd hc hn, fun _ => ?_⟩
      rw [hJ.2.1.2.1, nI_1]
      exact hQ
    · have h7 : cs_i (cs_ui S 706 rc (nI (p + 1))) 700 rc = 0 := by rw [iui, if_neg (fun q => absurd q.1 (by decide))]; exact hJ.2.2.1
      have hB := rdB.mk (rc := rc) (m := 4000) (f0 := 32000) (te := te0) (S := S0) (S1 := cs_ui S 706 rc (nI (p + 1))) (σ := σ0) (σ1 := rf_ui σ 20 (nI te0)) (c := 4) (a := nI p) (hg.trans (rg.ui (by omega))) (hs.ui (by omega)) (by decide)
      rw [k6]
      refine rd_fail k1 h7 (rr_208d (by omega) (by omega) (rdD.of hJ.1 (((rg.ui (Or.inr (Or.inr rfl))).trans (rg.ui (Or.inl rfl))).trans (rg.ui (Or.inr (Or.inl rfl)))) hB.2.2.1) (hbad _ hB.1 hB.2.2.1 (fun Q hQ => hpre Q (re_byte hJ.2.1 hp ?_))))
      rw [er2]
      refine ⟨fun _ => ⟨fun _ => ⟨rfl, ?_⟩, fun hn => absurd (nI_pos' (by omega)) hn⟩, fun hn => absurd hn hc⟩
      rw [hJ.2.1.2.1]
      exact hQ _ hB
  · have hpz : p = z := Nat.le_antisymm k8 (by omega)
    have hw := hD 1 (nI z) (by decide) (fun Q hQ => hpre Q (re_none hJ.2.1 (by omega) (by omega) ⟨fun _ => ⟨fun hn => absurd hn (by decide), fun _ => ⟨rfl, by rw [hJ.2.1.1]; exact hQ⟩⟩, fun hn => ?_⟩))
    · refine rd_end hJ.1 hJ.2.2.1 hpz ⟨fun _ => hw, fun _ => ⟨k1, rd_fail2 k1 ?_ hw⟩⟩
      rw [iui, if_neg (fun q => absurd q.1 (by decide)), iui, if_pos ⟨rfl, rfl⟩]
      decide
    · exfalso
      have h1 : (0 : Int32) ≤ -1 := by rw [hn]; exact nI_pos' (by omega)
      exact absurd h1 (by decide)
end FL
