/-! ===== packing an event, both in step ===== -/
theorem wdR.F {n : Nat} {c h l : Int64} (a : wdR n c h l) : ∃ f, wdF n f ∧ c = Int64.ofNat (dg 5 12 f 12) ∧ h = Int64.ofNat (dg 8 8 (w8 f) 8) ∧ l = Int64.ofNat (dg 8 8 (w8 (fun i => f (i + 8))) 8) := by
  obtain ⟨f, a1, a2, a3, a4, a5⟩ := a
  exact ⟨f, ⟨a1, a2⟩, a3, a4, a5⟩
/-- a value stays one while an event is packed -/
theorem vlR.pk {rc pk te va f : Nat} {S S' : cs_S} {σ σ' : rf_S} (h : vlR S σ te va f) (hpk : ∀ tx, cs_r S 1002 va = some tx → tx ≠ pk) (hrc : cs_k S rc = 8) (p : pg rc pk S S') (q : qg σ σ') : vlR S' σ' te va f := by
  have hva : cs_k S va = 11 := h.1
  refine h.on (fun a ha => ?_) (by rw [q.2.2.1 14 (by decide)]) (by rw [q.2.2.1 15 (by decide)]) (by rw [q.2.2.1 16 (by decide)]) (fun j _ => by rw [q.2.2.1 18 (by decide)]) (Nat.le_refl _)
  obtain ⟨p1, p2, p3, p4, p5, p6, p7, p8⟩ := p a
  have hne : a ≠ rc := fun e => by rw [e, hrc] at ha; rcases ha with e | e <;> exact absurd e (by decide)
  refine ⟨p1, p2, p5 _ (fun e => absurd e hne), p5 _ (fun e => absurd e hne), p5 _ (fun e => absurd e hne), p4 _, fun hh => p8 (hpk a hh)⟩
section PE
variable {G : Nat → Nat} {rc pk te q e m nm vs : Nat} {S0 : cs_S} {σ0 : rf_S} {post : cs_S → Prop}
theorem sp_fl (he : e ≤ 4000) (hte : te ≤ 24000) (hk5 : cs_k S0 q = 5) (hm : m ≤ 8) (h9 : σ0.2.2.1 9 e = nI m) (hnm : cs_r S0 403 q = some nm) (hnk : cs_k S0 nm = 21) (hnn : cs_n S0 nm = m) (hvs : cs_r S0 404 q = some vs) (hvk : cs_k S0 vs = 26) (hvn : cs_n S0 vs = m) (hfl : flR S0 σ0 te nm vs e m) (hpk : ∀ k va tx, k < m → cs_ar S0 vs k = some va → cs_r S0 1002 va = some tx → tx ≠ pk) (hrc : cs_k S0 rc = 8) :
    ∀ r k (S : cs_S) (σ : rf_S) y, k + r = m → pkJ S σ rc pk y → y + 35 * r ≤ 300 → pg rc pk S0 S → qg σ0 σ → (∀ S' σ' y', pkJ S' σ' rc pk y' → y' ≤ y + 35 * r → pg rc pk S S' → qg σ σ' → (∀ Q : Int32 → rf_S → Prop, (∃ n9, w_X12_pack_176 Q n9 σ' 0 0) → w_X12_pack_145 Q (r + 1) σ (nI e) (nI k)) → w_X6_packEvent_86 post G S' rc) → w_X6_packEvent_42 post G (r + 1) S rc (some q) (nI k) := by
  have i9 : vp_in (nI e) (rf_n 9) := nI_in (N := 4001) (by omega) (by decide)
  intro r
  induction r with
  | zero =>
    intro k S σ y hk hJ hy p qq h
    have : k = m := by omega
    subst this
    have pq := p q
    have pn := p nm
    refine ⟨q, rfl, pq.1.trans hk5, fun r49 e49 => ⟨nm, by rw [e49, pq.2.2.2.1]; exact hnm, pn.1.trans hnk, fun _ => h S σ y hJ (by omega) pg.rfl qg.rfl (fun Q hQ => ⟨i9, fun _ => hQ, fun hc => ?_⟩), fun hc => ?_⟩⟩
    · rw [nI_clamp (by omega), qq.2.2.1 9 (by decide), h9] at hc
      exact absurd (nI_le (Nat.le_refl _) (by omega)) hc
    · rw [pn.2.1, hnn] at hc
      exact absurd (nI_le (Nat.le_refl _) (by omega)) hc
  | succ r ih =>
    intro k S σ y hk hJ hy p qq h
    have pq := p q
    have pn := p nm
    have pv := p vs
    obtain ⟨⟨n, l, b1, b2, b3⟩, ⟨va, b4, b5⟩, -⟩ := hfl k (by omega)
    obtain ⟨f, hf, c1, c2, c3⟩ := b3.F
    have hva := b5.1
    have hvrc : va ≠ rc := fun e => by rw [e, hrc] at hva; exact absurd hva (by decide)
    refine ⟨q, rfl, pq.1.trans hk5, fun r49 e49 => ⟨nm, by rw [e49, pq.2.2.2.1]; exact hnm, pn.1.trans hnk, fun hc => ?_, fun _ r52 e52 => ⟨vs, by rw [e52, pq.2.2.2.1]; exact hvs, pv.1.trans hvk, fun hc => ?_, fun _ r55 e55 => ⟨nm, by rw [e55, pq.2.2.2.1]; exact hnm, pn.1.trans hnk, by rw [pn.2.1, hnn]; exact nI_in (by omega) (by omega), hJ.1, ?_⟩⟩⟩⟩
    · rw [pn.2.1, hnn] at hc
      exact absurd hc (nI_ge (by omega) (by omega))
    · rw [pv.2.1, hvn] at hc
      exact absurd hc (nI_ge (by omega) (by omega))
    · rw [nI_clamp (by omega), pn.2.2.2.2.2.1, c1]
      refine sp_name (f1 := 8 * e + k) hf b2 (by omega) hJ (by omega) (by rw [qq.2.2.2]; exact c2) (fun S1 σ1 y1 J1 hy1 p1 q1 re1 => ?_)
      have pp1 := p.trans p1
      have qq1 := qq.trans q1
      refine ⟨(pp1 q).1.trans hk5, fun r61 e61 => ⟨vs, by rw [e61, (pp1 q).2.2.2.1]; exact hvs, (pp1 vs).1.trans hvk, by rw [(pp1 vs).2.1, hvn]; exact nI_in (by omega) (by omega), fun r64 e64 => ⟨J1.1, ?_⟩⟩⟩
      rw [(pp1 vs).2.2.2.2.2.2.1, b4] at e64
      rw [e64]
      have hpv : ∀ tx, cs_r S0 1002 va = some tx → tx ≠ pk := fun tx ht => hpk k va tx (by omega) b4 ht
      refine sp_val (f := 8 * e + k) (by omega) hte J1 (by omega) (b5.pk hpv hrc pp1 qq1) (fun tx ht => hpv tx (by rw [(pp1 va).2.2.2.1] at ht; exact ht)) hvrc (fun S2 σ2 y2 J2 hy2 p2 q2 re2 => ?_)
      rw [nI_1]
      refine ih (k + 1) S2 σ2 y2 (by omega) J2 (by omega) (pp1.trans p2) (qq1.trans q2) (fun S3 σ3 y3 J3 hy3 p3 q3 re3 => h S3 σ3 y3 J3 (by omega) ((p1.trans p2).trans p3) ((q1.trans q2).trans q3) (fun Q hQ => ⟨i9, fun hc => ?_, fun _ => ?_⟩))
      · rw [nI_clamp (by omega), qq.2.2.1 9 (by decide), h9] at hc
        exact absurd hc (nI_ge (by omega) (by omega))
      · rw [show (8 * nI e) + nI k = nI (8 * e + k) from by rw [show (8 : Int32) = nI 8 from rfl, show nI 8 * nI e = nI (8 * e) from (Int32.ofNat_mul 8 e).symm, nI_add], nI_1]
        exact re1 _ (re2 _ (re3 Q hQ))
theorem rp_176 {Q : Int32 → rf_S → Prop} {σ : rf_S} {y : Nat} (hy : y ≤ 400) (h85 : σ.1 85 = nI y) : ∀ r k c, k + r = y → wp_X12_put (fun σ14 => Q (σ14.1 85) σ14) σ (ckf (fun j => σ.2.2.1 84 j &&& 255) r k c) → w_X12_pack_176 Q (r + 1) σ c (nI k) := by
  intro r
  induction r with
  | zero =>
    intro k c hk h
    have : k = y := by omega
    subst this
    refine ⟨fun _ => h, fun hc => ?_⟩
    rw [h85] at hc
    exact absurd (nI_le (Nat.le_refl _) (by omega)) hc
  | succ r ih =>
    intro k c hk h
    refine ⟨fun hc => ?_, fun _ => ⟨nI_in (N := 400) (by omega) (by decide), mixed_ok ?_⟩⟩
    · rw [h85] at hc
      exact absurd hc (nI_ge (by omega) (by omega))
    · rw [nI_clamp (by omega), nI_1]
      exact ih (k + 1) _ (by omega) h
/-- the check byte behind what is packed -/
theorem sp_ck {S : cs_S} {σ : rf_S} {y : Nat} (hJ : pkJ S σ rc pk y) (hy : y ≤ 300) (h : ∀ S' σ', pkJ S' σ' rc pk (y + 1) → pg rc pk S S' → qg σ σ' → (∀ Q : Int32 → rf_S → Prop, Q (nI (y + 1)) σ' → ∃ n9, w_X12_pack_176 Q n9 σ 0 0) → post S') : w_X6_packEvent_86 post G S rc := by
  obtain ⟨k1, k2, k3, k4, k5, k6, k7, k8⟩ := id hJ
  have hB : ∀ j, 0 ≤ j → j < 0 + y → ∃ b, b < 256 ∧ cs_ai S pk j = nI b := fun j _ hj => by
    obtain ⟨b, h1, h2, -⟩ := k8 j (by omega)
    exact ⟨b, h1, h2⟩
  obtain ⟨cb, hcb, ecb⟩ := ckf_b (B := cs_ai S pk) y 0 0 (by decide) hB
  have ecb' : ckf (cs_ai S pk) y 0 0 = nI cb := ecb
  have er : ckf (fun j => σ.2.2.1 84 j &&& 255) y 0 0 = nI cb := by
    rw [← ecb']
    refine ckf_cong _ _ _ (fun j _ hj => ?_)
    obtain ⟨b, -, h2, h3⟩ := k8 j (by omega)
    exact h3.trans h2.symm
  refine ⟨k1, fun r43 e43 => ?_⟩
  rw [e43, k2, k5]
  refine cck_ok (k := 0) k3 (by omega) (by omega) (by omega) ?_
  rw [Nat.sub_zero, ecb']
  refine ⟨k1, sp_put (x := nI cb) hJ (by omega) ⟨cb, hcb, rfl⟩ (nar8 cb hcb) (fun S1 σ1 J1 p1 q1 re1 => h S1 σ1 J1 p1 q1 (fun Q hQ => ⟨y + 1, rp_176 (by omega) k6 y 0 0 (by omega) ?_⟩))⟩
  rw [er]
  refine re1 _ ?_
  rw [J1.2.2.2.2.2.1]
  exact hQ
/-- the reference packs -/
def pkP (Q : Int32 → rf_S → Prop) (x1 : Int32) (σ : rf_S) : Prop := wp_X12_put (fun σ24 => (¬ x1 = 0 → vp_in x1 (rf_n 8) ∧ vp_in (x1 - 1) (rf_n 8) ∧ w_X12_pack_79 Q σ24 x1 (((σ24.2.2.1 8 x1.toNatClampNeg) - (σ24.2.2.1 8 (x1 - 1).toNatClampNeg)).toInt64)) ∧ (x1 = 0 → vp_in x1 (rf_n 8) ∧ w_X12_pack_79 Q σ24 x1 ((σ24.2.2.1 8 x1.toNatClampNeg).toInt64))) (rf_ui σ 85 0) 229
theorem sp_pack {S : cs_S} {σ : rf_S} {t ta : Nat} (he : e < 4000) (hte : te ≤ 24000) (hk1 : cs_k S rc = 8) (hk2 : cs_r S 702 rc = some pk) (hk3 : cs_k S pk = 20) (hk4 : cs_n S pk = 301) (hev : evR S σ te q e m) (hpk : ∀ vs k va tx, cs_r S 404 q = some vs → k < m → cs_ar S vs k = some va → cs_r S 1002 va = some tx → tx ≠ pk) (ht : cs_i S 400 q = nI t) (ht8 : σ.2.2.1 8 e = nI t) (hta : ta ≤ t) (ht2 : t ≤ 2000000000) (h0 : e = 0 → ta = 0) (h1 : 0 < e → σ.2.2.1 8 (e - 1) = nI ta)
    (h : ∀ S' σ' y, y ≤ 301 → pkJ S' σ' rc pk y → pg rc pk S S' → qg σ σ' → (∀ Q : Int32 → rf_S → Prop, Q (nI y) σ' → pkP Q (nI e) σ) → post S') : wp_X6_packEvent post G S rc (some q) (nI ta) := by
  obtain ⟨hk5, ⟨n, hn1, hW⟩, hm, h9, nm, vs, hnm, hnk, hnn, hvs, hvk, hvn, hfl⟩ := hev
  obtain ⟨f, hf, c1, c2, c3⟩ := hW.F
  have hqrc : q ≠ rc := fun e => by rw [e, hk1] at hk5; exact absurd hk5 (by decide)
  have J0 : pkJ (cs_ui S 703 rc 0) (rf_ui σ 85 0) rc pk 0 := ⟨hk1, hk2, hk3, hk4, by rw [iui, if_pos ⟨rfl, rfl⟩]; rfl, by rw [r1ui, if_pos rfl]; rfl, by omega, fun j hj => absurd hj (by omega)⟩
  have p0 : pg rc pk S (cs_ui S 703 rc 0) := fun a => ⟨rfl, rfl, fun _ => rfl, fun _ => rfl, fun f hf => by rw [iui, if_neg (fun e => hf e.2 e.1)], fun _ => rfl, fun _ => rfl, fun _ _ => rfl⟩
  have q0 : qg σ (rf_ui σ 85 0) := ⟨fun k hk => by rw [r1ui, if_neg hk], rfl, fun _ _ => rfl, rfl⟩
  refine ⟨hk1, fun S68 e68 => ?_⟩
  subst e68
  refine ⟨hk1, sp_put (c := 229) (x := 229) J0 (by omega) ⟨229, by decide, rfl⟩ (nar8 229 (by decide)) (fun S1 σ1 J1 p1 q1 re1 => ?_)⟩
  have pp1 := p0.trans p1
  have qq1 := q0.trans q1
  refine ⟨q, rfl, (pp1 q).1.trans hk5, J1.1, ?_⟩
  have ev : (nI t - nI ta).toInt64 = Int64.ofNat (t - ta) := by
    have : nI t = nI (t - ta) + nI ta := by rw [nI_add, Nat.sub_add_cancel hta]
    rw [this, Int32.add_sub_cancel]
    exact i32_64 _ (by omega)
  rw [(pp1 q).2.2.2.2.1 400 (fun e => absurd e hqrc), ht, ev]
  refine sp_un (v := t - ta) (by omega) J1 (by omega) (fun S2 σ2 y2 J2 hy2 p2 q2 re2 => ?_)
  have pp2 := pp1.trans p2
  have qq2 := qq1.trans q2
  refine ⟨(pp2 q).1.trans hk5, J2.1, ?_⟩
  rw [(pp2 q).2.2.1 401, c1]
  refine sp_kind (e := e) hf (by omega) J2 (by omega) (by rw [qq2.2.2.2]; exact c2) (by rw [qq2.2.2.2]; exact c3) (fun S3 σ3 y3 J3 hy3 p3 q3 re3 => ?_)
  have pp3 := pp2.trans p3
  have qq3 := qq2.trans q3
  refine ⟨(pp3 q).1.trans hk5, fun r79 e79 => ⟨nm, by rw [e79, (pp3 q).2.2.2.1]; exact hnm, (pp3 nm).1.trans hnk, J3.1, ?_⟩⟩
  rw [(pp3 nm).2.1, hnn]
  refine sp_put (x := nI m) J3 (by omega) ⟨m, by omega, rfl⟩ (nar8 m (by omega)) (fun S4 σ4 J4 p4 q4 re4 => ⟨m + 1, ?_⟩)
  refine sp_fl (te := te) (nm := nm) (vs := vs) (by omega) hte hk5 hm h9 hnm hnk hnn hvs hvk hvn hfl (fun k va tx hk ha hr => hpk vs k va tx hvs hk ha hr) hk1 m 0 S4 σ4 (y3 + 1) (by omega) J4 (by omega) (pp3.trans p4) (qq3.trans q4) (fun S5 σ5 y5 J5 hy5 p5 q5 re5 => ?_)
  refine sp_ck J5 (by omega) (fun S6 σ6 J6 p6 q6 re6 => h S6 σ6 (y5 + 1) (by omega) J6 (((pp3.trans p4).trans p5).trans p6) (((qq3.trans q4).trans q5).trans q6) (fun Q hQ => re1 _ ?_))
  have hchain : w_X12_pack_79 Q σ1 (nI e) (Int64.ofNat (t - ta)) := by
    refine re2 _ (re3 Q ⟨nI_in (N := 4001) (by omega) (by decide), ?_⟩)
    rw [nI_clamp (by omega), qq3.2.2.1 9 (by decide), h9]
    exact re4 _ ⟨m + 1, re5 Q (re6 Q hQ)⟩
  have i8 : vp_in (nI e) (rf_n 8) := nI_in (N := 4001) (by omega) (by decide)
  refine ⟨fun hc => ⟨i8, ?_, ?_⟩, fun hc => ⟨i8, ?_⟩⟩
  · have he0 : 0 < e := Nat.pos_of_ne_zero (fun q => hc (by rw [q]; rfl))
    rw [show e = e - 1 + 1 from by omega, nI_pred]
    exact nI_in (N := 4001) (by omega) (by decide)
  · have he0 : 0 < e := Nat.pos_of_ne_zero (fun q => hc (by rw [q]; rfl))
    have ep : nI e - 1 = nI (e - 1) := by
      rw [show nI e = nI (e - 1 + 1) from by rw [show e - 1 + 1 = e from by omega]]; exact nI_pred _
    rw [ep, nI_clamp (by omega), nI_clamp (by omega), qq1.2.2.1 8 (by decide), ht8, h1 he0, ev]
    exact hchain
  · have he0 : e = 0 := (nI_eq (b := 0) (by omega) (by decide)).mp hc
    have e2 : (nI t).toInt64 = Int64.ofNat (t - ta) := by rw [h0 he0, Nat.sub_zero]; exact i32_64 _ (by omega)
    rw [nI_clamp (by omega), qq1.2.2.1 8 (by decide), ht8, e2]
    exact hchain
end PE
