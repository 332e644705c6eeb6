/-! ===== a rule read: what it looks for ===== -/
def OUTW (G cx : Nat → Nat) (bf : Nat → Nat) (z c bk nr : Nat) (ra : Nat → Nat) (nm : Nat → Int64) (na : Int64) (i cn : Nat) (σ : rf_S) (RW : (Int32 → rf_S → Prop) → Prop) (st : cs_S → cs_S → Nat → Prop) (CWp : (cs_S → Prop) → Nat → Nat → Nat → Nat → cs_S → Nat → Prop) : Prop :=
  ∃ (r : Int32) (σ1 : rf_S) (m n : Nat), gF bk nr cn σ σ1 ∧ (∀ Q : Int32 → rf_S → Prop, Q r σ1 → RW Q) ∧
    ((r = 1 ∧ ∃ i1 cn1 x k, i ≤ i1 ∧ i1 ≤ c ∧ cn ≤ cn1 ∧ rA bf z bk nr nm i1 cn1 σ1 ∧ rWx σ1 (12 * bk + nr) x k 0 ∧ (σ1.2.2.2 35 (12 * bk + nr) = σ.2.2.2 35 (12 * bk + nr) ∧ σ1.2.2.1 45 (12 * bk + nr) = σ.2.2.1 45 (12 * bk + nr)) ∧ m + 4 * qp bf z i ≤ 4 * qp bf z i1 ∧ n + 40 * qp bf z i ≤ 40 * qp bf z i1 ∧
        ∀ (S0 S : cs_S) (R : Nat) (post : cs_S → Prop), st S0 S R → (∀ S1, stR G cx bf z c bk nr ra nm na i1 cn1 x k 0 σ1 S0 S1 R → post S1) → ∀ mc ms u v, u + m ≤ mc → v + n ≤ ms → CWp post mc ms u v S R) ∨
      ∃ fk fp, r = 0 ∧ rD fk fp σ1 ∧ m + 4 * qp bf z i ≤ 4 * z + 14 ∧ n + 40 * qp bf z i ≤ 40 * z + 142 ∧
        ∀ (S0 S : cs_S) (R : Nat) (post : cs_S → Prop), st S0 S R → (∀ S1, dM G cx bf z c nr ra nm S0 R fk fp S1 → post S1) → ∀ mc ms u v, u + m ≤ mc → v + n ≤ ms → CWp post mc ms u v S R)
section WHT
variable {G cx : Nat → Nat} {bf : Nat → Nat} {z c bk nr i i' cn cn' x k R ca by0 wt : Nat} {ra : Nat → Nat} {nm : Nat → Int64} {na : Int64} {σ σ' : rf_S} {S S' S0 : cs_S} {vi : Nat → Int32} {vl : Nat → Int64} {un : Option Nat} {ce : Nat → Option Nat} {be : Nat → Int64}
theorem OUTW.pre {RW RW' : (Int32 → rf_S → Prop) → Prop} {st st' : cs_S → cs_S → Nat → Prop} {CWp CWp' : (cs_S → Prop) → Nat → Nat → Nat → Nat → cs_S → Nat → Prop} (m0 n0 : Nat) (h : OUTW G cx bf z c bk nr ra nm na i' cn' σ' RW' st' CWp') (hg : gF bk nr cn σ σ') (hc : cn ≤ cn') (hi : i ≤ i') (h35 : σ'.2.2.2 35 (12 * bk + nr) = σ.2.2.2 35 (12 * bk + nr) ∧ σ'.2.2.1 45 (12 * bk + nr) = σ.2.2.1 45 (12 * bk + nr)) (hm : m0 + 4 * qp bf z i ≤ 4 * qp bf z i') (hn : n0 + 40 * qp bf z i ≤ 40 * qp bf z i') (hR : ∀ Q, RW' Q → RW Q)
    (hC : ∀ S0 S R post mc ms u v, st S0 S R → u + m0 ≤ mc → v + n0 ≤ ms → (∀ S', st' S0 S' R → CWp' post mc ms (u + m0) (v + n0) S' R) → CWp post mc ms u v S R) : OUTW G cx bf z c bk nr ra nm na i cn σ RW st CWp := by
  obtain ⟨r, σ1, m, n, g1, g2, g3⟩ := h
  refine ⟨r, σ1, m0 + m, n0 + n, hg.trans g1 hc, fun Q hQ => hR Q (g2 Q hQ), ?_⟩
  rcases g3 with ⟨e, i1, cn1, x, k, a1, a2, a3, a4, a8, ⟨a9, a10⟩, a5, a6, a7⟩ | ⟨fk, fp, e, a1, a5, a6, a7⟩
  · exact Or.inl ⟨e, i1, cn1, x, k, by omega, a2, by omega, a4, a8, ⟨a9.trans h35.1, a10.trans h35.2⟩, by omega, by omega, fun S0 S R post hs hp mc ms u v hu hv => hC S0 S R post mc ms u v hs (by omega) (by omega) (fun S' hs' => a7 S0 S' R post hs' hp mc ms _ _ (by omega) (by omega))⟩
  · exact Or.inr ⟨fk, fp, e, a1, by omega, by omega, fun S0 S R post hs hp mc ms u v hu hv => hC S0 S R post mc ms u v hs (by omega) (by omega) (fun S' hs' => a7 S0 S' R post hs' hp mc ms _ _ (by omega) (by omega))⟩
/-- one condition more -/
theorem WC (ht : tC bf z c) (h : rA bf z bk nr nm i cn σ) (hi : i ≤ c) (hnr : nr < 12) (hk : k < 5) (h40 : σ.2.2.1 40 (12 * bk + nr) = nI k) {RW : (Int32 → rf_S → Prop) → Prop} {RWf : rf_S → (Int32 → rf_S → Prop) → Prop} {CWp CWp' : (cs_S → Prop) → Nat → Nat → Nat → Nat → cs_S → Nat → Prop}
    (rest : ∀ i1 cn1 σ2, i < i1 → i1 ≤ c → cn ≤ cn1 → rA bf z bk nr nm i1 cn1 σ2 → gF bk nr cn σ σ2 → (∀ kk j, 36 ≤ kk → kk ≤ 45 → kk ≠ 40 → kk ≠ 41 → σ2.2.2.1 kk j = σ.2.2.1 kk j) → (∀ kk j, 35 ≤ kk → kk ≤ 37 → σ2.2.2.2 kk j = σ.2.2.2 kk j) → σ2.2.2.1 40 (12 * bk + nr) = nI (k + 1) → OUTW G cx bf z c bk nr ra nm na i1 cn1 σ2 (RWf σ2) (stR G cx bf z c bk nr ra nm na i1 cn1 x (k + 1) 0 σ2) CWp')
    (hR1 : ∀ Q σ2, RWf σ2 Q → (∀ Q' : Int32 → rf_S → Prop, Q' 1 σ2 → wp_X12_readCond Q' σ (nI (12 * bk + nr))) → RW Q) (hR0 : ∀ (Q : Int32 → rf_S → Prop) σ2, Q 0 σ2 → (∀ Q' : Int32 → rf_S → Prop, Q' 0 σ2 → wp_X12_readCond Q' σ (nI (12 * bk + nr))) → RW Q)
    (hC : ∀ S0 S R post mc ms u v m n, stR G cx bf z c bk nr ra nm na i cn x k 0 σ S0 S R → u + m ≤ mc → v + n ≤ ms → (∀ P : Option Nat → cs_S → Prop, (∀ r61 S61, cs_k S61 R = 9 → wp_X7_addCond (fun S64 => CWp' post mc ms (u + m) (v + n) S64 R) G S61 R r61 → P r61 S61) → wp_X5_readCond 60 P G m n S (cx 0) 0) → CWp post mc ms u v S R)
    (hD : ∀ S0 S R fk fp post mc ms u v, dM G cx bf z c nr ra nm S0 R fk fp S → u + 2 ≤ mc → v + 14 ≤ ms → (∀ S1, dM G cx bf z c nr ra nm S0 R fk fp S1 → post S1) → CWp' post mc ms u v S R) : OUTW G cx bf z c bk nr ra nm na i cn σ RW (stR G cx bf z c bk nr ra nm na i cn x k 0 σ) CWp := by
  have hbk := h.2.2.1.2.2
  have hz := ht.1
  have hle := ht.le i hi
  have hc : cn ≤ 1100 := by have := h.2.2.2.2.1.2.1; omega
  obtain ⟨r, σ1, m, n, hF0, href, hcase⟩ := TOPC (G := G) (cx := cx) (ra := ra) ht h hi
  have hF : pF bk cn σ σ1 := (pF.rfl.ui (by omega)).trans hF0 (Nat.le_refl _)
  have h40' : σ1.2.2.1 40 (12 * bk + nr) = nI k := by rw [hF.2.2.1 40 _ (by omega)]; exact h40
  obtain ⟨rc1, rc0⟩ := r_rc (b := 12 * bk + nr) (k := k) (by omega) (by omega) h40' href
  rcases hcase with ⟨i1, cn1, nd, e, hi1, hic, ⟨hcn, hq⟩, hA1, h61, hin, hm, hn, cls⟩ | ⟨fk, fp, e, hDf, hm, hn, cls⟩
  · have hle1 := ht.le i1 hic
    have hc1 : cn1 ≤ 1100 := by have := hA1.2.2.2.2.1.2.1; omega
    have hnd : nd < 2200 := by have := hin.2; omega
    have hG : gF bk nr cn σ (rf_ua (rf_ua σ1 41 (6 * (12 * bk + nr) + k) (nI nd)) 40 (12 * bk + nr) (nI (k + 1))) := (hF.gf.ua hnr (Or.inr ⟨rfl, by omega, by omega⟩)).ua hnr (Or.inl ⟨by omega, by omega, by omega, rfl⟩)
    have hG1 : gF bk nr cn1 σ1 (rf_ua (rf_ua σ1 41 (6 * (12 * bk + nr) + k) (nI nd)) 40 (12 * bk + nr) (nI (k + 1))) := (gF.rfl.ua hnr (Or.inr ⟨rfl, by omega, by omega⟩)).ua hnr (Or.inl ⟨by omega, by omega, by omega, rfl⟩)
    have hA2 : rA bf z bk nr nm i1 cn1 (rf_ua (rf_ua σ1 41 (6 * (12 * bk + nr) + k) (nI nd)) 40 (12 * bk + nr) (nI (k + 1))) := (hA1.r44 (by omega)).r44 (by omega)
    have e41 : (rf_ua (rf_ua σ1 41 (6 * (12 * bk + nr) + k) (nI nd)) 40 (12 * bk + nr) (nI (k + 1))).2.2.1 41 (6 * (12 * bk + nr) + k) = nI nd := by rw [r3ua, if_neg (by omega), r3ua, if_pos ⟨rfl, rfl⟩]
    have o41 : ∀ j, j ≠ 6 * (12 * bk + nr) + k → (rf_ua (rf_ua σ1 41 (6 * (12 * bk + nr) + k) (nI nd)) 40 (12 * bk + nr) (nI (k + 1))).2.2.1 41 j = σ.2.2.1 41 j := fun j hj => by rw [r3ua, if_neg (by omega), r3ua, if_neg (by omega), hF.2.2.1 41 _ (by omega)]
    have orow : ∀ kk j, 36 ≤ kk → kk ≤ 45 → kk ≠ 40 → kk ≠ 41 → (rf_ua (rf_ua σ1 41 (6 * (12 * bk + nr) + k) (nI nd)) 40 (12 * bk + nr) (nI (k + 1))).2.2.1 kk j = σ.2.2.1 kk j := fun kk j h1 h2 h3 h4 => by rw [r3ua, if_neg (by omega), r3ua, if_neg (by omega), hF.2.2.1 kk _ (by omega)]
    have olng : ∀ kk j, 35 ≤ kk → kk ≤ 37 → (rf_ua (rf_ua σ1 41 (6 * (12 * bk + nr) + k) (nI nd)) 40 (12 * bk + nr) (nI (k + 1))).2.2.2 kk j = σ.2.2.2 kk j := fun kk j h1 h2 => hF.2.2.2 kk j (by omega)
    have e40 : (rf_ua (rf_ua σ1 41 (6 * (12 * bk + nr) + k) (nI nd)) 40 (12 * bk + nr) (nI (k + 1))).2.2.1 40 (12 * bk + nr) = nI (k + 1) := by rw [r3ua, if_pos ⟨rfl, rfl⟩]
    have rc := rc1 nd hnd e
    generalize (rf_ua (rf_ua σ1 41 (6 * (12 * bk + nr) + k) (nI nd)) 40 (12 * bk + nr) (nI (k + 1))) = σ2 at *
    refine OUTW.pre m n (rest i1 cn1 σ2 hi1 hic hcn hA2 hG orow olng e40) hG hcn (by omega) ⟨olng 35 _ (by decide) (by decide), orow 45 _ (by decide) (by decide) (by decide) (by decide)⟩ (by omega) (by omega) (fun Q hQ => hR1 Q σ2 hQ rc) ?_
    intro S0 S R post mc ms u v hs hu hv hp
    refine hC S0 S R post mc ms u v m n hs hu hv (fun P hP => ?_)
    obtain ⟨ca, by0, wt, vi, vl, un, ce, be, hmk, hj, v11⟩ := hs
    refine cls S P hmk.1 (fun S1 a t p1 f1 ka k3 r206 hcN hrR hcLv hrLv => ?_)
    have h1 := hmk.pe p1 f1
    refine hP (some a) S1 h1.2.2.1.1.1 (c_addc h1.2.2.1 hj.1.2.2.2.1 hk (fun b eb => by rw [← Option.some.inj eb]; exact k3) ?_)
    have hFw : fX (fun _ _ a => rEx R ca by0 a) S1 (cs_ui (cs_uar S1 ca k (some a)) 806 R (nI (k + 1))) := (fX.rfl.uar (Or.inl (Or.inr (Or.inl rfl)))).ui (Or.inl (Or.inl rfl))
    refine hp _ ⟨ca, by0, wt, _, vl, un, _, be, h1.wr hFw h1.2.2.1.uar.ui, ?_, ?_⟩
    · have hP2 := prS.gf h hc hG
      obtain ⟨⟨j1, j2, j3, j4, j5, j6, j7, j8⟩, ⟨tr, ut, jc, ju, jn⟩, jf, jb⟩ := hj
      refine ⟨⟨?_, ?_, ?_, up_s, ?_, ?_, ?_, j8⟩, ⟨up tr k t, ut, ?_, ?_, jn⟩, fun e => ?_, fun j hj => absurd hj (Nat.not_lt_zero _)⟩
      · rw [up_o (by decide)]; exact j1
      · rw [up_o (by decide)]; exact j2
      · rw [up_o (by decide)]; exact j3
      · rw [up_o (by decide)]; exact j5
      · rw [up_o (by decide)]; exact j6
      · rw [up_o (by decide), orow 39 _ (by decide) (by decide) (by decide) (by decide)]; exact j7
      · have old := (jc.on hcn hP2 (fun c hck => o41 _ (by omega)) f1 (pE.e3 hmk.1.1.1.1)).on (Nat.le_refl _) prS.rfl' (fun _ _ => rfl) hFw (rEx.e3 h1.2.2.1)
        intro c hck
        by_cases ec : c = k
        · obtain ⟨q1, q2, q3⟩ := prS.gf hA1 hc1 hG1 14 nd t hin hrLv hrR
          rw [ec, up_s, up_s]
          exact ⟨nd, a, e41, hin, q1, q2, rfl, cR.fx hFw (fun s f y q => (rEx.e3 h1.2.2.1 s f y q).1) _ _ _ hcN.cr, cLv.fx hFw (fun s f y q => ⟨(rEx.e3 h1.2.2.1 s f y q).2.1, (rEx.e3 h1.2.2.1 s f y q).2.2, fun w => absurd w (rEx.e3 h1.2.2.1 s f y q).1⟩) _ _ (q3 S1 hcLv)⟩
        · rw [up_o ec, up_o ec]
          exact old c (by omega)
      · exact (ju.on hcn hP2 (orow 42 _ (by decide) (by decide) (by decide) (by decide)) f1 (pE.e3 hmk.1.1.1.1)).on (Nat.le_refl _) prS.rfl' rfl hFw (rEx.e3 h1.2.2.1)
      · rw [olng 36 _ (by decide) (by decide)]; exact jf e
    · rw [up_o (by decide)]; exact v11
  · refine ⟨0, σ1, m + 2, n + 14, hF.gf, fun Q hQ => hR0 Q σ1 hQ (rc0 e), Or.inr ⟨fk, fp, rfl, hDf, by omega, by omega, ?_⟩⟩
    intro S0 S R post hs hp mc ms u v hu hv
    refine hC S0 S R post mc ms u v m n hs (by omega) (by omega) (fun P hP => ?_)
    obtain ⟨ca, by0, wt, vi, vl, un, ce, be, hmk, hj, v11⟩ := hs
    refine cls S P hmk.1 (fun S1 o p1 f1 ho => ?_)
    have h1 := hmk.dd p1 f1 (Nat.le_of_lt hk) hj.1.2.2.2.1 (Nat.zero_le 3) hj.1.2.2.2.2.1
    exact hP o S1 h1.k9 (d_addc h1 ho (fun S' h' => hD S0 S' R fk fp post mc ms _ _ h' (by omega) (by omega) hp))
end WHT
