/-! ===== a rule read: what, and what follows it ===== -/
section WH5
variable {G cx : Nat → Nat} {bf : Nat → Nat} {z c bk nr i i' cn cn' x k R ca by0 wt : Nat} {ra : Nat → Nat} {nm : Nat → Int64} {na : Int64} {σ σ' : rf_S} {S S' S0 : cs_S} {vi : Nat → Int32} {vl : Nat → Int64} {un : Option Nat} {ce : Nat → Option Nat} {be : Nat → Int64} {fk fp : Int32} {wh : Int32}
theorem stN.w802 (h : stN G cx bf z c nr ra nm na i 0 S0 S R) : stN G cx bf z c nr ra nm na i wh S0 (cs_ui S 802 R wh) R := by
  obtain ⟨ca, by0, wt, vi, vl, ce, be, hm, ⟨v1, v2, v3, v4, v5, v6, v7, v8⟩, v9⟩ := h
  exact ⟨ca, by0, wt, _, vl, ce, be, hm.u, ⟨by rw [up_o (by decide)]; exact v1, up_s, by rw [up_o (by decide)]; exact v3, by rw [up_o (by decide)]; exact v4, by rw [up_o (by decide)]; exact v5, by rw [up_o (by decide)]; exact v6, by rw [up_o (by decide)]; exact v7, by rw [up_o (by decide)]; exact v8⟩, v9⟩
theorem c_what (ht : tC bf z c) (h : stN G cx bf z c nr ra nm na i 0 S0 S R) {post : cs_S → Prop} {mc ms : Nat}
    (h1 : kt bf z i = 24 ∨ kt bf z i = 26 ∨ kt bf z i = 27 → ∀ S97, stN G cx bf z c nr ra nm na i (nI (kt bf z i)) S0 S97 R → wp_X5_step (fun S100 => cs_k S100 R = 9 ∧ (¬ (cs_i S100 802 R) = 27 → w_X5_readWhat_84 post G mc ms S100 0 0 (cx 0) (some R) (some R) (some (cx 0)) 1 1000) ∧ ((cs_i S100 802 R) = 27 → w_X5_readWhat_84 post G mc ms S100 0 0 (cx 0) (some R) (some R) (some (cx 0)) 1 2147483647)) G S97 (cx 0))
    (h2 : kt bf z i = 28 → ∀ S97, stN G cx bf z c nr ra nm na i (nI (kt bf z i)) S0 S97 R → wp_X5_step (fun S107 => cs_k S107 (cx 0) = 7 ∧ ∃ m108 n108, 0 + m108 ≤ mc ∧ 0 + n108 ≤ ms ∧ ∃ d9, d9 ≤ 60 ∧ wp_X5_readCond d9 (fun r108 S108 => cs_k S108 R = 9 ∧ wp_X7_addCond (fun S110 => ∃ n9, w_X5_readWhat_140 post G mc ms n9 S110 (0 + m108) (0 + n108) (cx 0) (some R) 1) G S108 R r108) G m108 n108 S107 (cx 0) 0) G S97 (cx 0))
    (h3 : kt bf z i = 31 → ∀ S97, stN G cx bf z c nr ra nm na i (nI (kt bf z i)) S0 S97 R → wp_X5_step (fun S114 => cs_k S114 (cx 0) = 7 ∧ ∃ m115 n115, 0 + m115 ≤ mc ∧ 0 + n115 ≤ ms ∧ ∃ d9, d9 ≤ 60 ∧ wp_X5_readCond d9 (fun r115 S115 => cs_k S115 R = 9 ∧ wp_X7_addCond (fun S117 => cs_k S117 (cx 0) = 7 ∧ wp_X5_skip (fun S119 => cs_k S119 (cx 0) = 7 ∧ ∃ m121 n121, 0 + m115 + m121 ≤ mc ∧ 0 + n115 + n121 ≤ ms ∧ ∃ d9, d9 ≤ 60 ∧ wp_X5_readCond d9 (fun r121 S121 => cs_k S121 R = 9 ∧ wp_X7_addCond (fun S123 => w_X5_readWhat_248 post G mc ms S123 (0 + m115 + m121) (0 + n115 + n121)) G S121 R r121) G m121 n121 S119 (cx 0) 0) G S117 (cx 0) 29) G S115 R r115) G m115 n115 S114 (cx 0) 0) G S97 (cx 0))
    (h4 : ¬ kt bf z i = 24 → ¬ kt bf z i = 26 → ¬ kt bf z i = 27 → ¬ kt bf z i = 28 → ¬ kt bf z i = 31 → ∀ S97, stN G cx bf z c nr ra nm na i (nI (kt bf z i)) S0 S97 R → wp_X5_fail (fun S99 => w_X5_readWhat_248 post G mc ms S99 0 0) G S97 (cx 0) 2) : wp_X5_readWhat post G mc ms S (cx 0) (some R) := by
  have hA : pA G cx bf z c nr ra nm i S ∧ cs_k S R = 9 := by obtain ⟨ca, by0, wt, vi, vl, ce, be, hm, -⟩ := h; exact ⟨hm.1, hm.2.2.1.1.1⟩
  refine ⟨hA.1.1.1.1, R, rfl, hA.2, fun S97 e97 => ?_⟩
  have h97 : stN G cx bf z c nr ra nm na i (nI (kt bf z i)) S0 S97 R := by
    rw [e97, hA.1.2.2.2.2]; exact h.w802
  have hA97 : pA G cx bf z c nr ra nm i S97 := by obtain ⟨ca, by0, wt, vi, vl, ce, be, hm, -⟩ := h97; exact hm.1
  have hK9 := ht.K39 hA.1.2.1
  have e0 : (cs_i S97 606 (cx 0)).toInt = (kt bf z i : Int) := by rw [hA97.2.2.2.2]; exact nI_toInt (by omega)
  exact ⟨hA97.1.1.1, fun q => h4 (by omega) (by omega) (by omega) (by omega) (by omega) S97 h97, fun q => h1 (by omega) S97 h97, fun q => h4 (by omega) (by omega) (by omega) (by omega) (by omega) S97 h97, fun q => h1 (by omega) S97 h97, fun q => h1 (by omega) S97 h97, fun q => h2 (by omega) S97 h97, fun q => h4 (by omega) (by omega) (by omega) (by omega) (by omega) S97 h97, fun q => h4 (by omega) (by omega) (by omega) (by omega) (by omega) S97 h97, fun q => h3 (by omega) S97 h97⟩
/-- behind a fault -/
theorem d_what (h : dM G cx bf z c nr ra nm S0 R fk fp S) {post : cs_S → Prop} {mc ms : Nat} (hp : ∀ S1, dM G cx bf z c nr ra nm S0 R fk fp S1 → post S1) : wp_X5_readWhat post G mc ms S (cx 0) (some R) := by
  refine ⟨h.k7, R, rfl, h.k9, fun S97 e97 => ?_⟩
  have h97 : dM G cx bf z c nr ra nm S0 R fk fp S97 := by rw [e97]; exact h.ui (by decide)
  have e0 : (cs_i S97 606 (cx 0)).toInt = 0 := by rw [h97.1.2.2.2.2.2]; decide
  exact ⟨h97.k7, fun _ => d_fail h97.1 ⟨by omega, by omega, hp S97 h97⟩, fun q => by omega, fun q => by omega, fun q => by omega, fun q => by omega, fun q => by omega, fun q => by omega, fun q => by omega, fun q => by omega⟩
theorem WHAT (ht : tC bf z c) (h : rA bf z bk nr nm i cn σ) (hi : i ≤ c) (hnr : nr < 12) (h39 : σ.2.2.1 39 (12 * bk + nr) = 0) (h40 : σ.2.2.1 40 (12 * bk + nr) = nI 0) (h42 : σ.2.2.1 42 (12 * bk + nr) = -1) (h43 : σ.2.2.1 43 (12 * bk + nr) = nI 0) : OUTW G cx bf z c bk nr ra nm na i cn σ (fun Q => wp_X12_readWhat Q σ (nI (12 * bk + nr))) (stN G cx bf z c nr ra nm na i 0) (fun post mc ms u v S R => u = 0 → v = 0 → wp_X5_readWhat post G mc ms S (cx 0) (some R)) := by
  have hbk := h.2.2.1.2.2
  have hz := ht.1
  have hle := ht.le i hi
  have eC : (nI (12 * bk + nr)).toNatClampNeg = 12 * bk + nr := nI_clamp (by omega)
  have i38 : vp_in (nI (12 * bk + nr)) (rf_n 38) := nI_in (N := 24) (by omega) (by decide)
  by_cases e24 : kt bf z i = 24
  · refine OUTW.pre 0 0 (W_ct (x := 0) ht h hi hnr (Or.inl ⟨rfl, e24⟩) h40 h42 h43) gF.rfl (Nat.le_refl _) (Nat.le_refl _) ⟨rfl, rfl⟩ (by omega) (by omega) (fun Q hQ => r_isw (w := 4) ht h hi (by decide) (fun _ => ⟨fun _ => r_isw (w := 4) ht h hi (by decide) (fun _ => ⟨fun q => absurd q (by decide), fun _ => hQ⟩) (fun q => absurd e24 q), fun q => absurd q (by decide)⟩) (fun q => absurd e24 q)) ?_
    intro S0 S R post mc ms u v hs hu hv hp eu ev
    subst eu; subst ev
    exact c_what ht hs (fun _ S97 h97 => hp S97 h97) (fun q => by omega) (fun q => by omega) (fun q => absurd e24 q)
  by_cases e26 : kt bf z i = 26
  · refine OUTW.pre 0 0 (W_ct (x := 1) ht h hi hnr (Or.inr (Or.inl ⟨rfl, e26⟩)) h40 h42 h43) gF.rfl (Nat.le_refl _) (Nat.le_refl _) ⟨rfl, rfl⟩ (by omega) (by omega) (fun Q hQ => r_isw (w := 4) ht h hi (by decide) (fun q => absurd q e24) (fun _ => ⟨fun q => absurd rfl q, fun _ => r_isw (w := 6) ht h hi (by decide) (fun _ => ⟨fun _ => r_isw (w := 4) ht h hi (by decide) (fun q => absurd q e24) (fun _ => ⟨fun _ => r_isw (w := 6) ht h hi (by decide) (fun _ => ⟨fun q => absurd q (by decide), fun _ => hQ⟩) (fun q => absurd e26 q), fun q => absurd rfl q⟩), fun q => absurd q (by decide)⟩) (fun q => absurd e26 q)⟩)) ?_
    intro S0 S R post mc ms u v hs hu hv hp eu ev
    subst eu; subst ev
    exact c_what ht hs (fun _ S97 h97 => hp S97 h97) (fun q => by omega) (fun q => by omega) (fun _ q => absurd e26 q)
  by_cases e27 : kt bf z i = 27
  · refine OUTW.pre 0 0 (W_ct (x := 2) ht h hi hnr (Or.inr (Or.inr ⟨rfl, e27⟩)) h40 h42 h43) gF.rfl (Nat.le_refl _) (Nat.le_refl _) ⟨rfl, rfl⟩ (by omega) (by omega) (fun Q hQ => r_isw (w := 4) ht h hi (by decide) (fun q => absurd q e24) (fun _ => ⟨fun q => absurd rfl q, fun _ => r_isw (w := 6) ht h hi (by decide) (fun q => absurd q e26) (fun _ => ⟨fun q => absurd rfl q, fun _ => r_isw (w := 7) ht h hi (by decide) (fun _ => ⟨fun q => absurd q (by decide), fun _ => r_isw (w := 4) ht h hi (by decide) (fun q => absurd q e24) (fun _ => ⟨fun _ => r_isw (w := 6) ht h hi (by decide) (fun q => absurd q e26) (fun _ => ⟨fun _ => hQ, fun q => absurd rfl q⟩), fun q => absurd rfl q⟩)⟩) (fun q => absurd e27 q)⟩)⟩)) ?_
    intro S0 S R post mc ms u v hs hu hv hp eu ev
    subst eu; subst ev
    exact c_what ht hs (fun _ S97 h97 => hp S97 h97) (fun q => by omega) (fun q => by omega) (fun _ _ q => absurd e27 q)
  -- not one of the three
  have ref : ∀ {Q : Int32 → rf_S → Prop}, wp_X12_isWord (fun r48 σ48 => (r48 = 0 → wp_X12_isWord (fun r49 σ49 => (¬ r49 = 0 → vp_in (nI (12 * bk + nr)) (rf_n 38) ∧ wp_X12_next (fun σ50 => wp_X12_readCond (fun r51 σ51 => (¬ r51 = 0 → ∃ n9, w_X12_readWhat_244 Q n9 σ51 (nI (12 * bk + nr))) ∧ (r51 = 0 → Q 0 σ51)) σ50 (nI (12 * bk + nr))) (rf_ua σ49 38 (nI (12 * bk + nr)).toNatClampNeg 3)) ∧ (r49 = 0 → wp_X12_cant (fun r52 σ52 => narrow .boolean (.int r52) = .int r52 ∧ Q r52 σ52) σ49)) σ48 8) ∧ (¬ r48 = 0 → vp_in (nI (12 * bk + nr)) (rf_n 38) ∧ wp_X12_next (fun σ53 => wp_X12_readCond (fun r54 σ54 => (r54 = 0 → w_X12_readWhat_207 Q σ54) ∧ (¬ r54 = 0 → wp_X12_must (fun r55 σ55 => (r55 = 0 → w_X12_readWhat_207 Q σ55) ∧ (¬ r55 = 0 → wp_X12_readCond (fun r56 σ56 => (r56 = 0 → w_X12_readWhat_207 Q σ56) ∧ (¬ r56 = 0 → w_X12_readWhat_208 Q σ56 1)) σ55 (nI (12 * bk + nr)))) σ54 9)) σ53 (nI (12 * bk + nr))) (rf_ua σ48 38 (nI (12 * bk + nr)).toNatClampNeg 4))) σ 11 → wp_X12_readWhat Q σ (nI (12 * bk + nr)) := fun {Q} hq => r_isw (w := 4) ht h hi (by decide) (fun q => absurd q e24) (fun _ => ⟨fun q => absurd rfl q, fun _ => r_isw (w := 6) ht h hi (by decide) (fun q => absurd q e26) (fun _ => ⟨fun q => absurd rfl q, fun _ => r_isw (w := 7) ht h hi (by decide) (fun q => absurd q e27) (fun _ => ⟨fun _ => hq, fun q => absurd rfl q⟩)⟩)⟩)
  by_cases e31 : kt bf z i = 31
  · refine OUTW.pre 0 0 (W_lk ht h hi hnr e31 h39 h40 h42 h43) gF.rfl (Nat.le_refl _) (Nat.le_refl _) ⟨rfl, rfl⟩ (by omega) (by omega) (fun Q hQ => ref (r_isw (w := 11) ht h hi (by decide) (fun _ => ⟨fun q => absurd q (by decide), fun _ => ⟨i38, by rw [eC]; exact hQ⟩⟩) (fun q => absurd e31 q))) ?_
    intro S0 S R post mc ms u v hs hu hv hp eu ev
    subst eu; subst ev
    exact c_what ht hs (fun q => by omega) (fun q => by omega) (fun _ S97 h97 => hp S97 (by rw [e31] at h97; exact h97)) (fun _ _ _ _ q => absurd e31 q)
  by_cases e28 : kt bf z i = 28
  · refine OUTW.pre 0 0 (W_ch ht h hi hnr e28 h39 h40 h42 h43) gF.rfl (Nat.le_refl _) (Nat.le_refl _) ⟨rfl, rfl⟩ (by omega) (by omega) (fun Q hQ => ref (r_isw (w := 11) ht h hi (by decide) (fun q => absurd q e31) (fun _ => ⟨fun _ => r_isw (w := 8) ht h hi (by decide) (fun _ => ⟨fun _ => ⟨i38, by rw [eC]; exact hQ⟩, fun q => absurd q (by decide)⟩) (fun q => absurd e28 q), fun q => absurd rfl q⟩))) ?_
    intro S0 S R post mc ms u v hs hu hv hp eu ev
    subst eu; subst ev
    exact c_what ht hs (fun q => by omega) (fun _ S97 h97 => hp S97 (by rw [e28] at h97; exact h97)) (fun q => by omega) (fun _ _ _ q => absurd e28 q)
  refine ⟨0, rB σ (fk2 bf z i) (fpl bf z i), 0, 0, rB.f.gf, fun Q hQ => ref (r_isw (w := 11) ht h hi (by decide) (fun q => absurd q e31) (fun _ => ⟨fun _ => r_isw (w := 8) ht h hi (by decide) (fun q => absurd q e28) (fun _ => ⟨fun q => absurd rfl q, fun _ => r_cant ht h hi ⟨rfl, hQ⟩⟩), fun q => absurd rfl q⟩)), Or.inr ⟨fk2 bf z i, fpl bf z i, rfl, rB.d fk2_0, by omega, by omega, ?_⟩⟩
  intro S0 S R post hs hp mc ms u v hu hv eu ev
  subst eu; subst ev
  refine c_what ht hs (fun q => by omega) (fun q => absurd q e28) (fun q => absurd q e31) (fun _ _ _ _ _ S97 h97 => ?_)
  obtain ⟨ca, by0, wt, vi, vl, ce, be, hm, ⟨v1, v2, v3, v4, v5, -⟩, v9⟩ := h97
  exact c_fail ht hm.1 (by decide) (fun S99 p99 f99 => ⟨by omega, by omega, hp S99 (hm.dd p99 f99 (Nat.zero_le 5) v4 (Nat.zero_le 3) v5)⟩)
/-- what follows -/
def awR (b : Nat) (σ : rf_S) (Q : Int32 → rf_S → Prop) : Prop := wp_X12_isWord (fun r26 σ26 => (r26 = 0 → w_X12_rule_193 Q σ26 (nI b)) ∧ (¬ r26 = 0 → wp_X12_readBy (fun r27 σ27 => (¬ r27 = 0 → w_X12_rule_193 Q σ27 (nI b)) ∧ (r27 = 0 → Q 0 σ27)) σ26 (nI b))) σ 1
def awC (G cx : Nat → Nat) (post : cs_S → Prop) (mc ms u v : Nat) (S : cs_S) (R : Nat) : Prop := cs_k S (cx 0) = 7 ∧ (¬ (cs_i S 606 (cx 0)) = 21 → w_X5_readRule_76 post G mc ms S u v (cx 0) (some R)) ∧ ((cs_i S 606 (cx 0)) = 21 → wp_X5_readBy (fun S84 => w_X5_readRule_76 post G mc ms S84 u v (cx 0) (some R)) G S (cx 0) (some R))
theorem d_aw (h : dM G cx bf z c nr ra nm S0 R fk fp S) {post : cs_S → Prop} {mc ms u v : Nat} (hu : u ≤ mc) (hv : v ≤ ms) (hp : ∀ S1, pQ G cx bf z c nr ra nm fk fp S1 → fX (pE (cx 0)) S0 S1 → post S1) : awC G cx post mc ms u v S R := ⟨h.k7, fun _ => d_76 h hu hv hp, fun q => absurd q (h.k0 (x := 21) (by decide) (by decide))⟩
theorem T_aw (ht : tC bf z c) (h : rA bf z bk nr nm i cn σ) (hi : i ≤ c) (hnr : nr < 12) (hX : rWx σ (12 * bk + nr) x k 0) (hna : ∃ n l, n ≤ 8 ∧ wdR n na (σ.2.2.2 35 (12 * bk + nr)) l) (h45 : σ.2.2.1 45 (12 * bk + nr) = 0) : OUTR G cx bf z c bk nr ra nm na i cn σ (awR (12 * bk + nr) σ) (stR G cx bf z c bk nr ra nm na i cn x k 0 σ) (awC G cx) := by
  have hK9 := ht.K39 hi
  by_cases e21 : kt bf z i = 21
  · refine OUTR.pre 0 0 (BYL ht hnr 3 0 i σ rfl h (ht.lt hi (by omega)) hX hna h45) gF.rfl (Nat.le_refl _) (Nat.le_refl _) (by omega) (by omega) (fun Q hQ => r_isw (w := 1) ht h hi (by decide) (fun _ => ⟨fun q => absurd q (by decide), fun _ => ⟨4, hQ⟩⟩) (fun q => absurd e21 q)) ?_
    intro S0 S R post mc ms u v hs hu hv hp
    obtain ⟨ca, by0, wt, vi, vl, un, ce, be, hm, hj, v11⟩ := id hs
    exact ⟨hm.1.1.1.1, fun q => absurd (by rw [hm.1.2.2.2.2, e21]; rfl) q, fun _ => ⟨5, hp S hs⟩⟩
  · refine OUTR.pre 0 0 (T193 ht h hi hnr hX hna h45) gF.rfl (Nat.le_refl _) (Nat.le_refl _) (by omega) (by omega) (fun Q hQ => r_isw (w := 1) ht h hi (by decide) (fun q => absurd q e21) (fun _ => ⟨fun _ => hQ, fun q => absurd rfl q⟩)) ?_
    intro S0 S R post mc ms u v hs hu hv hp
    obtain ⟨ca, by0, wt, vi, vl, un, ce, be, hm, hj, v11⟩ := id hs
    exact ⟨hm.1.1.1.1, fun _ => hp S hs, fun q => absurd ((nI_eq (b := 21) (by omega) (by decide)).mp (hm.1.2.2.2.2.symm.trans q)) e21⟩
/-- both -/
theorem WA (ht : tC bf z c) (h : rA bf z bk nr nm i cn σ) (hi : i ≤ c) (hnr : nr < 12) (h39 : σ.2.2.1 39 (12 * bk + nr) = 0) (h40 : σ.2.2.1 40 (12 * bk + nr) = nI 0) (h42 : σ.2.2.1 42 (12 * bk + nr) = -1) (h43 : σ.2.2.1 43 (12 * bk + nr) = nI 0) (hna : ∃ n l, n ≤ 8 ∧ wdR n na (σ.2.2.2 35 (12 * bk + nr)) l) (h45 : σ.2.2.1 45 (12 * bk + nr) = 0) : OUTR G cx bf z c bk nr ra nm na i cn σ (fun Q => wp_X12_readWhat (fun r25 σ25 => (¬ r25 = 0 → awR (12 * bk + nr) σ25 Q) ∧ (r25 = 0 → Q 0 σ25)) σ (nI (12 * bk + nr))) (stN G cx bf z c nr ra nm na i 0) (fun post mc ms u v S R => ∃ m81 n81, u + m81 ≤ mc ∧ v + n81 ≤ ms ∧ wp_X5_readWhat (fun S81 => awC G cx post mc ms (u + m81) (v + n81) S81 R) G m81 n81 S (cx 0) (some R)) := by
  have hz := ht.1
  have hle := ht.le i hi
  obtain ⟨r, σ1, m, n, g1, g2, g3⟩ := WHAT (G := G) (cx := cx) (ra := ra) (na := na) ht h hi hnr h39 h40 h42 h43
  rcases g3 with ⟨e, i1, cn1, x, k, a1, a2, a3, a4, a8, ⟨a9, a10⟩, a5, a6, a7⟩ | ⟨fk, fp, e, a1, a5, a6, a7⟩
  · refine OUTR.pre m n (T_aw ht a4 a2 hnr a8 (by rw [a9]; exact hna) (by rw [a10]; exact h45)) g1 a3 a1 (by omega) (by omega) (fun Q hQ => g2 _ ⟨fun _ => hQ, fun q => absurd q (by rw [e]; decide)⟩) ?_
    intro S0 S R post mc ms u v hs hu hv hp
    exact ⟨m, n, hu, hv, a7 S0 S R _ hs (fun S1 h1 => hp S1 h1) m n 0 0 (by omega) (by omega) rfl rfl⟩
  · refine ⟨0, σ1, m, n, g1, fun Q hQ => g2 _ ⟨fun q => absurd e q, fun _ => hQ⟩, Or.inr ⟨fk, fp, rfl, a1, by omega, by omega, ?_⟩⟩
    intro S0 S R post hs hp mc ms u v hu hv
    exact ⟨m, n, hu, hv, a7 S0 S R _ hs (fun S1 h1 => d_aw h1 hu hv hp) m n 0 0 (by omega) (by omega) rfl rfl⟩
end WH5
