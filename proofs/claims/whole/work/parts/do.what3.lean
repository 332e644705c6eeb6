/-! ===== a rule read: chain, lack, count ===== -/
/-- a rule whose what has just been read -/
def stN (G cx : Nat → Nat) (bf : Nat → Nat) (z c nr : Nat) (ra : Nat → Nat) (nm : Nat → Int64) (na : Int64) (i : Nat) (wh : Int32) : cs_S → cs_S → Nat → Prop := fun S0 S R => ∃ ca by0 wt vi vl ce be, mK G cx bf z c nr ra nm S0 R ca by0 wt i vi vl none ce be S ∧ (vi 800 = nI nr ∧ vi 802 = wh ∧ vi 803 = 0 ∧ vi 806 = nI 0 ∧ vi 809 = nI 0 ∧ vi 811 = 0 ∧ vi 812 = 0 ∧ vi 813 = 0) ∧ vl 801 = na
section WH3
variable {G cx : Nat → Nat} {bf : Nat → Nat} {z c bk nr i i' cn cn' x k R ca by0 wt : Nat} {ra : Nat → Nat} {nm : Nat → Int64} {na : Int64} {σ σ' : rf_S} {S S' S0 : cs_S} {vi : Nat → Int32} {vl : Nat → Int64} {un : Option Nat} {ce : Nat → Option Nat} {be : Nat → Int64} {fk fp : Int32} {wh : Int32}
/-- a token on -/
theorem stN.pe (h : stN G cx bf z c nr ra nm na i wh S0 S R) (hA : pA G cx bf z c nr ra nm i' S') (hF : fX (pE (cx 0)) S S') : stN G cx bf z c nr ra nm na i' wh S0 S' R := by
  obtain ⟨ca, by0, wt, vi, vl, ce, be, hm, h1⟩ := h
  exact ⟨ca, by0, wt, vi, vl, ce, be, hm.pe hA hF, h1⟩
theorem stN.to (h : stN G cx bf z c nr ra nm na i wh S0 S R) (hw : whC x wh) (hx : x = 3 ∨ x = 4) (h39 : σ.2.2.1 39 (12 * bk + nr) = 0) (h42 : σ.2.2.1 42 (12 * bk + nr) = -1) : stR G cx bf z c bk nr ra nm na i cn x 0 0 σ S0 S R := by
  obtain ⟨ca, by0, wt, vi, vl, ce, be, hm, ⟨h1, h2, h3, h4, h5, h6, h7, h8⟩, h9⟩ := h
  exact ⟨ca, by0, wt, vi, vl, none, ce, be, hm, ⟨⟨h1, h7, h8, h4, h5, by rw [h2]; exact hw, by rw [h3, h39], h9⟩, ⟨fun _ => .inr (.inr []), none, fun c hc => absurd hc (Nat.not_lt_zero _), Or.inl ⟨rfl, rfl, h42⟩, fun _ => rfl⟩, fun e => by omega, fun j hj => absurd hj (Nat.not_lt_zero _)⟩, h6⟩
/-- then, until five are there -/
theorem WL (ht : tC bf z c) (hnr : nr < 12) : ∀ d k i cn σ, k + d = 5 → 1 ≤ k → rA bf z bk nr nm i cn σ → i ≤ c → σ.2.2.1 38 (12 * bk + nr) = nI 3 → σ.2.2.1 40 (12 * bk + nr) = nI k → σ.2.2.1 43 (12 * bk + nr) = nI 0 → OUTW G cx bf z c bk nr ra nm na i cn σ (fun Q => w_X12_readWhat_244 Q (d + 1) σ (nI (12 * bk + nr))) (stR G cx bf z c bk nr ra nm na i cn 3 k 0 σ) (fun post mc ms u v S R => w_X5_readWhat_140 post G mc ms (d + 1) S u v (cx 0) (some R) (nI k)) := by
  intro d
  induction d with
  | zero =>
    intro k i cn σ hd h1 h hi h38 h40 h43
    have hk5 : k = 5 := by omega
    subst hk5
    have hbk := h.2.2.1.2.2
    have hz := ht.1
    have hle := ht.le i hi
    have hK9 := ht.K39 hi
    have eC : (nI (12 * bk + nr)).toNatClampNeg = 12 * bk + nr := nI_clamp (by omega)
    have hX : rWx σ (12 * bk + nr) 3 5 0 := ⟨⟨h38, by omega⟩, ⟨h40, by omega, by omega, fun q => by omega, fun q => by omega⟩, ⟨h43, by omega⟩, fun q => by omega, fun a b ha => absurd ha (Nat.not_lt_zero _)⟩
    by_cases e29 : kt bf z i = 29
    · refine ⟨0, rB σ 4 (fpl bf z i), 0, 0, rB.f.gf, fun Q hQ => r_isw (w := 9) ht h hi (by decide) (fun _ => ⟨fun q => absurd q (by decide), fun _ => ⟨nI_in (N := 24) (by omega) (by decide), fun q => absurd (by rw [eC]; exact h40) q, fun _ => r_wrong ht h hi (by omega) ⟨rfl, hQ⟩⟩⟩) (fun q => absurd e29 q), Or.inr ⟨4, fpl bf z i, rfl, rB.d (by decide), by omega, by omega, ?_⟩⟩
      rintro S0 S R post ⟨ca, by0, wt, vi, vl, un, ce, be, hm, hj, v11⟩ hp mc ms u v hu hv
      have e29' : cs_i S 606 (cx 0) = 29 := by rw [hm.1.2.2.2.2, e29]; rfl
      refine ⟨by omega, by omega, hm.1.1.1.1, fun q => absurd e29' q, fun _ => ⟨fun _ => ⟨by omega, by omega, hm.1.1.1.1, fun q => absurd e29' q, fun _ => c_fail ht hm.1 (by decide) (fun S86 p86 f86 => ?_)⟩, fun q => absurd (by decide) q⟩⟩
      rw [if_neg (by omega)] at p86
      have h86 := hm.dd p86 f86 (Nat.le_refl 5) hj.1.2.2.2.1 (Nat.zero_le 3) hj.1.2.2.2.2.1
      exact ⟨by omega, by omega, h86.k7, fun _ => ⟨by omega, by omega, hp S86 h86⟩, fun q => absurd q (h86.k0 (x := 30) (by decide) (by decide))⟩
    · refine OUTW.pre 0 0 (WU ht h hi hnr hX e29) gF.rfl (Nat.le_refl _) (Nat.le_refl _) ⟨rfl, rfl⟩ (by omega) (by omega) (fun Q hQ => r_isw (w := 9) ht h hi (by decide) (fun q => absurd q e29) (fun _ => ⟨fun _ => hQ, fun q => absurd rfl q⟩)) ?_
      intro S0 S R post mc ms u v hs hu hv hp
      obtain ⟨ca, by0, wt, vi, vl, un, ce, be, hm, hj, v11⟩ := id hs
      exact ⟨by omega, by omega, hm.1.1.1.1, fun _ => hp S hs, fun q => absurd ((nI_eq (b := 29) (by omega) (by decide)).mp (hm.1.2.2.2.2.symm.trans q)) e29⟩
  | succ d ih =>
    intro k i cn σ hd h1 h hi h38 h40 h43
    have hbk := h.2.2.1.2.2
    have hz := ht.1
    have hle := ht.le i hi
    have hK9 := ht.K39 hi
    have hc : cn ≤ 1100 := by have := h.2.2.2.2.1.2.1; omega
    have eC : (nI (12 * bk + nr)).toNatClampNeg = 12 * bk + nr := nI_clamp (by omega)
    have hX : rWx σ (12 * bk + nr) 3 k 0 := ⟨⟨h38, by omega⟩, ⟨h40, by omega, by omega, fun q => by omega, fun q => by omega⟩, ⟨h43, by omega⟩, fun q => by omega, fun a b ha => absurd ha (Nat.not_lt_zero _)⟩
    by_cases e29 : kt bf z i = 29
    · have hlt := ht.lt hi (by omega)
      have hone := ht.one hlt
      obtain ⟨σ1, g1, g2, g3⟩ := r_nx ht h hlt
      have er : σ1.2.2 = σ.2.2 := g1.2.2
      have p1 : pF bk cn σ σ1 := g1.pf
      have n5 : ¬ σ.2.2.1 40 (nI (12 * bk + nr)).toNatClampNeg = 5 := fun q => by
        rw [eC, h40] at q
        have := (nI_eq (b := 5) (by omega) (by decide)).mp q
        omega
      refine OUTW.pre 0 0 (WC (x := 3) (k := k) ht g2 (by omega) hnr (by omega) (by rw [er]; exact h40) (RW := fun Q => wp_X12_readCond (fun r43 σ43 => (¬ r43 = 0 → w_X12_readWhat_244 Q (d + 1) σ43 (nI (12 * bk + nr))) ∧ (r43 = 0 → Q 0 σ43)) σ1 (nI (12 * bk + nr))) (RWf := fun σ2 Q => w_X12_readWhat_244 Q (d + 1) σ2 (nI (12 * bk + nr))) (CWp := fun post mc ms u v S R => cs_k S (cx 0) = 7 ∧ ∃ m89 n89, u + m89 ≤ mc ∧ v + n89 ≤ ms ∧ ∃ d9, d9 ≤ 60 ∧ wp_X5_readCond d9 (fun r89 S89 => ∃ b91, some R = some b91 ∧ cs_k S89 b91 = 9 ∧ wp_X7_addCond (fun S92 => w_X5_readWhat_140 post G mc ms (d + 1) S92 (u + m89) (v + n89) (cx 0) (some b91) (nI k + 1)) G S89 b91 r89) G m89 n89 S (cx 0) 0) (CWp' := fun post mc ms u v S R => w_X5_readWhat_140 post G mc ms (d + 1) S u v (cx 0) (some R) (nI k + 1))
        (fun i1 cn1 σ2 q1 q2 q3 q4 q5 q6 q7 q8 => ?_)
        (fun Q σ2 hQ hr => hr _ ⟨fun _ => hQ, fun w => absurd w (by decide)⟩) (fun Q σ2 hQ hr => hr _ ⟨fun w => absurd rfl w, fun _ => hQ⟩)
        (fun S0 S R post mc ms u v m n hs hu hv hrc => ⟨by obtain ⟨ca, by0, wt, vi, vl, un, ce, be, hm, -⟩ := hs; exact hm.1.1.1.1, m, n, hu, hv, 60, by decide, hrc _ (fun r61 S61 k9 ha => ⟨R, rfl, k9, ha⟩)⟩)
        (fun S0 S R fk fp post mc ms u v hd hu hv hp => ⟨by omega, by omega, hd.k7, fun _ => ⟨by omega, by omega, hd.k7, fun _ => ⟨by omega, by omega, hd.k7, fun _ => ⟨by omega, by omega, hp S hd⟩, fun q => absurd q (hd.k0 (x := 30) (by decide) (by decide))⟩, fun q => absurd q (hd.k0 (x := 29) (by decide) (by decide))⟩, fun q => absurd q (hd.k0 (x := 29) (by decide) (by decide))⟩)) p1.gf (Nat.le_refl _) (by omega) ⟨by rw [er], by rw [er]⟩ (by omega) (by omega) (fun Q hQ => r_isw (w := 9) ht h hi (by decide) (fun _ => ⟨fun q => absurd q (by decide), fun _ => ⟨nI_in (N := 24) (by omega) (by decide), fun _ => g3 _ hQ, fun q => absurd q n5⟩⟩) (fun q => absurd e29 q)) ?_
      · rw [nI_1]
        exact ih (k + 1) i1 cn1 σ2 (by omega) (by omega) q4 q2 (by rw [q6 38 _ (by decide) (by decide) (by decide) (by decide), er]; exact h38) q8 (by rw [q6 43 _ (by decide) (by decide) (by decide) (by decide), er]; exact h43)
      · rintro S0 S R post mc ms u v ⟨ca, by0, wt, vi, vl, un, ce, be, hm, hj, v11⟩ hu hv hp
        have e29' : cs_i S 606 (cx 0) = 29 := by rw [hm.1.2.2.2.2, e29]; rfl
        refine ⟨by omega, by omega, hm.1.1.1.1, fun q => absurd e29' q, fun _ => ⟨fun q => ?_, fun _ => c_step ht hm.1 hlt (fun S88 p88 f88 => hp S88 ⟨ca, by0, wt, vi, vl, un, ce, be, hm.pe p88 f88, hj.on p1.sk (Nat.le_refl _) (prS.of h hc p1) f88 (pE.e3 hm.1.1.1.1), v11⟩)⟩⟩
        exact absurd ((nI_leI (a := 5) (by decide) (by omega)).mp q) (by omega)
    · refine OUTW.pre 0 0 (WU ht h hi hnr hX e29) gF.rfl (Nat.le_refl _) (Nat.le_refl _) ⟨rfl, rfl⟩ (by omega) (by omega) (fun Q hQ => r_isw (w := 9) ht h hi (by decide) (fun q => absurd q e29) (fun _ => ⟨fun _ => hQ, fun q => absurd rfl q⟩)) ?_
      intro S0 S R post mc ms u v hs hu hv hp
      obtain ⟨ca, by0, wt, vi, vl, un, ce, be, hm, hj, v11⟩ := id hs
      exact ⟨by omega, by omega, hm.1.1.1.1, fun _ => hp S hs, fun q => absurd ((nI_eq (b := 29) (by omega) (by decide)).mp (hm.1.2.2.2.2.symm.trans q)) e29⟩
/-- chain -/
theorem W_ch (ht : tC bf z c) (h : rA bf z bk nr nm i cn σ) (hi : i ≤ c) (hnr : nr < 12) (e28 : kt bf z i = 28) (h39 : σ.2.2.1 39 (12 * bk + nr) = 0) (h40 : σ.2.2.1 40 (12 * bk + nr) = nI 0) (h42 : σ.2.2.1 42 (12 * bk + nr) = -1) (h43 : σ.2.2.1 43 (12 * bk + nr) = nI 0) : OUTW G cx bf z c bk nr ra nm na i cn σ (fun Q => wp_X12_next (fun σ50 => wp_X12_readCond (fun r51 σ51 => (¬ r51 = 0 → ∃ n9, w_X12_readWhat_244 Q n9 σ51 (nI (12 * bk + nr))) ∧ (r51 = 0 → Q 0 σ51)) σ50 (nI (12 * bk + nr))) (rf_ua σ 38 (12 * bk + nr) 3)) (stN G cx bf z c nr ra nm na i 28) (fun post mc ms u v S R => wp_X5_step (fun S107 => cs_k S107 (cx 0) = 7 ∧ ∃ m108 n108, u + m108 ≤ mc ∧ v + n108 ≤ ms ∧ ∃ d9, d9 ≤ 60 ∧ wp_X5_readCond d9 (fun r108 S108 => cs_k S108 R = 9 ∧ wp_X7_addCond (fun S110 => ∃ n9, w_X5_readWhat_140 post G mc ms n9 S110 (u + m108) (v + n108) (cx 0) (some R) 1) G S108 R r108) G m108 n108 S107 (cx 0) 0) G S (cx 0)) := by
  have hbk := h.2.2.1.2.2
  have hlt := ht.lt hi (by omega)
  have hone := ht.one hlt
  obtain ⟨σ1, g1, g2, g3⟩ := r_nx ht (h.r44 (kk := 38) (j := 12 * bk + nr) (y := 3) (by omega)) hlt
  have er : σ1.2.2 = (rf_ua σ 38 (12 * bk + nr) 3).2.2 := g1.2.2
  have r3 : ∀ k j, k ≠ 38 → σ1.2.2.1 k j = σ.2.2.1 k j := fun k j hk => by rw [er, r3ua, if_neg (fun e => hk e.1)]
  have r38 : σ1.2.2.1 38 (12 * bk + nr) = nI 3 := by rw [er, r3ua, if_pos ⟨rfl, rfl⟩]; rfl
  have hG : gF bk nr cn σ σ1 := (gF.rfl.ua hnr (Or.inl ⟨by omega, by omega, by omega, rfl⟩)).trans (nxF.pf (bk := bk) (cn := cn) g1).gf (Nat.le_refl _)
  refine OUTW.pre 0 0 (WC (x := 3) (k := 0) ht g2 (by omega) hnr (by decide) (by rw [r3 40 _ (by decide)]; exact h40) (RW := fun Q => wp_X12_readCond (fun r51 σ51 => (¬ r51 = 0 → ∃ n9, w_X12_readWhat_244 Q n9 σ51 (nI (12 * bk + nr))) ∧ (r51 = 0 → Q 0 σ51)) σ1 (nI (12 * bk + nr))) (RWf := fun σ2 Q => w_X12_readWhat_244 Q 5 σ2 (nI (12 * bk + nr))) (CWp := fun post mc ms u v S R => cs_k S (cx 0) = 7 ∧ ∃ m108 n108, u + m108 ≤ mc ∧ v + n108 ≤ ms ∧ ∃ d9, d9 ≤ 60 ∧ wp_X5_readCond d9 (fun r108 S108 => cs_k S108 R = 9 ∧ wp_X7_addCond (fun S110 => ∃ n9, w_X5_readWhat_140 post G mc ms n9 S110 (u + m108) (v + n108) (cx 0) (some R) 1) G S108 R r108) G m108 n108 S (cx 0) 0) (CWp' := fun post mc ms u v S R => ∃ n9, w_X5_readWhat_140 post G mc ms n9 S u v (cx 0) (some R) 1)
    (fun i1 cn1 σ2 q1 q2 q3 q4 q5 q6 q7 q8 => OUTW.pre 0 0 (WL ht hnr 4 1 i1 cn1 σ2 (by decide) (by decide) q4 q2 (by rw [q6 38 _ (by decide) (by decide) (by decide) (by decide)]; exact r38) q8 (by rw [q6 43 _ (by decide) (by decide) (by decide) (by decide), r3 43 _ (by decide)]; exact h43)) gF.rfl (Nat.le_refl _) (Nat.le_refl _) ⟨rfl, rfl⟩ (by omega) (by omega) (fun Q hQ => hQ) (fun S0 S R post mc ms u v hs hu hv hp => ⟨5, hp S hs⟩))
    (fun Q σ2 hQ hr => hr _ ⟨fun _ => ⟨5, hQ⟩, fun w => absurd w (by decide)⟩) (fun Q σ2 hQ hr => hr _ ⟨fun w => absurd rfl w, fun _ => hQ⟩)
    (fun S0 S R post mc ms u v m n hs hu hv hrc => ⟨by obtain ⟨ca, by0, wt, vi, vl, un, ce, be, hm, -⟩ := hs; exact hm.1.1.1.1, m, n, hu, hv, 60, by decide, hrc _ (fun r61 S61 k9 ha => ⟨k9, ha⟩)⟩)
    (fun S0 S R fk fp post mc ms u v hd hu hv hp => ⟨1, by omega, by omega, hd.k7, fun _ => ⟨by omega, by omega, hd.k7, fun _ => ⟨by omega, by omega, hd.k7, fun _ => ⟨by omega, by omega, hp S hd⟩, fun q => absurd q (hd.k0 (x := 30) (by decide) (by decide))⟩, fun q => absurd q (hd.k0 (x := 29) (by decide) (by decide))⟩, fun q => absurd q (hd.k0 (x := 29) (by decide) (by decide))⟩)) hG (Nat.le_refl _) (by omega) ⟨by rw [er]; rfl, r3 45 _ (by decide)⟩ (by omega) (by omega) (fun Q hQ => g3 _ hQ) ?_
  intro S0 S R post mc ms u v hs hu hv hp
  have hA : pA G cx bf z c nr ra nm i S := by obtain ⟨ca, by0, wt, vi, vl, ce, be, hm, -⟩ := hs; exact hm.1
  exact c_step ht hA hlt (fun S107 p107 f107 => hp S107 ((hs.pe p107 f107).to (Or.inr (Or.inr (Or.inr (Or.inl ⟨rfl, rfl⟩)))) (Or.inl rfl) (by rw [r3 39 _ (by decide)]; exact h39) (by rw [r3 42 _ (by decide)]; exact h42)))
/-- lack -/
theorem W_lk (ht : tC bf z c) (h : rA bf z bk nr nm i cn σ) (hi : i ≤ c) (hnr : nr < 12) (e31 : kt bf z i = 31) (h39 : σ.2.2.1 39 (12 * bk + nr) = 0) (h40 : σ.2.2.1 40 (12 * bk + nr) = nI 0) (h42 : σ.2.2.1 42 (12 * bk + nr) = -1) (h43 : σ.2.2.1 43 (12 * bk + nr) = nI 0) : OUTW G cx bf z c bk nr ra nm na i cn σ (fun Q => wp_X12_next (fun σ53 => wp_X12_readCond (fun r54 σ54 => (r54 = 0 → w_X12_readWhat_207 Q σ54) ∧ (¬ r54 = 0 → wp_X12_must (fun r55 σ55 => (r55 = 0 → w_X12_readWhat_207 Q σ55) ∧ (¬ r55 = 0 → wp_X12_readCond (fun r56 σ56 => (r56 = 0 → w_X12_readWhat_207 Q σ56) ∧ (¬ r56 = 0 → w_X12_readWhat_208 Q σ56 1)) σ55 (nI (12 * bk + nr)))) σ54 9)) σ53 (nI (12 * bk + nr))) (rf_ua σ 38 (12 * bk + nr) 4)) (stN G cx bf z c nr ra nm na i 31)
    (fun post mc ms u v S R => wp_X5_step (fun S114 => cs_k S114 (cx 0) = 7 ∧ ∃ m115 n115, u + m115 ≤ mc ∧ v + n115 ≤ ms ∧ ∃ d9, d9 ≤ 60 ∧ wp_X5_readCond d9 (fun r115 S115 => cs_k S115 R = 9 ∧ wp_X7_addCond (fun S117 => cs_k S117 (cx 0) = 7 ∧ wp_X5_skip (fun S119 => cs_k S119 (cx 0) = 7 ∧ ∃ m121 n121, u + m115 + m121 ≤ mc ∧ v + n115 + n121 ≤ ms ∧ ∃ d9, d9 ≤ 60 ∧ wp_X5_readCond d9 (fun r121 S121 => cs_k S121 R = 9 ∧ wp_X7_addCond (fun S123 => w_X5_readWhat_248 post G mc ms S123 (u + m115 + m121) (v + n115 + n121)) G S121 R r121) G m121 n121 S119 (cx 0) 0) G S117 (cx 0) 29) G S115 R r115) G m115 n115 S114 (cx 0) 0) G S (cx 0)) := by
  have hbk := h.2.2.1.2.2
  have hlt := ht.lt hi (by omega)
  have hone := ht.one hlt
  obtain ⟨σ1, g1, g2, g3⟩ := r_nx ht (h.r44 (kk := 38) (j := 12 * bk + nr) (y := 4) (by omega)) hlt
  have er : σ1.2.2 = (rf_ua σ 38 (12 * bk + nr) 4).2.2 := g1.2.2
  have r3 : ∀ k j, k ≠ 38 → σ1.2.2.1 k j = σ.2.2.1 k j := fun k j hk => by rw [er, r3ua, if_neg (fun e => hk e.1)]
  have r38 : σ1.2.2.1 38 (12 * bk + nr) = nI 4 := by rw [er, r3ua, if_pos ⟨rfl, rfl⟩]; rfl
  have hG : gF bk nr cn σ σ1 := (gF.rfl.ua hnr (Or.inl ⟨by omega, by omega, by omega, rfl⟩)).trans (nxF.pf (bk := bk) (cn := cn) g1).gf (Nat.le_refl _)
  refine OUTW.pre 0 0 (WC (x := 4) (k := 0) ht g2 (by omega) hnr (by decide) (by rw [r3 40 _ (by decide)]; exact h40) (RW := fun Q => wp_X12_readCond (fun r54 σ54 => (r54 = 0 → w_X12_readWhat_207 Q σ54) ∧ (¬ r54 = 0 → wp_X12_must (fun r55 σ55 => (r55 = 0 → w_X12_readWhat_207 Q σ55) ∧ (¬ r55 = 0 → wp_X12_readCond (fun r56 σ56 => (r56 = 0 → w_X12_readWhat_207 Q σ56) ∧ (¬ r56 = 0 → w_X12_readWhat_208 Q σ56 1)) σ55 (nI (12 * bk + nr)))) σ54 9)) σ1 (nI (12 * bk + nr))) (RWf := fun σ54 Q => wp_X12_must (fun r55 σ55 => (r55 = 0 → w_X12_readWhat_207 Q σ55) ∧ (¬ r55 = 0 → wp_X12_readCond (fun r56 σ56 => (r56 = 0 → w_X12_readWhat_207 Q σ56) ∧ (¬ r56 = 0 → w_X12_readWhat_208 Q σ56 1)) σ55 (nI (12 * bk + nr)))) σ54 9) (CWp := fun post mc ms u v S R => cs_k S (cx 0) = 7 ∧ ∃ m115 n115, u + m115 ≤ mc ∧ v + n115 ≤ ms ∧ ∃ d9, d9 ≤ 60 ∧ wp_X5_readCond d9 (fun r115 S115 => cs_k S115 R = 9 ∧ wp_X7_addCond (fun S117 => cs_k S117 (cx 0) = 7 ∧ wp_X5_skip (fun S119 => cs_k S119 (cx 0) = 7 ∧ ∃ m121 n121, u + m115 + m121 ≤ mc ∧ v + n115 + n121 ≤ ms ∧ ∃ d9, d9 ≤ 60 ∧ wp_X5_readCond d9 (fun r121 S121 => cs_k S121 R = 9 ∧ wp_X7_addCond (fun S123 => w_X5_readWhat_248 post G mc ms S123 (u + m115 + m121) (v + n115 + n121)) G S121 R r121) G m121 n121 S119 (cx 0) 0) G S117 (cx 0) 29) G S115 R r115) G m115 n115 S (cx 0) 0) (CWp' := fun post mc ms u v S R => cs_k S (cx 0) = 7 ∧ wp_X5_skip (fun S119 => cs_k S119 (cx 0) = 7 ∧ ∃ m121 n121, u + m121 ≤ mc ∧ v + n121 ≤ ms ∧ ∃ d9, d9 ≤ 60 ∧ wp_X5_readCond d9 (fun r121 S121 => cs_k S121 R = 9 ∧ wp_X7_addCond (fun S123 => w_X5_readWhat_248 post G mc ms S123 (u + m121) (v + n121)) G S121 R r121) G m121 n121 S119 (cx 0) 0) G S (cx 0) 29)
    ?_
    (fun Q σ2 hQ hr => hr _ ⟨fun w => absurd w (by decide), fun _ => hQ⟩) (fun Q σ2 hQ hr => hr _ ⟨fun _ => ⟨rfl, hQ⟩, fun w => absurd rfl w⟩)
    (fun S0 S R post mc ms u v m n hs hu hv hrc => ⟨by obtain ⟨ca, by0, wt, vi, vl, un, ce, be, hm, -⟩ := hs; exact hm.1.1.1.1, m, n, hu, hv, 60, by decide, hrc _ (fun r61 S61 k9 ha => ⟨k9, ha⟩)⟩)
    (fun S0 S R fk fp post mc ms u v hd hu hv hp => ⟨hd.k7, d_skip (x := 29) hd.1 (by decide) (by decide) ⟨hd.k7, 2, 14, hu, hv, 60, by decide, d_cadd hd (by omega) (by omega) (P := fun S123 => w_X5_readWhat_248 post G mc ms S123 (u + 2) (v + 14)) (fun S1 h1 => ⟨by omega, by omega, hp S1 h1⟩) (fun r61 S61 k9 ha => ⟨k9, ha⟩)⟩⟩)) hG (Nat.le_refl _) (by omega) ⟨by rw [er]; rfl, r3 45 _ (by decide)⟩ (by omega) (by omega) (fun Q hQ => g3 _ hQ) ?_
  · intro i1 cn1 σ2 q1 q2 q3 q4 q5 q6 q7 q8
    have hz := ht.1
    have hle := ht.le i1 q2
    have hc1 : cn1 ≤ 1100 := by have := q4.2.2.2.2.1.2.1; omega
    obtain ⟨m1, m2⟩ := r_must (w := 9) ht q4 q2 (by decide)
    by_cases e29 : kt bf z i1 = 29
    · have hlt1 := ht.lt q2 (by omega)
      have hone1 := ht.one hlt1
      obtain ⟨σ3, k1, k2, k3⟩ := m1 e29
      have er3 : σ3.2.2 = σ2.2.2 := k1.2.2
      have p3 : pF bk cn1 σ2 σ3 := k1.pf
      refine OUTW.pre 0 0 (WC (x := 4) (k := 1) ht k2 (by omega) hnr (by decide) (by rw [er3]; exact q8) (RW := fun Q => wp_X12_readCond (fun r56 σ56 => (r56 = 0 → w_X12_readWhat_207 Q σ56) ∧ (¬ r56 = 0 → w_X12_readWhat_208 Q σ56 1)) σ3 (nI (12 * bk + nr))) (RWf := fun σ2 Q => Q 1 σ2) (CWp := fun post mc ms u v S R => cs_k S (cx 0) = 7 ∧ ∃ m121 n121, u + m121 ≤ mc ∧ v + n121 ≤ ms ∧ ∃ d9, d9 ≤ 60 ∧ wp_X5_readCond d9 (fun r121 S121 => cs_k S121 R = 9 ∧ wp_X7_addCond (fun S123 => w_X5_readWhat_248 post G mc ms S123 (u + m121) (v + n121)) G S121 R r121) G m121 n121 S (cx 0) 0) (CWp' := fun post mc ms u v S R => w_X5_readWhat_248 post G mc ms S u v)
        (fun i2 cn2 σ4 z1 z2 z3 z4 z5 z6 z7 z8 => WE z4 z2 ⟨⟨?_, by omega⟩, ⟨z8, by omega, by omega, fun w => by omega, fun _ => rfl⟩, ⟨?_, by omega⟩, fun w => by omega, fun a b ha => absurd ha (Nat.not_lt_zero _)⟩ (fun Q hQ => hQ))
        (fun Q σ2 hQ hr => hr _ ⟨fun w => absurd w (by decide), fun _ => ⟨rfl, hQ⟩⟩) (fun Q σ2 hQ hr => hr _ ⟨fun _ => ⟨rfl, hQ⟩, fun w => absurd rfl w⟩)
        (fun S0 S R post mc ms u v m n hs hu hv hrc => ⟨by obtain ⟨ca, by0, wt, vi, vl, un, ce, be, hm, -⟩ := hs; exact hm.1.1.1.1, m, n, hu, hv, 60, by decide, hrc _ (fun r61 S61 k9 ha => ⟨k9, ha⟩)⟩)
        (fun S0 S R fk fp post mc ms u v hd hu hv hp => ⟨by omega, by omega, hp S hd⟩)) p3.gf (Nat.le_refl _) (by omega) ⟨by rw [er3], by rw [er3]⟩ (by omega) (by omega) (fun Q hQ => k3 _ ⟨fun q => absurd q (by decide), fun _ => hQ⟩) ?_
      · rw [z6 38 _ (by decide) (by decide) (by decide) (by decide), er3, q6 38 _ (by decide) (by decide) (by decide) (by decide)]; exact r38
      · rw [z6 43 _ (by decide) (by decide) (by decide) (by decide), er3, q6 43 _ (by decide) (by decide) (by decide) (by decide), r3 43 _ (by decide)]; exact h43
      · rintro S0 S R post mc ms u v ⟨ca, by0, wt, vi, vl, un, ce, be, hm, hj, v11⟩ hu hv hp
        exact ⟨hm.1.1.1.1, c_skip (x := 29) ht hm.1 (by decide) (by decide) (fun _ S59 p59 f59 => hp S59 ⟨ca, by0, wt, vi, vl, un, ce, be, hm.pe p59 f59, hj.on p3.sk (Nat.le_refl _) (prS.of q4 hc1 p3) f59 (pE.e3 hm.1.1.1.1), v11⟩) (fun q => absurd e29 q)⟩
    · refine ⟨0, rB σ2 (fk2 bf z i1) (fpl bf z i1), 2, 14, rB.f.gf, fun Q hQ => m2 e29 _ ⟨fun _ => ⟨rfl, hQ⟩, fun q => absurd rfl q⟩, Or.inr ⟨fk2 bf z i1, fpl bf z i1, rfl, rB.d fk2_0, by omega, by omega, ?_⟩⟩
      rintro S0 S R post ⟨ca, by0, wt, vi, vl, un, ce, be, hm, hj, v11⟩ hp mc ms u v hu hv
      refine ⟨hm.1.1.1.1, c_skip (x := 29) ht hm.1 (by decide) (by decide) (fun q => absurd q e29) (fun _ S59 p59 f59 => ?_)⟩
      have h59 := hm.dd p59 f59 (show 1 ≤ 5 by decide) hj.1.2.2.2.1 (Nat.zero_le 3) hj.1.2.2.2.2.1
      exact ⟨h59.k7, 2, 14, hu, hv, 60, by decide, d_cadd h59 (by omega) (by omega) (P := fun S64 => w_X5_readWhat_248 post G mc ms S64 (u + 2) (v + 14)) (fun S1 h1 => ⟨by omega, by omega, hp S1 h1⟩) (fun r61 S61 k9 ha => ⟨k9, ha⟩)⟩
  · intro S0 S R post mc ms u v hs hu hv hp
    have hA : pA G cx bf z c nr ra nm i S := by obtain ⟨ca, by0, wt, vi, vl, ce, be, hm, -⟩ := hs; exact hm.1
    exact c_step ht hA hlt (fun S107 p107 f107 => hp S107 ((hs.pe p107 f107).to (Or.inr (Or.inr (Or.inr (Or.inr ⟨rfl, rfl⟩)))) (Or.inr rfl) (by rw [r3 39 _ (by decide)]; exact h39) (by rw [r3 42 _ (by decide)]; exact h42)))
end WH3
