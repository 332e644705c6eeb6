/-! ===== one rule of a text, both sides ===== -/
def OUTX (G cx : Nat → Nat) (bf : Nat → Nat) (z c bk nr : Nat) (ra : Nat → Nat) (nm : Nat → Int64) (i cn : Nat) (σ : rf_S) : Prop :=
  ∃ (r : Int32) (σ1 : rf_S) (m n : Nat), gF bk nr cn σ σ1 ∧ (∀ Q : Int32 → rf_S → Prop, Q r σ1 → wp_X12_rule Q σ) ∧
    ((r = 1 ∧ ∃ i1 cn1 na, nr < 12 ∧ i < i1 ∧ i1 ≤ c ∧ cn ≤ cn1 ∧ rA bf z bk (nr + 1) (up nm nr na) i1 cn1 σ1 ∧ m + 10 * qp bf z i ≤ 10 * qp bf z i1 ∧ n + 200 * qp bf z i ≤ 200 * qp bf z i1 ∧
        ∀ (S : cs_S) (post : cs_S → Prop), pA G cx bf z c nr ra nm i S → (∀ S1 R, pA G cx bf z c (nr + 1) (up ra nr R) (up nm nr na) i1 S1 → fX (pG cx) S S1 → (∃ bt wt nb x k n w q L tr ut, fin S S1 σ1 bk cn1 nr R bt wt nb x k n w q L tr ut) → post S1) → wp_X5_readRule post G m n S (cx 0)) ∨
      ∃ fk fp, r = 0 ∧ rD fk fp σ1 ∧ m + 10 * qp bf z i ≤ 10 * z + 30 ∧ n + 200 * qp bf z i ≤ 200 * z + 300 ∧
        ∀ (S : cs_S) (post : cs_S → Prop), pA G cx bf z c nr ra nm i S → (∀ S1, pQ G cx bf z c nr ra nm fk fp S1 → fX (pE (cx 0)) S S1 → post S1) → wp_X5_readRule post G m n S (cx 0))
section RU2
variable {G cx : Nat → Nat} {bf : Nat → Nat} {z c bk nr i cn b R : Nat} {ra : Nat → Nat} {nm : Nat → Int64} {na : Int64} {σ σ' : rf_S} {S S' S0 : cs_S} {fk fp : Int32}
/-- the reference: is there a rule of that name -/
theorem r_63 {post : Int32 → rf_S → Prop} (hbk : bk ≤ 1) (h32 : σ.1 32 = nI bk) (h34 : σ.1 34 = nI nr) (hnr : nr < 12) : ((∀ r, r < nr → ¬ σ.2.2.2 35 (12 * bk + r) = σ.2.1 58) → vp_in (nI b) (rf_n 35) ∧ wp_X12_next (fun σ24 => vp_in (nI b) (rf_n 40) ∧ vp_in (nI b) (rf_n 42) ∧ vp_in (nI b) (rf_n 43) ∧ vp_in (nI b) (rf_n 45) ∧ vp_in (nI b) (rf_n 39) ∧ vp_in (nI b) (rf_n 36) ∧ wp_X12_readWhat (fun r25 σ25 => (¬ r25 = 0 → wp_X12_isWord (fun r26 σ26 => (r26 = 0 → w_X12_rule_193 post σ26 (nI b)) ∧ (¬ r26 = 0 → wp_X12_readBy (fun r27 σ27 => (¬ r27 = 0 → w_X12_rule_193 post σ27 (nI b)) ∧ (r27 = 0 → post 0 σ27)) σ26 (nI b))) σ25 1) ∧ (r25 = 0 → post 0 σ25)) (rf_ub (rf_ua (rf_ua (rf_ua (rf_ua (rf_ua σ24 40 (nI b).toNatClampNeg 0) 42 (nI b).toNatClampNeg ((-1))) 43 (nI b).toNatClampNeg 0) 45 (nI b).toNatClampNeg 0) 39 (nI b).toNatClampNeg 0) 36 (nI b).toNatClampNeg 0) (nI b)) (rf_ub σ 35 (nI b).toNatClampNeg (σ.2.1 58)) → w_X12_rule_63 post (nr + 1) σ (nI b) 0) ∧
    (∀ r, r < nr → σ.2.2.2 35 (12 * bk + r) = σ.2.1 58 → post 0 (rB σ 5 (σ.1 55)) → w_X12_rule_63 post (nr + 1) σ (nI b) 0) := by
  have e3 : ∀ r : Nat, (12 * σ.1 32) + nI r = nI (12 * bk + r) := fun r => by rw [h32, show (12 : Int32) = nI 12 from rfl, nI_mul, nI_add]
  have step : ∀ d r, r < nr → (¬ σ.2.2.2 35 (12 * bk + r) = σ.2.1 58 → w_X12_rule_63 post d σ (nI b) (nI (r + 1))) → (σ.2.2.2 35 (12 * bk + r) = σ.2.1 58 → post 0 (rB σ 5 (σ.1 55))) → w_X12_rule_63 post (d + 1) σ (nI b) (nI r) := by
    intro d r hr q1 q2
    refine ⟨fun q => ?_, fun _ => ⟨?_, fun q => ?_, fun q => ⟨rfl, ?_⟩⟩⟩
    · rw [h34] at q; exact absurd q (nI_ge (by omega) (by omega))
    · rw [e3]; exact nI_in (N := 24) (by omega) (by decide)
    · rw [e3, nI_clamp (by omega)] at q
      rw [nI_1]; exact q1 (fun e => q (lg_eq.mpr e))
    · rw [e3, nI_clamp (by omega)] at q
      exact q2 (lg_eq.mp q)
  refine ⟨fun hd hk => ?_, fun r0 hr0 he hk => ?_⟩
  · have loop : ∀ d r, r + d = nr → w_X12_rule_63 post (d + 1) σ (nI b) (nI r) := by
      intro d
      induction d with
      | zero =>
        intro r hr
        have : r = nr := by omega
        subst this
        exact ⟨fun _ => hk, fun q => absurd (by rw [h34]; exact nI_le (Nat.le_refl _) (by omega)) q⟩
      | succ d ih => intro r hr; exact step (d + 1) r (by omega) (fun _ => ih (r + 1) (by omega)) (fun e => absurd e (hd r (by omega)))
    exact loop nr 0 (by omega)
  · have loop : ∀ d r, r + d = nr → r ≤ r0 → w_X12_rule_63 post (d + 1) σ (nI b) (nI r) := by
      intro d
      induction d with
      | zero => intro r hr hr2; omega
      | succ d ih =>
        intro r hr hr2
        refine step (d + 1) r (by omega) (fun q => ih (r + 1) (by omega) ?_) (fun _ => hk)
        by_cases e : r = r0
        · rw [e] at q; exact absurd he q
        · omega
    exact loop nr 0 (by omega) (by omega)
theorem stN.n801 (h : stN G cx bf z c nr ra nm 0 i 0 S0 S R) {y : Int64} : stN G cx bf z c nr ra nm y i 0 S0 (cs_ul S 801 R y) R := by
  obtain ⟨ca, by0, wt, vi, vl, ce, be, hm, hv, v9⟩ := h
  exact ⟨ca, by0, wt, vi, _, ce, be, hm.wr (fX.rfl.ul (Or.inl (Or.inl rfl))) hm.2.2.1.ul, hv, up_s⟩
theorem stN.dd (h : stN G cx bf z c nr ra nm na i 0 S0 S R) (hA : pQ G cx bf z c nr ra nm fk fp S') (hF : fX (pE (cx 0)) S S') : dM G cx bf z c nr ra nm S0 R fk fp S' := by
  obtain ⟨ca, by0, wt, vi, vl, ce, be, hm, ⟨v1, v2, v3, v4, v5, -⟩, v9⟩ := h
  exact hm.dd hA hF (Nat.zero_le 5) v4 (Nat.zero_le 3) v5
/-- the class as far as the rule's name -/
theorem c_rule (ht : tC bf z c) (h : pA G cx bf z c nr ra nm i S) (hi : i < c) (hnr : nr < 12) (e20 : kt bf z i = 20) {post : cs_S → Prop} {mc ms : Nat} (hm : 5 ≤ mc) (hn : 30 ≤ ms) (hp : ∀ S76 R, stN G cx bf z c nr ra nm 0 (i + 1) 0 S S76 R → wp_X5_readNewName (fun r77 S77 => cs_k S77 R = 9 ∧ ∀ S80, S80 = cs_ul S77 801 R r77 → cs_k S80 (cx 0) = 7 ∧ ∃ m81 n81, 5 + m81 ≤ mc ∧ 30 + n81 ≤ ms ∧ wp_X5_readWhat (fun S81 => awC G cx post mc ms (5 + m81) (30 + n81) S81 R) G m81 n81 S80 (cx 0) (some R)) G S76 (cx 0)) : wp_X5_readRule post G mc ms S (cx 0) := by
  refine ⟨h.1.1.1, fun _ r69 e69 => ⟨cx 6, e69.trans h.1.1.2.2.1, h.1.2.2.2.2.2.2.1.1, fun _ => c_step ht h hi (fun S72 p72 f72 => ⟨by omega, by omega, fun q73 h73 S74 e74 => ?_⟩), fun q => ?_⟩, fun q => absurd (by rw [h.2.2.2.2, e20]; rfl) q⟩
  · obtain ⟨k7, m76, n76, -, -, e1, e2, hw⟩ := c_newR (post := fun S76 => cs_k S76 (cx 0) = 7 ∧ wp_X5_readNewName (fun r77 S77 => cs_k S77 q73 = 9 ∧ ∀ S80, S80 = cs_ul S77 801 q73 r77 → cs_k S80 (cx 0) = 7 ∧ ∃ m81 n81, 5 + m81 ≤ mc ∧ 30 + n81 ≤ ms ∧ wp_X5_readWhat (fun S81 => awC G cx post mc ms (5 + m81) (30 + n81) S81 q73) G m81 n81 S80 (cx 0) (some q73)) G S76 (cx 0)) p72 f72 h.1 h73 (fun S1 h1 => ⟨by obtain ⟨ca, by0, wt, vi, vl, ce, be, hm, -⟩ := h1; exact hm.1.1.1.1, hp S1 q73 h1⟩) S74 e74
    subst e1; subst e2
    exact ⟨k7, 4, 12, by omega, by omega, hw⟩
  · rw [h.1.1.2.2.2, h.1.2.2.2.2.2.2.1.2] at q
    exact absurd (nI_lt (b := 12) hnr (by decide)) q
theorem RULE (ht : tC bf z c) (h : rA bf z bk nr nm i cn σ) (hi : i ≤ c) : OUTX G cx bf z c bk nr ra nm i cn σ := by
  have hbk := h.2.2.1.2.2
  have hz := ht.1
  have hle := ht.le i hi
  have hK9 := ht.K39 hi
  have h34 : σ.1 34 = nI nr := h.2.2.2.2.2.1.1
  have hnr12 : nr ≤ 12 := h.2.2.2.2.2.1.2.1
  by_cases e20 : kt bf z i = 20
  · have hlt := ht.lt hi (by omega)
    have hone := ht.one hlt
    by_cases hnr : nr < 12
    · have n12 : ¬ σ.1 34 = 12 := fun q => by
        rw [h34] at q
        have := (nI_eq (b := 12) (by omega) (by decide)).mp q
        omega
      obtain ⟨σ1, g1, g2, g3⟩ := r_nx ht h hlt
      have p1 : pF bk cn σ σ1 := g1.pf
      have hle1 := ht.le (i + 1) (by omega)
      have hK1 := ht.K39 (i := i + 1) (by omega)
      have ex1 : (12 * (σ1.1 32)) + (σ1.1 34) = nI (12 * bk + nr) := by rw [g2.2.2.1.2.1, g2.2.2.2.2.2.1.1, show (12 : Int32) = nI 12 from rfl, nI_mul, nI_add]
      have eC : (nI (12 * bk + nr)).toNatClampNeg = 12 * bk + nr := nI_clamp (by omega)
      have i24 : ∀ k, rf_n k = 24 → vp_in (nI (12 * bk + nr)) (rf_n k) := fun k e => by rw [e]; exact nI_in (by omega) (by decide)
      have ref : ∀ {Q : Int32 → rf_S → Prop}, wp_X12_isName (fun r31 σ31 => (¬ r31 = 0 → ∃ n9, w_X12_rule_63 Q n9 σ31 (nI (12 * bk + nr)) 0) ∧ (r31 = 0 → wp_X12_cant (fun r32 σ32 => narrow .boolean (.int r32) = .int r32 ∧ Q r32 σ32) σ31)) σ1 → wp_X12_rule Q σ := fun {Q} hq => r_isw (w := 0) ht h hi (by decide) (fun _ => ⟨fun _ => ⟨fun _ => g3 _ (by rw [ex1]; exact hq), fun q => absurd q n12⟩, fun q => absurd q (by decide)⟩) (fun q => absurd e20 q)
      by_cases e2 : kt bf z (i + 1) = 2
      · have hlt1 := ht.lt (i := i + 1) (by omega) (by omega)
        have hone1 := ht.one hlt1
        obtain ⟨n', l', n1, n2, hwd⟩ := g2.wd ht (by omega) (Or.inl e2)
        have hnm : ∀ r, r < nr → (nm r = (at_ bf z (i + 1)).2.2.1 ↔ σ1.2.2.2 35 (12 * bk + r) = σ1.2.1 58) := fun r hr => by
          obtain ⟨n4, l4, p4, p5⟩ := g2.2.2.2.2.2.1.2.2 r hr
          exact wd_eq8 p5 hwd p4 n2
        by_cases ex : ∃ r, r < nr ∧ nm r = (at_ bf z (i + 1)).2.2.1
        · -- the name is taken
          obtain ⟨r0, hr0, er0⟩ := ex
          have pB : pF bk cn σ (rB σ1 5 (fpl bf z (i + 1))) := p1.trans rB.f (Nat.le_refl _)
          refine ⟨0, rB σ1 5 (fpl bf z (i + 1)), 5, 30, pB.gf, fun Q hQ => ref (r_isn ht g2 (by omega) (fun _ => ⟨fun _ => ⟨nr + 1, (r_63 hbk g2.2.2.1.2.1 g2.2.2.2.2.2.1.1 hnr).2 r0 hr0 ((hnm r0 hr0).mp er0) ?_⟩, fun q => absurd q (by decide)⟩) (fun q => absurd e2 q)), Or.inr ⟨5, fpl bf z (i + 1), rfl, rB.d (by decide), by omega, by omega, ?_⟩⟩
          · rw [g2.pl ht (by omega) (by omega)]; exact hQ
          intro S post hA hp
          refine c_rule ht hA hlt hnr e20 (by omega) (by omega) (fun S76 R h76 => ?_)
          have p76 : pA G cx bf z c nr ra nm (i + 1) S76 := by obtain ⟨ca, by0, wt, vi, vl, ce, be, hm, -⟩ := h76; exact hm.1
          obtain ⟨⟨a1, a2, a3, a4⟩, ⟨b1, b2, b3, b4, b5⟩, -, -, ⟨c1, c2⟩, -⟩ := id p76.1
          refine ⟨a1, fun q => absurd (by rw [p76.2.2.2.2, e2]; rfl) q, fun _ r15 e15 => ⟨cx 1, e15.trans a2, b1, fun r18 e18 => ⟨cx 4, e18.trans b4, c1, ?_, ?_⟩⟩⟩
          · rw [p76.2.2.2.1, c2]; exact nI_in (by have := ht.2.2.1; omega) (by decide)
          rw [p76.am ht (by omega)]
          refine c_rulen p76.1 hnr12 (fun r hr er _ => ⟨fun q => absurd q (nI_m r (by omega)), fun _ => ⟨a1, c_fail ht p76 (by decide) (fun S22 p22 f22 => ?_)⟩⟩) (fun q => absurd er0 (q r0 hr0))
          rw [if_neg (by omega)] at p22
          have h22 := h76.dd p22 f22
          refine ⟨h22.k9, fun S80 e80 => ?_⟩
          have h80 : dM G cx bf z c nr ra nm S R 5 (fpl bf z (i + 1)) S80 := by rw [e80]; exact h22.ul
          exact ⟨h80.k7, 0, 0, by omega, by omega, d_what h80 (fun S1 h1 => d_aw h1 (by omega) (by omega) hp)⟩
        · -- a new one
          have hno : ∀ r, r < nr → ¬ nm r = (at_ bf z (i + 1)).2.2.1 := fun r hr e => ex ⟨r, hr, e⟩
          have g2b : rA bf z bk nr nm (i + 1) cn (rf_ub σ1 35 (12 * bk + nr) (σ1.2.1 58)) := g2.row rfl rfl (fun _ _ _ => rfl) (fun k j hk hj => by rw [r4ub, if_neg (fun e => by have := hj e.1; omega)])
          obtain ⟨σ2, k1, k2, k3⟩ := r_nx ht g2b hlt1
          have hG2 : gF bk nr cn σ σ2 := (p1.gf.ub hnr (Or.inl ⟨Or.inl rfl, rfl⟩)).trans (nxF.pf (bk := bk) (cn := cn) k1).gf (Nat.le_refl _)
          have e35 : σ2.2.2.2 35 (12 * bk + nr) = σ1.2.1 58 := by rw [k1.2.2, r4ub, if_pos ⟨rfl, rfl⟩]
          have hG3 : gF bk nr cn σ (rf_ub (rf_ua (rf_ua (rf_ua (rf_ua (rf_ua σ2 40 (12 * bk + nr) 0) 42 (12 * bk + nr) ((-1))) 43 (12 * bk + nr) 0) 45 (12 * bk + nr) 0) 39 (12 * bk + nr) 0) 36 (12 * bk + nr) 0) := (((((hG2.ua hnr (Or.inl ⟨by omega, by omega, by omega, rfl⟩)).ua hnr (Or.inl ⟨by omega, by omega, by omega, rfl⟩)).ua hnr (Or.inl ⟨by omega, by omega, by omega, rfl⟩)).ua hnr (Or.inl ⟨by omega, by omega, by omega, rfl⟩)).ua hnr (Or.inl ⟨by omega, by omega, by omega, rfl⟩)).ub hnr (Or.inl ⟨Or.inr rfl, rfl⟩)
          have hA3 : rA bf z bk nr nm (i + 1 + 1) cn (rf_ub (rf_ua (rf_ua (rf_ua (rf_ua (rf_ua σ2 40 (12 * bk + nr) 0) 42 (12 * bk + nr) ((-1))) 43 (12 * bk + nr) 0) 45 (12 * bk + nr) 0) 39 (12 * bk + nr) 0) 36 (12 * bk + nr) 0) := (((((k2.r44 (kk := 40) (by omega)).r44 (kk := 42) (by omega)).r44 (kk := 43) (by omega)).r44 (kk := 45) (by omega)).r44 (kk := 39) (by omega)).row rfl rfl (fun _ _ _ => rfl) (fun k j hk _ => by rw [r4ub, if_neg (by omega)])
          have f39 : (rf_ub (rf_ua (rf_ua (rf_ua (rf_ua (rf_ua σ2 40 (12 * bk + nr) 0) 42 (12 * bk + nr) ((-1))) 43 (12 * bk + nr) 0) 45 (12 * bk + nr) 0) 39 (12 * bk + nr) 0) 36 (12 * bk + nr) 0).2.2.1 39 (12 * bk + nr) = 0 := by
            rw [r3ub, r3ua, if_pos ⟨rfl, rfl⟩]
          have f45 : (rf_ub (rf_ua (rf_ua (rf_ua (rf_ua (rf_ua σ2 40 (12 * bk + nr) 0) 42 (12 * bk + nr) ((-1))) 43 (12 * bk + nr) 0) 45 (12 * bk + nr) 0) 39 (12 * bk + nr) 0) 36 (12 * bk + nr) 0).2.2.1 45 (12 * bk + nr) = 0 := by
            rw [r3ub, r3ua, if_neg (by omega), r3ua, if_pos ⟨rfl, rfl⟩]
          have f43 : (rf_ub (rf_ua (rf_ua (rf_ua (rf_ua (rf_ua σ2 40 (12 * bk + nr) 0) 42 (12 * bk + nr) ((-1))) 43 (12 * bk + nr) 0) 45 (12 * bk + nr) 0) 39 (12 * bk + nr) 0) 36 (12 * bk + nr) 0).2.2.1 43 (12 * bk + nr) = 0 := by
            rw [r3ub, r3ua, if_neg (by omega), r3ua, if_neg (by omega), r3ua, if_pos ⟨rfl, rfl⟩]
          have f42 : (rf_ub (rf_ua (rf_ua (rf_ua (rf_ua (rf_ua σ2 40 (12 * bk + nr) 0) 42 (12 * bk + nr) ((-1))) 43 (12 * bk + nr) 0) 45 (12 * bk + nr) 0) 39 (12 * bk + nr) 0) 36 (12 * bk + nr) 0).2.2.1 42 (12 * bk + nr) = -1 := by
            rw [r3ub, r3ua, if_neg (by omega), r3ua, if_neg (by omega), r3ua, if_neg (by omega), r3ua, if_pos ⟨rfl, rfl⟩]
          have f40 : (rf_ub (rf_ua (rf_ua (rf_ua (rf_ua (rf_ua σ2 40 (12 * bk + nr) 0) 42 (12 * bk + nr) ((-1))) 43 (12 * bk + nr) 0) 45 (12 * bk + nr) 0) 39 (12 * bk + nr) 0) 36 (12 * bk + nr) 0).2.2.1 40 (12 * bk + nr) = 0 := by
            rw [r3ub, r3ua, if_neg (by omega), r3ua, if_neg (by omega), r3ua, if_neg (by omega), r3ua, if_neg (by omega), r3ua, if_pos ⟨rfl, rfl⟩]
          have f35 : (rf_ub (rf_ua (rf_ua (rf_ua (rf_ua (rf_ua σ2 40 (12 * bk + nr) 0) 42 (12 * bk + nr) ((-1))) 43 (12 * bk + nr) 0) 45 (12 * bk + nr) 0) 39 (12 * bk + nr) 0) 36 (12 * bk + nr) 0).2.2.2 35 (12 * bk + nr) = σ1.2.1 58 := by
            rw [r4ub, if_neg (by omega)]; exact e35
          have rf3 : ∀ {Q : Int32 → rf_S → Prop}, wp_X12_readWhat (fun r25 σ25 => (¬ r25 = 0 → awR (12 * bk + nr) σ25 Q) ∧ (r25 = 0 → Q 0 σ25)) (rf_ub (rf_ua (rf_ua (rf_ua (rf_ua (rf_ua σ2 40 (12 * bk + nr) 0) 42 (12 * bk + nr) ((-1))) 43 (12 * bk + nr) 0) 45 (12 * bk + nr) 0) 39 (12 * bk + nr) 0) 36 (12 * bk + nr) 0) (nI (12 * bk + nr)) → wp_X12_rule Q σ := fun {Q} hq => ref (r_isn ht g2 (by omega) (fun _ => ⟨fun _ => ⟨nr + 1, (r_63 hbk g2.2.2.1.2.1 g2.2.2.2.2.2.1.1 hnr).1 (fun r hr e => hno r hr ((hnm r hr).mpr e)) ⟨i24 35 rfl, by rw [eC]; exact k3 _ ⟨i24 40 rfl, i24 42 rfl, i24 43 rfl, i24 45 rfl, i24 39 rfl, i24 36 rfl, hq⟩⟩⟩, fun q => absurd q (by decide)⟩) (fun q => absurd e2 q))
          generalize (rf_ub (rf_ua (rf_ua (rf_ua (rf_ua (rf_ua σ2 40 (12 * bk + nr) 0) 42 (12 * bk + nr) ((-1))) 43 (12 * bk + nr) 0) 45 (12 * bk + nr) 0) 39 (12 * bk + nr) 0) 36 (12 * bk + nr) 0) = σ3 at *
          obtain ⟨r, σ4, m, n, w1, w2, w3⟩ := WA (G := G) (cx := cx) (ra := ra) (na := (at_ bf z (i + 1)).2.2.1) ht hA3 (by omega) hnr f39 f40 f42 f43 ⟨n', l', n2, by rw [f35]; exact hwd⟩ f45
          have cls : ∀ {S : cs_S} {post : cs_S → Prop}, pA G cx bf z c nr ra nm i S → (∀ S80 R, stN G cx bf z c nr ra nm (at_ bf z (i + 1)).2.2.1 (i + 1 + 1) 0 S S80 R → ∃ m81 n81, 5 + m81 ≤ 5 + m ∧ 30 + n81 ≤ 30 + n ∧ wp_X5_readWhat (fun S81 => awC G cx post (5 + m) (30 + n) (5 + m81) (30 + n81) S81 R) G m81 n81 S80 (cx 0) (some R)) → wp_X5_readRule post G (5 + m) (30 + n) S (cx 0) := by
            intro S post hA hp
            refine c_rule ht hA hlt hnr e20 (by omega) (by omega) (fun S76 R h76 => ?_)
            have p76 : pA G cx bf z c nr ra nm (i + 1) S76 := by obtain ⟨ca, by0, wt, vi, vl, ce, be, hm, -⟩ := h76; exact hm.1
            obtain ⟨⟨a1, a2, a3, a4⟩, ⟨b1, b2, b3, b4, b5⟩, -, -, ⟨c1, c2⟩, -⟩ := id p76.1
            refine ⟨a1, fun q => absurd (by rw [p76.2.2.2.2, e2]; rfl) q, fun _ r15 e15 => ⟨cx 1, e15.trans a2, b1, fun r18 e18 => ⟨cx 4, e18.trans b4, c1, ?_, ?_⟩⟩⟩
            · rw [p76.2.2.2.1, c2]; exact nI_in (by have := ht.2.2.1; omega) (by decide)
            rw [p76.am ht (by omega)]
            refine c_rulen p76.1 hnr12 (fun r hr er _ => absurd er (hno r hr)) (fun _ => ⟨fun _ => ⟨a1, c_name ht p76 (fun _ S77 p77 f77 => ?_) (fun q => absurd e2 q)⟩, fun q => absurd rfl q⟩)
            have h77 := h76.pe p77 f77
            have k77 : cs_k S77 R = 9 := by obtain ⟨ca, by0, wt, vi, vl, ce, be, hm, -⟩ := h77; exact hm.2.2.1.1.1
            refine ⟨k77, fun S80 e80 => ?_⟩
            have h80 : stN G cx bf z c nr ra nm (at_ bf z (i + 1)).2.2.1 (i + 1 + 1) 0 S S80 R := by rw [e80]; exact h77.n801
            exact ⟨by obtain ⟨ca, by0, wt, vi, vl, ce, be, hm, -⟩ := h80; exact hm.1.1.1.1, hp S80 R h80⟩
          refine ⟨r, σ4, 5 + m, 30 + n, hG3.trans w1 (Nat.le_refl _), fun Q hQ => rf3 (w2 _ hQ), ?_⟩
          rcases w3 with ⟨e, i1, cn1, a1, a2, a3, a4, a5, a6, a7⟩ | ⟨fk, fp, e, a1, a5, a6, a7⟩
          · exact Or.inl ⟨e, i1, cn1, (at_ bf z (i + 1)).2.2.1, hnr, by omega, a2, a3, a4, by omega, by omega, fun S post hA hp => cls hA (fun S80 R h80 => a7 S S80 R post h80 (fun S1 q1 q2 q3 => hp S1 R q1 q2 q3) (5 + m) (30 + n) 5 30 (by omega) (by omega))⟩
          · exact Or.inr ⟨fk, fp, e, a1, by omega, by omega, fun S post hA hp => cls hA (fun S80 R h80 => a7 S S80 R post h80 hp (5 + m) (30 + n) 5 30 (by omega) (by omega))⟩
      · -- no name
        have pB : pF bk cn σ (rB σ1 (fk2 bf z (i + 1)) (fpl bf z (i + 1))) := p1.trans rB.f (Nat.le_refl _)
        refine ⟨0, rB σ1 (fk2 bf z (i + 1)) (fpl bf z (i + 1)), 5, 30, pB.gf, fun Q hQ => ref (r_isn ht g2 (by omega) (fun q => absurd q e2) (fun _ => ⟨fun q => absurd rfl q, fun _ => r_cant ht g2 (by omega) ⟨rfl, hQ⟩⟩)), Or.inr ⟨fk2 bf z (i + 1), fpl bf z (i + 1), rfl, rB.d fk2_0, by omega, by omega, ?_⟩⟩
        intro S post hA hp
        refine c_rule ht hA hlt hnr e20 (by omega) (by omega) (fun S76 R h76 => ?_)
        have p76 : pA G cx bf z c nr ra nm (i + 1) S76 := by obtain ⟨ca, by0, wt, vi, vl, ce, be, hm, -⟩ := h76; exact hm.1
        have k2 : ¬ cs_i S76 606 (cx 0) = 2 := fun q => e2 ((nI_eq (b := 2) (by omega) (by decide)).mp (p76.2.2.2.2.symm.trans q))
        refine ⟨p76.1.1.1, fun _ => ⟨p76.1.1.1, c_name ht p76 (fun q => absurd q e2) (fun _ S77 p77 f77 => ?_)⟩, fun q => absurd q k2⟩
        have h77 := h76.dd p77 f77
        refine ⟨h77.k9, fun S80 e80 => ?_⟩
        have h80 : dM G cx bf z c nr ra nm S R (fk2 bf z (i + 1)) (fpl bf z (i + 1)) S80 := by rw [e80]; exact h77.ul
        exact ⟨h80.k7, 0, 0, by omega, by omega, d_what h80 (fun S1 h1 => d_aw h1 (by omega) (by omega) hp)⟩
    · -- one too many
      have en : nr = 12 := by omega
      refine ⟨0, rB σ 4 (fpl bf z i), 0, 0, rB.f.gf, fun Q hQ => r_isw (w := 0) ht h hi (by decide) (fun _ => ⟨fun _ => ⟨fun q => absurd (by rw [h34, en]; rfl) q, fun _ => r_wrong ht h hi (by omega) ⟨rfl, hQ⟩⟩, fun q => absurd q (by decide)⟩) (fun q => absurd e20 q), Or.inr ⟨4, fpl bf z i, rfl, rB.d (by decide), by omega, by omega, ?_⟩⟩
      intro S post hA hp
      refine ⟨hA.1.1.1, fun _ r69 e69 => ⟨cx 6, e69.trans hA.1.1.2.2.1, hA.1.2.2.2.2.2.2.1.1, fun q => ?_, fun _ => c_fail ht hA (by decide) (fun S1 q1 q2 => ?_)⟩, fun q => absurd (by rw [hA.2.2.2.2, e20]; rfl) q⟩
      · rw [hA.1.1.2.2.2, hA.1.2.2.2.2.2.2.1.2, en] at q; exact absurd q (by decide)
      · rw [if_neg (by omega)] at q1
        exact hp S1 q1 q2
  · refine ⟨0, rB σ (fk2 bf z i) (fpl bf z i), 0, 0, rB.f.gf, fun Q hQ => r_isw (w := 0) ht h hi (by decide) (fun q => absurd q e20) (fun _ => ⟨fun q => absurd rfl q, fun _ => r_cant ht h hi ⟨rfl, hQ⟩⟩), Or.inr ⟨fk2 bf z i, fpl bf z i, rfl, rB.d fk2_0, by omega, by omega, ?_⟩⟩
    intro S post hA hp
    exact ⟨hA.1.1.1, fun q => absurd ((nI_eq (b := 20) (by omega) (by decide)).mp (hA.2.2.2.2.symm.trans q)) e20, fun _ => c_fail ht hA (by decide) (fun S1 q1 q2 => hp S1 q1 q2)⟩
end RU2
