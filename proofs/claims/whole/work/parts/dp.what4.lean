/-! ===== a rule read: count, distinct, sum; what ===== -/
section WH4
variable {G cx : Nat → Nat} {bf : Nat → Nat} {z c bk nr i i' cn cn' x k R ca by0 wt : Nat} {ra : Nat → Nat} {nm : Nat → Int64} {na : Int64} {σ σ' : rf_S} {S S' S0 : cs_S} {vi : Nat → Int32} {vl : Nat → Int64} {un : Option Nat} {ce : Nat → Option Nat} {be : Nat → Int64} {fk fp : Int32} {wh : Int32}
theorem ctJ (hm : mK G cx bf z c nr ra nm S0 R ca by0 wt i vi vl none ce be S) (h1 : vi 800 = nI nr ∧ vi 806 = nI 0 ∧ vi 809 = nI 0 ∧ vi 811 = 0 ∧ vi 812 = 0 ∧ vi 813 = 0) (h9 : vl 801 = na) (hw : whC x (vi 802)) (h39 : vi 803 = σ.2.2.1 39 (12 * bk + nr)) (h42 : σ.2.2.1 42 (12 * bk + nr) = -1) (hf : (x = 1 ∨ x = 2) → ∃ n' l, n' ≤ 8 ∧ wdR n' (vl 804) (σ.2.2.2 36 (12 * bk + nr)) l) : stR G cx bf z c bk nr ra nm na i cn x 0 0 σ S0 S R :=
  ⟨ca, by0, wt, vi, vl, none, ce, be, hm, ⟨⟨h1.1, h1.2.2.2.2.1, h1.2.2.2.2.2, h1.2.1, h1.2.2.1, hw, h39, h9⟩, ⟨fun _ => .inr (.inr []), none, fun c hc => absurd hc (Nat.not_lt_zero _), Or.inl ⟨rfl, rfl, h42⟩, fun _ => rfl⟩, hf, fun j hj => absurd hj (Nat.not_lt_zero _)⟩, h1.2.2.2.1⟩
theorem d_71 (h : dM G cx bf z c nr ra nm S0 R fk fp S) {post : cs_S → Prop} {mc ms u v : Nat} (hu : u + 2 ≤ mc) (hv : v + 14 ≤ ms) (hp : ∀ S1, dM G cx bf z c nr ra nm S0 R fk fp S1 → post S1) : ((cs_i S 802 R) = 24 → w_X5_readWhat_107 post G mc ms S u v (cx 0) (some R)) ∧ (¬ (cs_i S 802 R) = 24 → cs_k S (cx 0) = 7 ∧ wp_X5_readName (fun r74 S74 => cs_k S74 R = 9 ∧ ∀ S77, S77 = cs_ul S74 804 R r74 → w_X5_readWhat_107 post G mc ms S77 u v (cx 0) (some R)) G S (cx 0)) :=
  ⟨fun _ => d_107 h hu hv hp, fun _ => ⟨h.k7, d_name h.1 ⟨h.k9, fun S77 e77 => by rw [e77]; exact d_107 h.ul hu hv hp⟩⟩⟩
theorem okL {j : Nat} {y : Int32} (ok : okN bf z j 1 y) (hy : y = 1000) : ∃ L, 1 ≤ L ∧ L ≤ 1000 ∧ (at_ bf z j).2.2.2 = nI L := by
  have h2 := ok.2.2
  rw [hy] at h2
  exact i32n (a := 1) (b := 1000) ok.2.1 h2 (by decide) (by decide)
theorem W_ct (ht : tC bf z c) (h : rA bf z bk nr nm i cn σ) (hi : i ≤ c) (hnr : nr < 12) (hk : (x = 0 ∧ kt bf z i = 24) ∨ (x = 1 ∧ kt bf z i = 26) ∨ (x = 2 ∧ kt bf z i = 27)) (h40 : σ.2.2.1 40 (12 * bk + nr) = nI 0) (h42 : σ.2.2.1 42 (12 * bk + nr) = -1) (h43 : σ.2.2.1 43 (12 * bk + nr) = nI 0) : OUTW G cx bf z c bk nr ra nm na i cn σ (fun Q => w_X12_readWhat_57 Q σ (nI (12 * bk + nr)) (nI (12 * bk + nr)) (nI x)) (stN G cx bf z c nr ra nm na i (nI (kt bf z i)))
    (fun post mc ms u v S R => wp_X5_step (fun S100 => cs_k S100 R = 9 ∧ (¬ (cs_i S100 802 R) = 27 → w_X5_readWhat_84 post G mc ms S100 u v (cx 0) (some R) (some R) (some (cx 0)) 1 1000) ∧ ((cs_i S100 802 R) = 27 → w_X5_readWhat_84 post G mc ms S100 u v (cx 0) (some R) (some R) (some (cx 0)) 1 2147483647)) G S (cx 0)) := by
  have hbk := h.2.2.1.2.2
  have hz := ht.1
  have hc : cn ≤ 1100 := by have := h.2.2.2.2.1.2.1; have := ht.le i hi; omega
  have eC : (nI (12 * bk + nr)).toNatClampNeg = 12 * bk + nr := nI_clamp (by omega)
  have i24 : ∀ k, rf_n k = 24 → vp_in (nI (12 * bk + nr)) (rf_n k) := fun k e => by rw [e]; exact nI_in (by omega) (by decide)
  have hlt := ht.lt hi (by omega)
  have hone := ht.one hlt
  have hx2 : x ≤ 2 := by omega
  have ne2 : (x = 0 ∨ x = 1) → x ≠ 2 := by omega
  have hwh : whC x (nI (kt bf z i)) := by
    rcases hk with ⟨e1, e2⟩ | ⟨e1, e2⟩ | ⟨e1, e2⟩
    · rw [e1, e2]; exact Or.inl ⟨rfl, rfl⟩
    · rw [e1, e2]; exact Or.inr (Or.inl ⟨rfl, rfl⟩)
    · rw [e1, e2]; exact Or.inr (Or.inr (Or.inl ⟨rfl, rfl⟩))
  obtain ⟨y, hy1, hy2⟩ : ∃ y : Int32, (x ≠ 2 → y = 1000) ∧ (x = 2 → y = 2147483647) := by
    by_cases e : x = 2
    · exact ⟨2147483647, fun q => absurd e q, fun _ => rfl⟩
    · exact ⟨1000, fun _ => rfl, fun q => absurd q e⟩
  obtain ⟨σ1, g1, g2, g3⟩ := r_nx ht (h.r44 (kk := 38) (j := 12 * bk + nr) (y := nI x) (by omega)) hlt
  have er : σ1.2.2 = (rf_ua σ 38 (12 * bk + nr) (nI x)).2.2 := g1.2.2
  have r38 : σ1.2.2.1 38 (12 * bk + nr) = nI x := by rw [er, r3ua, if_pos ⟨rfl, rfl⟩]
  have hG1 : gF bk nr cn σ σ1 := (gF.rfl.ua hnr (Or.inl ⟨by omega, by omega, by omega, rfl⟩)).trans (nxF.pf (bk := bk) (cn := cn) g1).gf (Nat.le_refl _)
  have hle1 := ht.le (i + 1) (by omega)
  -- the reference as far as the number
  have ref : ∀ {Q : Int32 → rf_S → Prop}, w_X12_readWhat_83 Q σ1 (nI (12 * bk + nr)) 1 y → w_X12_readWhat_57 Q σ (nI (12 * bk + nr)) (nI (12 * bk + nr)) (nI x) := fun {Q} hq => ⟨i24 38 rfl, by
    rw [eC]
    refine g3 _ ⟨i24 38 rfl, fun q => ?_, fun q => ?_⟩
    · rw [r38] at q
      have e : x ≠ 2 := fun e => q (by rw [e]; rfl)
      rw [hy1 e] at hq; exact hq
    · rw [r38] at q
      have e : x = 2 := (nI_eq (b := 2) (by omega) (by decide)).mp q
      rw [hy2 e] at hq; exact hq⟩
  -- the class as far as the number
  have cls : ∀ {S0 S R post mc ms u v}, stN G cx bf z c nr ra nm na i (nI (kt bf z i)) S0 S R → (∀ S100, stN G cx bf z c nr ra nm na (i + 1) (nI (kt bf z i)) S0 S100 R → w_X5_readWhat_84 post G mc ms S100 u v (cx 0) (some R) (some R) (some (cx 0)) 1 y) → wp_X5_step (fun S100 => cs_k S100 R = 9 ∧ (¬ (cs_i S100 802 R) = 27 → w_X5_readWhat_84 post G mc ms S100 u v (cx 0) (some R) (some R) (some (cx 0)) 1 1000) ∧ ((cs_i S100 802 R) = 27 → w_X5_readWhat_84 post G mc ms S100 u v (cx 0) (some R) (some R) (some (cx 0)) 1 2147483647)) G S (cx 0) := by
    intro S0 S R post mc ms u v hs hp
    have hA : pA G cx bf z c nr ra nm i S := by obtain ⟨ca, by0, wt, vi, vl, ce, be, hm, -⟩ := hs; exact hm.1
    refine c_step ht hA hlt (fun S100 p100 f100 => ?_)
    have h100 := hs.pe p100 f100
    have hq := hp S100 h100
    obtain ⟨ca, by0, wt, vi, vl, ce, be, hm, hv, -⟩ := h100
    have e802 : cs_i S100 802 R = nI (kt bf z i) := (hm.2.2.1.1.2.1 802).trans hv.2.1
    refine ⟨hm.2.2.1.1.1, fun q => ?_, fun q => ?_⟩
    · rw [e802] at q
      have e : x ≠ 2 := fun e => q (by have : kt bf z i = 27 := by omega
                                       rw [this]; rfl)
      rw [hy1 e] at hq; exact hq
    · rw [e802] at q
      have e2 := (nI_eq (b := 27) (by omega) (by decide)).mp q
      rw [hy2 (by omega)] at hq; exact hq
  obtain ⟨n1, n2⟩ := r_num2 (x := 1) (y := y) ht g2 (by omega)
  by_cases ok : okN bf z (i + 1) 1 y
  · obtain ⟨σ2, q1, q2, q3, q4, q5, q6⟩ := n1 ok
    have hlt2 := ht.lt (i := i + 1) (by omega) (by have := ok.1; omega)
    have hone2 := ht.one hlt2
    have hle2 := ht.le (i + 1 + 1) (by omega)
    have hK2 := ht.K39 (i := i + 1 + 1) (by omega)
    have h3 : rA bf z bk nr nm (i + 1 + 1) cn (rf_ua σ2 39 (12 * bk + nr) (at_ bf z (i + 1)).2.2.2) := q3.r44 (by omega)
    have hG3 : gF bk nr cn σ (rf_ua σ2 39 (12 * bk + nr) (at_ bf z (i + 1)).2.2.2) := (hG1.trans q1.gf (Nat.le_refl _)).ua hnr (Or.inl ⟨by omega, by omega, by omega, rfl⟩)
    have r3 : ∀ k j, k ≠ 38 → k ≠ 39 → (rf_ua σ2 39 (12 * bk + nr) (at_ bf z (i + 1)).2.2.2).2.2.1 k j = σ.2.2.1 k j := fun k j hk hk' => by rw [r3ua, if_neg (fun e => hk' e.1), q2, er, r3ua, if_neg (fun e => hk e.1)]
    have r38' : (rf_ua σ2 39 (12 * bk + nr) (at_ bf z (i + 1)).2.2.2).2.2.1 38 (12 * bk + nr) = nI x := by rw [r3ua, if_neg (by omega), q2]; exact r38
    have r39' : (rf_ua σ2 39 (12 * bk + nr) (at_ bf z (i + 1)).2.2.2).2.2.1 39 (12 * bk + nr) = (at_ bf z (i + 1)).2.2.2 := by rw [r3ua, if_pos ⟨rfl, rfl⟩]
    have r4 : (rf_ua σ2 39 (12 * bk + nr) (at_ bf z (i + 1)).2.2.2).2.2.2 = σ.2.2.2 := by show σ2.2.2.2 = _; rw [q2, er]; rfl
    have e38c : (σ2.2.2.1 38 (nI (12 * bk + nr)).toNatClampNeg) = nI x := by rw [eC, q2]; exact r38
    by_cases e0 : x = 0
    · -- count
      have e24 : nI (kt bf z i) = 24 := by rw [show kt bf z i = 24 from by omega]; rfl
      refine OUTW.pre 0 0 (W136 (x := x) ht h3 (by omega) hnr hx2 r38' (fun e => by rw [r39']; exact okL ok (hy1 (ne2 e))) (by rw [r3 40 _ (by decide) (by decide)]; exact h40) (by rw [r3 43 _ (by decide) (by decide)]; exact h43)) hG3 (Nat.le_refl _) (by omega) ⟨by rw [r4], r3 45 _ (by decide) (by decide)⟩ (by omega) (by omega) (fun Q hQ => ref (q6 _ ⟨fun _ => ⟨i24 39 rfl, i24 38 rfl, fun _ => by rw [eC, q4]; exact hQ, fun q => absurd (by rw [e38c, e0]; rfl) q⟩, fun q => absurd q (by decide)⟩)) ?_
      intro S0 S R post mc ms u v hs hu hv hp
      refine cls hs (fun S100 h100 => ?_)
      obtain ⟨ca, by0, wt, vi, vl, ce, be, hm, ⟨v1, v2, v3, v4, v5, v6, v7, v8⟩, v9⟩ := h100
      refine ⟨by omega, by omega, cx 0, rfl, hm.1.1.1.1, c_num2 ht hm.1 (fun _ S67 p67 f67 => ?_) (fun q => absurd ok q)⟩
      have h67 := hm.pe p67 f67
      refine ⟨R, rfl, h67.2.2.1.1.1, fun S71 e71 => ?_⟩
      have h71 := h67.u (f := 803) (y := (at_ bf z (i + 1)).2.2.2)
      rw [← e71] at h71
      have e802 : cs_i S71 802 R = nI (kt bf z i) := by rw [h71.2.2.1.1.2.1, up_o (by decide)]; exact v2
      refine ⟨R, rfl, h71.2.2.1.1.1, fun _ => hp S71 (ctJ h71 ⟨?_, ?_, ?_, ?_, ?_, ?_⟩ v9 ?_ ?_ (by rw [r3 42 _ (by decide) (by decide)]; exact h42) (fun e => absurd e (by omega))), fun q => absurd (e802.trans e24) q⟩
      · rw [up_o (by decide)]; exact v1
      · rw [up_o (by decide)]; exact v4
      · rw [up_o (by decide)]; exact v5
      · rw [up_o (by decide)]; exact v6
      · rw [up_o (by decide)]; exact v7
      · rw [up_o (by decide)]; exact v8
      · rw [up_o (by decide), v2]; exact hwh
      · rw [up_s, r39']
    · -- a field must come
      have n0 : ¬ (σ2.2.2.1 38 (nI (12 * bk + nr)).toNatClampNeg) = 0 := fun q => by
        rw [e38c] at q
        exact e0 ((nI_eq (b := 0) (by omega) (by decide)).mp q)
      by_cases e2 : kt bf z (i + 1 + 1) = 2
      · have hlt3 := ht.lt (i := i + 1 + 1) (by omega) (by omega)
        have hone3 := ht.one hlt3
        obtain ⟨n', l', n1', n2', hwd⟩ := h3.wd ht (by omega) (Or.inl e2)
        have h4 : rA bf z bk nr nm (i + 1 + 1) cn (rf_ub (rf_ua σ2 39 (12 * bk + nr) (at_ bf z (i + 1)).2.2.2) 36 (12 * bk + nr) (σ2.2.1 58)) := h3.row rfl rfl (fun _ _ _ => rfl) (fun k j hk _ => by rw [r4ub, if_neg (by omega)])
        obtain ⟨σ5, k1, k2, k3⟩ := r_nx ht h4 hlt3
        have er5 := k1.2.2
        have hG5 : gF bk nr cn σ σ5 := (hG3.ub hnr (Or.inl ⟨Or.inr rfl, rfl⟩)).trans (nxF.pf (bk := bk) (cn := cn) k1).gf (Nat.le_refl _)
        have s3 : ∀ k j, σ5.2.2.1 k j = (rf_ua σ2 39 (12 * bk + nr) (at_ bf z (i + 1)).2.2.2).2.2.1 k j := fun k j => by rw [er5]; rfl
        have s36 : σ5.2.2.2 36 (12 * bk + nr) = σ2.2.1 58 := by rw [er5, r4ub, if_pos ⟨rfl, rfl⟩]
        have s35 : σ5.2.2.2 35 (12 * bk + nr) = σ.2.2.2 35 (12 * bk + nr) := by rw [er5, r4ub, if_neg (by omega), r4]
        refine OUTW.pre 0 0 (W136 (x := x) ht k2 (by omega) hnr hx2 (by rw [s3]; exact r38') (fun e => by rw [s3, r39']; exact okL ok (hy1 (ne2 e))) (by rw [s3, r3 40 _ (by decide) (by decide)]; exact h40) (by rw [s3, r3 43 _ (by decide) (by decide)]; exact h43)) hG5 (Nat.le_refl _) (by omega) ⟨s35, by rw [s3, r3 45 _ (by decide) (by decide)]⟩ (by omega) (by omega) (fun Q hQ => ref (q6 _ ⟨fun _ => ⟨i24 39 rfl, i24 38 rfl, fun q => absurd q n0, fun _ => ?_⟩, fun q => absurd q (by decide)⟩)) ?_
        · rw [eC, q4]
          exact r_isn ht h3 (by omega) (fun _ => ⟨fun _ => ⟨i24 36 rfl, k3 _ hQ⟩, fun q => absurd q (by decide)⟩) (fun q => absurd e2 q)
        · intro S0 S R post mc ms u v hs hu hv hp
          refine cls hs (fun S100 h100 => ?_)
          obtain ⟨ca, by0, wt, vi, vl, ce, be, hm, ⟨v1, v2, v3, v4, v5, v6, v7, v8⟩, v9⟩ := h100
          refine ⟨by omega, by omega, cx 0, rfl, hm.1.1.1.1, c_num2 ht hm.1 (fun _ S67 p67 f67 => ?_) (fun q => absurd ok q)⟩
          have h67 := hm.pe p67 f67
          refine ⟨R, rfl, h67.2.2.1.1.1, fun S71 e71 => ?_⟩
          have h71 := h67.u (f := 803) (y := (at_ bf z (i + 1)).2.2.2)
          rw [← e71] at h71
          have e802 : cs_i S71 802 R = nI (kt bf z i) := by rw [h71.2.2.1.1.2.1, up_o (by decide)]; exact v2
          have n24' : ¬ cs_i S71 802 R = 24 := fun q => by
            rw [e802] at q
            have := (nI_eq (b := 24) (by omega) (by decide)).mp q
            omega
          refine ⟨R, rfl, h71.2.2.1.1.1, fun q => absurd q n24', fun _ => ⟨h71.1.1.1.1, c_name ht h71.1 (fun _ S74 p74 f74 => ?_) (fun q => absurd e2 q)⟩⟩
          have h74 := h71.pe p74 f74
          refine ⟨h74.2.2.1.1.1, fun S77 e77 => ?_⟩
          have h77 := h74.wr (S' := cs_ul S74 804 R (at_ bf z (i + 1 + 1)).2.2.1) (fX.rfl.ul (Or.inl (Or.inl rfl))) h74.2.2.1.ul
          rw [← e77] at h77
          refine hp S77 (ctJ h77 ⟨?_, ?_, ?_, ?_, ?_, ?_⟩ (by rw [up_o (by decide)]; exact v9) ?_ ?_ (by rw [s3, r3 42 _ (by decide) (by decide)]; exact h42) (fun _ => ⟨n', l', n2', by rw [up_s, s36]; exact hwd⟩))
          · rw [up_o (by decide)]; exact v1
          · rw [up_o (by decide)]; exact v4
          · rw [up_o (by decide)]; exact v5
          · rw [up_o (by decide)]; exact v6
          · rw [up_o (by decide)]; exact v7
          · rw [up_o (by decide)]; exact v8
          · rw [up_o (by decide), v2]; exact hwh
          · rw [up_s, s3, r39']
      · have hGB : gF bk nr cn σ (rB (rf_ua σ2 39 (12 * bk + nr) (at_ bf z (i + 1)).2.2.2) (fk2 bf z (i + 1 + 1)) (fpl bf z (i + 1 + 1))) := hG3.trans (rB.f (bk := bk) (cn := cn)).gf (Nat.le_refl _)
        refine ⟨0, rB (rf_ua σ2 39 (12 * bk + nr) (at_ bf z (i + 1)).2.2.2) (fk2 bf z (i + 1 + 1)) (fpl bf z (i + 1 + 1)), 2, 14, hGB, fun Q hQ => ref (q6 _ ⟨fun _ => ⟨i24 39 rfl, i24 38 rfl, fun q => absurd q n0, fun _ => ?_⟩, fun q => absurd q (by decide)⟩), Or.inr ⟨fk2 bf z (i + 1 + 1), fpl bf z (i + 1 + 1), rfl, rB.d fk2_0, by omega, by omega, ?_⟩⟩
        · rw [eC, q4]
          exact r_isn ht h3 (by omega) (fun q => absurd q e2) (fun _ => ⟨fun q => absurd rfl q, fun _ => r_cant ht h3 (by omega) ⟨rfl, hQ⟩⟩)
        · intro S0 S R post hs hp mc ms u v hu hv
          refine cls hs (fun S100 h100 => ?_)
          obtain ⟨ca, by0, wt, vi, vl, ce, be, hm, ⟨v1, v2, v3, v4, v5, v6, v7, v8⟩, v9⟩ := h100
          refine ⟨by omega, by omega, cx 0, rfl, hm.1.1.1.1, c_num2 ht hm.1 (fun _ S67 p67 f67 => ?_) (fun q => absurd ok q)⟩
          have h67 := hm.pe p67 f67
          refine ⟨R, rfl, h67.2.2.1.1.1, fun S71 e71 => ?_⟩
          have h71 := h67.u (f := 803) (y := (at_ bf z (i + 1)).2.2.2)
          rw [← e71] at h71
          have e802 : cs_i S71 802 R = nI (kt bf z i) := by rw [h71.2.2.1.1.2.1, up_o (by decide)]; exact v2
          have n24' : ¬ cs_i S71 802 R = 24 := fun q => by
            rw [e802] at q
            have := (nI_eq (b := 24) (by omega) (by decide)).mp q
            omega
          refine ⟨R, rfl, h71.2.2.1.1.1, fun q => absurd q n24', fun _ => ⟨h71.1.1.1.1, c_name ht h71.1 (fun q => absurd q e2) (fun _ S74 p74 f74 => ?_)⟩⟩
          have h74 := h71.dd p74 f74 (Nat.zero_le 5) (by rw [up_o (by decide)]; exact v4) (Nat.zero_le 3) (by rw [up_o (by decide)]; exact v5)
          exact ⟨h74.k9, fun S77 e77 => by rw [e77]; exact d_107 h74.ul hu hv hp⟩
  · have hGB : gF bk nr cn σ (rB σ1 (bdN bf z (i + 1)) (fpl bf z (i + 1))) := hG1.trans (rB.f (bk := bk) (cn := cn)).gf (Nat.le_refl _)
    refine ⟨0, rB σ1 (bdN bf z (i + 1)) (fpl bf z (i + 1)), 2, 14, hGB, fun Q hQ => ref (n2 ok _ ⟨fun q => absurd rfl q, fun _ => hQ⟩), Or.inr ⟨bdN bf z (i + 1), fpl bf z (i + 1), rfl, rB.d bdN_0, by omega, by omega, ?_⟩⟩
    intro S0 S R post hs hp mc ms u v hu hv
    refine cls hs (fun S100 h100 => ?_)
    obtain ⟨ca, by0, wt, vi, vl, ce, be, hm, ⟨v1, v2, v3, v4, v5, v6, v7, v8⟩, v9⟩ := h100
    refine ⟨by omega, by omega, cx 0, rfl, hm.1.1.1.1, c_num2 ht hm.1 (fun q => absurd q ok) (fun _ S67 p67 f67 => ?_)⟩
    have h67 := hm.dd p67 f67 (Nat.zero_le 5) v4 (Nat.zero_le 3) v5
    refine ⟨R, rfl, h67.k9, fun S71 e71 => ?_⟩
    have h71 := h67.ui (f := 803) (x := 0) (by decide)
    rw [← e71] at h71
    exact ⟨R, rfl, h71.k9, d_71 h71 hu hv hp⟩
end WH4
