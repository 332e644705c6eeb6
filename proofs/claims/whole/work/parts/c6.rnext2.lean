/-! ===== the reference's tokens: numbers, addresses, any ===== -/
section RN2
variable {σ : rf_S} {z s n b d : Nat} {bf : Nat → Nat}
theorem r_n175 {v : Int64} {m : Nat} (hn : n ≤ 2100) (hm : m ≤ 2100) (hag : ag bf d n = true ↔ n = m) (hv : ag bf d n = true → n ≤ 10 → v = Int64.ofInt (nvl bf s d n)) {Q : rf_S → Prop} (hQ : Q (rf_ui (rf_ui σ 54 (if ag bf d n = true ∧ 1 ≤ n ∧ n ≤ 10 ∧ -2147483648 ≤ nvl bf s d n ∧ nvl bf s d n ≤ 2147483647 then 2 else 6)) 56 v.toInt32)) : w_X12_readNumber_175 Q σ (nI m) (nI n) v := by
  have bad : ¬ (ag bf d n = true ∧ 1 ≤ n ∧ n ≤ 10 ∧ -2147483648 ≤ nvl bf s d n ∧ nvl bf s d n ≤ 2147483647) → w_X12_readNumber_206 Q σ v := by
    intro q
    rw [if_neg q] at hQ
    exact ⟨fun _ => hQ, fun w => absurd rfl w⟩
  refine ⟨fun q => bad (fun w => q (by rw [hag.mp w.1])), fun q => ⟨fun q1 => bad (fun w => nI_nle w.2.1 (by omega) q1), fun q1 => ⟨fun q2 => bad (fun w => nI_nlt (a := 10) w.2.2.1 (by decide) q2), fun q2 => ?_⟩⟩⟩
  have hag1 : ag bf d n = true := hag.mpr ((nI_eq (by omega) (by omega)).mp q)
  have h1 : 1 ≤ n := Nat.pos_of_ne_zero (fun w => q1 (by rw [w]; decide))
  have h10 : n ≤ 10 := Nat.le_of_not_lt (fun w => q2 (nI_lt (a := 10) w (by omega)))
  have hlt : dv bf d n < 10 ^ n := dv_lt n (fun i hi => (bD_t.mp ((ag_t n).mp hag1 i hi)).2)
  have hle : (10 : Nat) ^ n ≤ 10 ^ 10 := Nat.pow_le_pow_right (by decide) h10
  have hr : -10000000000 ≤ nvl bf s d n ∧ nvl bf s d n ≤ 10000000000 := by
    have e10 : (10 : Nat) ^ 10 = 10000000000 := by decide
    unfold nvl
    split <;> omega
  have e := hv hag1 h10
  refine ⟨fun q3 => bad (fun w => q3 ?_), fun q3 => ?_⟩
  · rw [e]; exact (i64_fit hr.1 hr.2).mpr ⟨w.2.2.2.1, w.2.2.2.2⟩
  · rw [e] at q3
    obtain ⟨h3, h4⟩ := (i64_fit hr.1 hr.2).mp q3
    rw [if_pos ⟨hag1, h1, h10, h3, h4⟩] at hQ
    exact ⟨fun w => absurd w (by decide), fun _ => hQ⟩
theorem r_n86 {m : Nat} (hw : rnW bA bf z d n) (hm : m ≤ 2100) (hag : ag bf d n = true ↔ n = m) (hsd : d = s ∨ d = s + 1) : ∀ r j (σ : rf_S) (v : Int64), j + r = n → tJ σ z bf → σ.1 4 = nI (d + j) → (ag bf d j = true → j ≤ 10 → v = Int64.ofNat (dv bf d j)) → ∃ σ', nxF σ σ' ∧ σ'.1 55 = σ.1 55 ∧ σ'.1 4 = nI (d + n) ∧ σ'.1 54 = (if ag bf d n = true ∧ 1 ≤ n ∧ n ≤ 10 ∧ -2147483648 ≤ nvl bf s d n ∧ nvl bf s d n ≤ 2147483647 then 2 else 6) ∧ (ag bf d n = true → n ≤ 10 → σ'.1 56 = Int32.ofInt (nvl bf s d n)) ∧ ∀ Q : rf_S → Prop, Q σ' → w_X12_readNumber_86 Q (r + 1) σ (fl (decide (s < d))) (nI m) (nI j) v := by
  obtain ⟨w1, w2, w3⟩ := hw
  intro r
  induction r with
  | zero =>
    intro j σ v hj ht h4 hv
    have : j = n := by omega
    subst this
    have h2 := ht.2.1
    have hv2 : ag bf d j = true → j ≤ 10 → (if s < d then -v else v) = Int64.ofInt (nvl bf s d j) := by
      intro q1 q2
      rw [hv q1 q2, nvl]
      by_cases h : s < d
      · rw [if_pos h, if_pos h, Int64.ofInt_neg, Int64.ofInt_eq_ofNat]
      · rw [if_neg h, if_neg h, Int64.ofInt_eq_ofNat]
    refine ⟨rf_ui (rf_ui σ 54 (if ag bf d j = true ∧ 1 ≤ j ∧ j ≤ 10 ∧ -2147483648 ≤ nvl bf s d j ∧ nvl bf s d j ≤ 2147483647 then 2 else 6)) 56 (if s < d then -v else v).toInt32, (nxF.rfl.ui (by omega)).ui (by omega), ?_, ?_, ?_, fun q1 q2 => ?_, fun Q hQ => ?_⟩
    · rw [r1ui, if_neg (by decide), r1ui, if_neg (by decide)]
    · rw [r1ui, if_neg (by decide), r1ui, if_neg (by decide)]; exact h4
    · rw [r1ui, if_neg (by decide), r1ui, if_pos rfl]
    · rw [r1ui, if_pos rfl, hv2 q1 q2, Int64.toInt32_ofInt]
    have fin : (fl (decide (s < d)) = 0 → w_X12_readNumber_175 Q σ (nI m) (nI j) v) ∧ (¬ fl (decide (s < d)) = 0 → w_X12_readNumber_175 Q σ (nI m) (nI j) (-v)) := by
      refine ⟨fun q => ?_, fun q => ?_⟩
      · have h : ¬ s < d := fun w => by rw [fl_t (decide_eq_true w)] at q; exact absurd q (by decide)
        rw [if_neg h] at hv2
        rw [if_neg (c := s < d) h] at hQ
        exact r_n175 (by omega) hm hag hv2 hQ
      · have h : s < d := of_decide_eq_true (fl_1.mp q)
        rw [if_pos h] at hv2
        rw [if_pos (c := s < d) h] at hQ
        exact r_n175 (by omega) hm hag hv2 hQ
    show wp_X12_byteAt _ σ (σ.1 4)
    rw [h4]
    by_cases hz : d + j < z
    · have hnb := w3 hz
      rw [bA, Bool.or_eq_false_iff] at hnb
      refine tb_in ht hz (rb_L (ht.2.2.1 _ hz) (fun q => by rw [hnb.1] at q; cases q) (fun _ => ⟨fun q => absurd rfl q, fun _ => ?_⟩))
      rw [h4]
      exact tb_in ht hz (rb_D (ht.2.2.1 _ hz) (fun q => by rw [hnb.2] at q; cases q) (fun _ => ⟨fun _ => fin, fun q => absurd rfl q⟩))
    · refine tb_out ht (by omega) (by omega) (rb_Ln ⟨fun q => absurd rfl q, fun _ => ?_⟩)
      rw [h4]
      exact tb_out ht (by omega) (by omega) (rb_Dn ⟨fun _ => fin, fun q => absurd rfl q⟩)
  | succ r ih =>
    intro j σ v hj ht h4 hv
    have h2 := ht.2.1
    have hz : d + j < z := by omega
    have hA := w2 j (by omega)
    have hb := ht.2.2.1 _ hz
    have step : ∀ v', (ag bf d (j + 1) = true → j + 1 ≤ 10 → v' = Int64.ofNat (dv bf d (j + 1))) → ((10 ≤ j ∧ v' = v) ∨ (j < 10 ∧ v' = ((10 * v) + (nI (bf (d + j))).toInt64) - 48)) → ∃ σ', nxF σ σ' ∧ σ'.1 55 = σ.1 55 ∧ σ'.1 4 = nI (d + n) ∧ σ'.1 54 = (if ag bf d n = true ∧ 1 ≤ n ∧ n ≤ 10 ∧ -2147483648 ≤ nvl bf s d n ∧ nvl bf s d n ≤ 2147483647 then 2 else 6) ∧ (ag bf d n = true → n ≤ 10 → σ'.1 56 = Int32.ofInt (nvl bf s d n)) ∧ ∀ Q : rf_S → Prop, Q σ' → w_X12_readNumber_86 Q (r + 1 + 1) σ (fl (decide (s < d))) (nI m) (nI j) v := by
      intro v' hv' hc
      obtain ⟨σ', g1, g2, g3, g4, g5, g6⟩ := ih (j + 1) (rf_ui σ 4 (nI (d + (j + 1)))) v' (by omega) (ht.nx (nxF.rfl.ui (by omega))) (by rw [r1ui, if_pos rfl]) hv'
      refine ⟨σ', (nxF.rfl.ui (by omega)).trans g1, by rw [g2, r1ui, if_neg (by decide)], g3, g4, g5, fun Q hQ => ?_⟩
      have hq := g6 Q hQ
      have w145 : w_X12_readNumber_145 Q (w_X12_readNumber_86 Q (r + 1)) σ (fl (decide (s < d))) (nI m) (nI j) v' := by
        show w_X12_readNumber_86 Q (r + 1) (rf_ui σ 4 (σ.1 4 + 1)) _ (nI m) (nI j + 1) v'
        rw [h4, nI_1, nI_1, show d + j + 1 = d + (j + 1) from by omega]; exact hq
      have w114 : w_X12_readNumber_114 Q (w_X12_readNumber_86 Q (r + 1)) σ (fl (decide (s < d))) (nI m) (nI j) v := by
        refine ⟨fun q => ?_, fun q => ?_⟩
        · have h10 := (nI_leI (a := 10) (by decide) (by omega)).mp q
          rcases hc with ⟨-, e⟩ | ⟨h, -⟩
          · rw [← e]; exact w145
          · omega
        · have h10 : ¬ 10 ≤ j := fun w => q (nI_le (a := 10) w (by omega))
          rw [h4]
          refine tb_in ht hz ?_
          rcases hc with ⟨h, -⟩ | ⟨-, e⟩
          · omega
          · rw [← e]; exact w145
      show wp_X12_byteAt _ σ (σ.1 4)
      rw [h4]
      refine tb_in ht hz (rb_L hb (fun _ => ⟨fun _ => w114, fun q => absurd q (by decide)⟩) (fun hl => ⟨fun q => absurd rfl q, fun _ => ?_⟩))
      rw [h4]
      refine tb_in ht hz (rb_D hb (fun _ => ⟨fun q => absurd q (by decide), fun _ => w114⟩) (fun hd => ?_))
      rw [bA, hl, hd] at hA
      cases hA
    by_cases h10 : 10 ≤ j
    · exact step v (fun _ q => by omega) (Or.inl ⟨h10, rfl⟩)
    · refine step _ (fun q1 q2 => ?_) (Or.inr ⟨by omega, rfl⟩)
      rw [ag, Bool.and_eq_true] at q1
      have hd := bD_t.mp q1.2
      rw [hv q1.1 (by omega), i64_dig hd.1 (by omega), dv]
theorem r_n81 {m : Nat} (ht : tJ σ z bf) (hw : rnW bA bf z d n) (hm : m ≤ 2100) (hag : ag bf d n = true ↔ n = m) (hsd : d = s ∨ d = s + 1) (h4 : σ.1 4 = nI d) (h55 : σ.1 55 = nI s) : ∃ σ', nxF σ σ' ∧ rTk σ' s (tkN bf s d n) ∧ ∀ Q : rf_S → Prop, Q σ' → w_X12_readNumber_81 Q σ (fl (decide (s < d))) (nI m) := by
  obtain ⟨σ', g1, g2, g3, g4, g5, g6⟩ := r_n86 hw hm hag hsd n 0 σ 0 (by omega) ht h4 (fun _ _ => rfl)
  refine ⟨σ', g1, ?_, fun Q hQ => ⟨_, g6 Q hQ⟩⟩
  rw [tkN]
  by_cases hg : ag bf d n = true ∧ 1 ≤ n ∧ n ≤ 10 ∧ -2147483648 ≤ nvl bf s d n ∧ nvl bf s d n ≤ 2147483647
  · rw [if_pos hg] at g4 ⊢
    exact ⟨g4, g2.trans h55, fun _ => ⟨g3, fun q => absurd q (by show ¬ ((3 : Nat) = 2 ∨ 20 ≤ 3); decide), fun _ _ => g5 hg.1 hg.2.2.1, fun q => absurd q (by show ¬ (3 : Nat) = 4; decide)⟩⟩
  · rw [if_neg hg] at g4 ⊢
    exact ⟨g4, g2.trans h55, fun q => absurd q (by decide)⟩
/-- an address -/
theorem nI_255 {p : Nat} (h : p ≤ 255) : nI p &&& 255 = nI p := by
  have := i32_and p 255 (by omega) (by decide)
  rw [show (255 : Int32) = Int32.ofNat 255 from rfl]
  show Int32.ofNat p &&& Int32.ofNat 255 = Int32.ofNat p
  rw [this]
  congr 1
  have := Nat.and_two_pow_sub_one_eq_mod p 8
  rw [show (255 : Nat) = 2 ^ 8 - 1 from by decide, this]
  exact Nat.mod_eq_of_lt (by omega)
theorem r_a14 (hw : rnW bX bf z s n) : ∀ r k (σ : rf_S) (v : Int32), k + r = n → tJ σ z bf → σ.1 4 = nI (s + k) → (((ad bf s k).2.2.2.2 = true ∧ (ad bf s k).2.2.2.1 ≤ 3) → v = nI (ad bf s k).2.1 ∧ σ.1 56 = (ad bf s k).1) → ∃ σ', nxF σ σ' ∧ σ'.1 55 = σ.1 55 ∧ rTk (rf_ui σ' 55 (nI s)) s (tkA bf s n) ∧ ∀ Q : rf_S → Prop, Q σ' → w_X12_readAddress_14 Q (r + 1) σ (nI ((ad bf s k).2.2.2.1 + 1)) (nI (ad bf s k).2.2.1) v (fl ((ad bf s k).2.2.2.2 && decide ((ad bf s k).2.2.2.1 ≤ 3))) := by
  obtain ⟨w1, w2, w3⟩ := hw
  intro r
  induction r with
  | zero =>
    intro k σ v hk ht h4 hv
    have : k = n := by omega
    subst this
    have h2 := ht.2.1
    obtain ⟨d1, d2, d3⟩ := ad_b (bf := bf) (s := s) k
    have good : ∀ Q : rf_S → Prop, Q (rf_ui (rf_ui σ 56 ((σ.1 56 <<< (8 &&& 31)) ||| v)) 54 (if (ad bf s k).2.2.2.2 = true ∧ (ad bf s k).2.2.2.1 = 3 ∧ 0 < (ad bf s k).2.2.1 then 4 else 6)) → ((fl ((ad bf s k).2.2.2.2 && decide ((ad bf s k).2.2.2.1 ≤ 3)) = 0 → w_X12_readAddress_228 Q (rf_ui σ 56 ((σ.1 56 <<< (8 &&& 31)) ||| v))) ∧ (¬ fl ((ad bf s k).2.2.2.2 && decide ((ad bf s k).2.2.2.1 ≤ 3)) = 0 → (¬ nI ((ad bf s k).2.2.2.1 + 1) = 4 → w_X12_readAddress_228 Q (rf_ui σ 56 ((σ.1 56 <<< (8 &&& 31)) ||| v))) ∧ (nI ((ad bf s k).2.2.2.1 + 1) = 4 → (nI (ad bf s k).2.2.1 ≤ 0 → w_X12_readAddress_228 Q (rf_ui σ 56 ((σ.1 56 <<< (8 &&& 31)) ||| v))) ∧ (¬ nI (ad bf s k).2.2.1 ≤ 0 → w_X12_readAddress_230 Q (rf_ui σ 56 ((σ.1 56 <<< (8 &&& 31)) ||| v)) 4)))) := by
      intro Q hQ
      have bad : ¬ ((ad bf s k).2.2.2.2 = true ∧ (ad bf s k).2.2.2.1 = 3 ∧ 0 < (ad bf s k).2.2.1) → w_X12_readAddress_228 Q (rf_ui σ 56 ((σ.1 56 <<< (8 &&& 31)) ||| v)) := by
        intro q
        rw [if_neg q] at hQ
        exact hQ
      refine ⟨fun q => bad (fun w => ?_), fun q => ⟨fun q2 => bad (fun w => q2 (by rw [w.2.1]; rfl)), fun q2 => ⟨fun q3 => bad (fun w => nI_nle w.2.2 (by omega) q3), fun q3 => ?_⟩⟩⟩
      · rw [fl_t (by rw [w.1, w.2.1]; rfl)] at q
        exact absurd q (by decide)
      · have q := fl_1.mp q
        rw [Bool.and_eq_true] at q
        have q2 := (nI_eq (b := 4) (by omega) (by decide)).mp q2
        rw [if_pos ⟨q.1, by omega, Nat.pos_of_ne_zero (fun w => q3 (by rw [w]; decide))⟩] at hQ
        exact hQ
    refine ⟨rf_ui (rf_ui σ 56 ((σ.1 56 <<< (8 &&& 31)) ||| v)) 54 (if (ad bf s k).2.2.2.2 = true ∧ (ad bf s k).2.2.2.1 = 3 ∧ 0 < (ad bf s k).2.2.1 then 4 else 6), (nxF.rfl.ui (by omega)).ui (by omega), by rw [r1ui, if_neg (by decide), r1ui, if_neg (by decide)], ?_, fun Q hQ => ?_⟩
    · rw [tkA]
      by_cases hg : (ad bf s k).2.2.2.2 = true ∧ (ad bf s k).2.2.2.1 = 3 ∧ 0 < (ad bf s k).2.2.1
      · rw [if_pos hg, if_pos hg]
        obtain ⟨ev, e56⟩ := hv ⟨hg.1, by omega⟩
        refine ⟨?_, by rw [r1ui, if_pos rfl], fun _ => ⟨?_, fun q => absurd q (by show ¬ ((5 : Nat) = 2 ∨ 20 ≤ 5); decide), fun _ _ => ?_, fun q => absurd q (by show ¬ (5 : Nat) = 4; decide)⟩⟩
        · rw [r1ui, if_neg (by decide), r1ui, if_pos rfl]; rfl
        · rw [r1ui, if_neg (by decide), r1ui, if_neg (by decide), r1ui, if_neg (by decide)]; exact h4
        · rw [r1ui, if_neg (by decide), r1ui, if_neg (by decide), r1ui, if_pos rfl, ev, e56]
          show _ = adv bf s k
          rw [adv, nI_255 (d1 hg.1)]
      · rw [if_neg hg, if_neg hg]
        refine ⟨?_, by rw [r1ui, if_pos rfl], fun q => absurd q (by decide)⟩
        rw [r1ui, if_neg (by decide), r1ui, if_pos rfl]; rfl
    · have fin := good Q hQ
      show wp_X12_byteAt _ σ (σ.1 4)
      rw [h4]
      by_cases hz : s + k < z
      · have hnb := w3 hz
        rw [bX, bA, Bool.or_eq_false_iff, Bool.or_eq_false_iff, decide_eq_false_iff_not] at hnb
        refine tb_in ht hz (rb_L (ht.2.2.1 _ hz) (fun q => by rw [hnb.1.1] at q; cases q) (fun _ => ⟨fun q => absurd rfl q, fun _ => ?_⟩))
        rw [h4]
        refine tb_in ht hz (rb_D (ht.2.2.1 _ hz) (fun q => by rw [hnb.1.2] at q; cases q) (fun _ => ⟨fun q => absurd rfl q, fun _ => ?_⟩))
        rw [h4]
        exact tb_in ht hz ⟨fun _ => fin, fun q => absurd ((nI_eq (b := 46) (by have := ht.2.2.1 _ hz; omega) (by decide)).mp q) hnb.2⟩
      · refine tb_out ht (by omega) (by omega) (rb_Ln ⟨fun q => absurd rfl q, fun _ => ?_⟩)
        rw [h4]
        refine tb_out ht (by omega) (by omega) (rb_Dn ⟨fun q => absurd rfl q, fun _ => ?_⟩)
        rw [h4]
        exact tb_out ht (by omega) (by omega) ⟨fun _ => fin, fun q => absurd q (by decide)⟩
  | succ r ih =>
    intro k σ v hk ht h4 hv
    have h2 := ht.2.1
    have hz : s + k < z := by omega
    have hX := w2 k (by omega)
    have hb := ht.2.2.1 _ hz
    obtain ⟨d1, d2, d3⟩ := ad_b (bf := bf) (s := s) k
    -- the loop's test
    have test : ∀ Q : rf_S → Prop, w_X12_readAddress_55 Q (w_X12_readAddress_14 Q (r + 1)) σ (nI ((ad bf s k).2.2.2.1 + 1)) (nI (ad bf s k).2.2.1) v (fl ((ad bf s k).2.2.2.2 && decide ((ad bf s k).2.2.2.1 ≤ 3))) → w_X12_readAddress_14 Q (r + 1 + 1) σ (nI ((ad bf s k).2.2.2.1 + 1)) (nI (ad bf s k).2.2.1) v (fl ((ad bf s k).2.2.2.2 && decide ((ad bf s k).2.2.2.1 ≤ 3))) := by
      intro Q body
      show wp_X12_byteAt _ σ (σ.1 4)
      rw [h4]
      refine tb_in ht hz (rb_L hb (fun _ => ⟨fun _ => body, fun q => absurd q (by decide)⟩) (fun hl => ⟨fun q => absurd rfl q, fun _ => ?_⟩))
      rw [h4]
      refine tb_in ht hz (rb_D hb (fun _ => ⟨fun _ => body, fun q => absurd q (by decide)⟩) (fun hd => ⟨fun q => absurd rfl q, fun _ => ?_⟩))
      rw [h4]
      refine tb_in ht hz ⟨fun q => ?_, fun _ => body⟩
      rw [bX, bA, hl, hd, Bool.or_self, Bool.false_or, decide_eq_true_eq] at hX
      exact absurd (by rw [hX]; rfl) q
    by_cases hc : bf (s + k) = 46
    · have e : ad bf s (k + 1) = (((ad bf s k).1 <<< (8 &&& 31)) ||| (nI (ad bf s k).2.1 &&& 255), 0, 0, (ad bf s k).2.2.2.1 + 1, (ad bf s k).2.2.2.2 && decide (0 < (ad bf s k).2.2.1)) := by rw [ad, if_pos hc]
      have h := ih (k + 1) (rf_ui (rf_ui σ 4 (nI (s + (k + 1)))) 56 ((σ.1 56 <<< (8 &&& 31)) ||| v)) 0 (by omega) (ht.nx ((nxF.rfl.ui (by omega)).ui (by omega))) (by rw [r1ui, if_neg (by decide), r1ui, if_pos rfl])
      rw [e] at h
      obtain ⟨σ', g1, g2, g3, g4⟩ := h (fun q => ⟨rfl, by
        rw [r1ui, if_pos rfl]
        have q1 : ((ad bf s k).2.2.2.2 && decide (0 < (ad bf s k).2.2.1)) = true := q.1
        have q2 : (ad bf s k).2.2.2.1 + 1 ≤ 3 := q.2
        rw [Bool.and_eq_true] at q1
        obtain ⟨ev, e56⟩ := hv ⟨q1.1, by omega⟩
        show _ = ((ad bf s k).1 <<< (8 &&& 31)) ||| (nI (ad bf s k).2.1 &&& 255)
        rw [ev, e56, nI_255 (d1 q1.1)]⟩)
      refine ⟨σ', ((nxF.rfl.ui (by omega)).ui (by omega)).trans g1, by rw [g2, r1ui, if_neg (by decide), r1ui, if_neg (by decide)], g3, fun Q hQ => test Q ?_⟩
      have hq : w_X12_readAddress_14 Q (r + 1) (rf_ui (rf_ui σ 4 (nI (s + (k + 1)))) 56 ((σ.1 56 <<< (8 &&& 31)) ||| v)) (nI ((ad bf s k).2.2.2.1 + 1 + 1)) 0 0 (fl (((ad bf s k).2.2.2.2 && decide (0 < (ad bf s k).2.2.1)) && decide ((ad bf s k).2.2.2.1 + 1 ≤ 3))) := g4 Q hQ
      have e4 : rf_ui σ 4 (σ.1 4 + 1) = rf_ui σ 4 (nI (s + (k + 1))) := by rw [h4, nI_1, show s + k + 1 = s + (k + 1) from by omega]
      have w101 : ∀ y, y = fl (((ad bf s k).2.2.2.2 && decide (0 < (ad bf s k).2.2.1)) && decide ((ad bf s k).2.2.2.1 + 1 ≤ 3)) → w_X12_readAddress_101 Q (w_X12_readAddress_14 Q (r + 1)) (rf_ui σ 4 (σ.1 4 + 1)) (nI ((ad bf s k).2.2.2.1 + 1)) v y := by
        intro y hy
        rw [e4]
        show w_X12_readAddress_14 Q (r + 1) (rf_ui (rf_ui σ 4 (nI (s + (k + 1)))) 56 (((rf_ui σ 4 (nI (s + (k + 1)))).1 56 <<< (8 &&& 31)) ||| v)) (nI ((ad bf s k).2.2.2.1 + 1) + 1) 0 0 y
        rw [r1ui, if_neg (by decide), nI_1, hy]; exact hq
      show wp_X12_byteAt _ σ (σ.1 4)
      rw [h4]
      rw [h4] at w101
      refine tb_in ht hz ⟨fun q => absurd (by rw [hc]; rfl) q, fun _ => ?_⟩
      rw [h4]
      refine ⟨fun q => w101 0 ?_, fun q => ⟨fun q2 => w101 0 ?_, fun q2 => ⟨fun q3 => w101 0 ?_, fun q3 => w101 1 ?_⟩⟩⟩
      · refine (fl_f ?_).symm
        have q : ¬ ((ad bf s k).2.2.2.2 && decide ((ad bf s k).2.2.2.1 ≤ 3)) = true := fun w => by rw [fl_t w] at q; exact absurd q (by decide)
        rw [b_ff]
        intro w
        rw [Bool.and_eq_true, Bool.and_eq_true, decide_eq_true_eq] at w
        have w2 : (ad bf s k).2.2.2.1 + 1 ≤ 3 := of_decide_eq_true w.2
        exact q (by rw [w.1.1, Bool.true_and, decide_eq_true_eq]; omega)
      · refine (fl_f ?_).symm
        rw [b_ff]
        intro w
        rw [Bool.and_eq_true, Bool.and_eq_true, decide_eq_true_eq] at w
        exact nI_nle w.1.2 (by omega) q2
      · refine (fl_f ?_).symm
        rw [b_ff]
        intro w
        rw [Bool.and_eq_true, decide_eq_true_eq] at w
        have := (nI_leI (a := 4) (by decide) (by omega)).mp q3
        omega
      · refine (fl_t ?_).symm
        have q := fl_1.mp q
        rw [Bool.and_eq_true] at q
        rw [q.1, Bool.true_and, Bool.and_eq_true, decide_eq_true_eq, decide_eq_true_eq]
        exact ⟨Nat.pos_of_ne_zero (fun w => q2 (by rw [w]; decide)), Nat.le_of_not_lt (fun w => q3 (nI_le (a := 4) (by omega) (by omega)))⟩
    · -- a letter or a digit
      have hne : ¬ nI (bf (s + k)) = 46 := fun w => hc ((nI_eq (b := 46) (by omega) (by decide)).mp w)
      have e4 : rf_ui σ 4 (nI (s + k) + 1) = rf_ui σ 4 (nI (s + (k + 1))) := by rw [nI_1, show s + k + 1 = s + (k + 1) from by omega]
      by_cases hg : (ad bf s k).2.2.2.2 = true ∧ bD (bf (s + k)) = true ∧ (ad bf s k).2.2.1 + 1 ≤ 3
      · have e : ad bf s (k + 1) = ((ad bf s k).1, 10 * (ad bf s k).2.1 + bf (s + k) - 48, (ad bf s k).2.2.1 + 1, (ad bf s k).2.2.2.1, decide (10 * (ad bf s k).2.1 + bf (s + k) - 48 ≤ 255)) := by rw [ad, if_neg hc, if_pos hg]
        have hd2 := bD_t.mp hg.2.1
        have hp := d1 hg.1
        by_cases h3 : (ad bf s k).2.2.2.1 ≤ 3
        · obtain ⟨ev, e56⟩ := hv ⟨hg.1, h3⟩
          have h := ih (k + 1) (rf_ui σ 4 (nI (s + (k + 1)))) (nI (10 * (ad bf s k).2.1 + bf (s + k) - 48)) (by omega) (ht.nx (nxF.rfl.ui (by omega))) (by rw [r1ui, if_pos rfl])
          rw [e] at h
          obtain ⟨σ', g1, g2, g3, g4⟩ := h (fun q => ⟨rfl, by rw [r1ui, if_neg (by decide)]; exact e56⟩)
          refine ⟨σ', (nxF.rfl.ui (by omega)).trans g1, by rw [g2, r1ui, if_neg (by decide)], g3, fun Q hQ => test Q ?_⟩
          have hq : w_X12_readAddress_14 Q (r + 1) (rf_ui σ 4 (nI (s + (k + 1)))) (nI ((ad bf s k).2.2.2.1 + 1)) (nI ((ad bf s k).2.2.1 + 1)) (nI (10 * (ad bf s k).2.1 + bf (s + k) - 48)) (fl (decide (10 * (ad bf s k).2.1 + bf (s + k) - 48 ≤ 255) && decide ((ad bf s k).2.2.2.1 ≤ 3))) := g4 Q hQ
          show wp_X12_byteAt _ σ (σ.1 4)
          rw [h4]
          refine tb_in ht hz ⟨fun _ => ?_, fun q => absurd q hne⟩
          rw [h4, e4]
          refine ⟨fun q => ?_, fun _ => rb_D hb (fun _ => ⟨fun q => absurd q (by decide), fun _ => ⟨fun q => ?_, fun _ => ?_⟩⟩) (fun q => by rw [hg.2.1] at q; cases q)⟩
          · rw [fl_t (by rw [hg.1, decide_eq_true h3]; rfl)] at q
            exact absurd q (by decide)
          · exact absurd q (nI_ge (b := 3) (by omega) (by decide))
          · refine ⟨fun q => absurd q (by decide), fun _ => ?_⟩
            rw [ev, nI_dg hd2.1]
            rw [decide_eq_true h3, Bool.and_true] at hq
            refine ⟨fun q => absurd q (by decide), fun _ => ⟨fun q => ?_, fun q => ?_⟩⟩
            · show w_X12_readAddress_14 Q (r + 1) _ _ (nI (ad bf s k).2.2.1 + 1) _ 0
              rw [fl_f (decide_eq_false (fun w => by have := (nI_leI (a := 256) (by decide) (by omega)).mp q; omega))] at hq
              rw [nI_1]; exact hq
            · show w_X12_readAddress_14 Q (r + 1) _ _ (nI (ad bf s k).2.2.1 + 1) _ 1
              rw [fl_t (decide_eq_true (Nat.le_of_not_lt (fun w => q (nI_le (a := 256) (by omega) (by omega)))))] at hq
              rw [nI_1]; exact hq
        · -- too many parts
          have h := ih (k + 1) (rf_ui σ 4 (nI (s + (k + 1)))) 0 (by omega) (ht.nx (nxF.rfl.ui (by omega))) (by rw [r1ui, if_pos rfl])
          rw [e] at h
          obtain ⟨σ', g1, g2, g3, g4⟩ := h (fun q => absurd q.2 h3)
          refine ⟨σ', (nxF.rfl.ui (by omega)).trans g1, by rw [g2, r1ui, if_neg (by decide)], g3, fun Q hQ => test Q ?_⟩
          have hq : w_X12_readAddress_14 Q (r + 1) (rf_ui σ 4 (nI (s + (k + 1)))) (nI ((ad bf s k).2.2.2.1 + 1)) (nI ((ad bf s k).2.2.1 + 1)) 0 (fl (decide (10 * (ad bf s k).2.1 + bf (s + k) - 48 ≤ 255) && decide ((ad bf s k).2.2.2.1 ≤ 3))) := g4 Q hQ
          rw [decide_eq_false h3, Bool.and_false] at hq
          show wp_X12_byteAt _ σ (σ.1 4)
          rw [h4]
          refine tb_in ht hz ⟨fun _ => ?_, fun q => absurd q hne⟩
          rw [h4, e4]
          refine ⟨fun _ => ⟨fun _ => ⟨fun _ => ?_, fun q => absurd rfl q⟩, fun q => absurd rfl q⟩, fun q => ?_⟩
          · show w_X12_readAddress_14 Q (r + 1) _ _ (nI (ad bf s k).2.2.1 + 1) 0 0
            rw [nI_1]; exact hq
          · rw [decide_eq_false h3, Bool.and_false] at q
            exact absurd rfl q
      · have e : ad bf s (k + 1) = ((ad bf s k).1, 0, (ad bf s k).2.2.1 + 1, (ad bf s k).2.2.2.1, false) := by rw [ad, if_neg hc, if_neg hg]
        have h := ih (k + 1) (rf_ui σ 4 (nI (s + (k + 1)))) 0 (by omega) (ht.nx (nxF.rfl.ui (by omega))) (by rw [r1ui, if_pos rfl])
        rw [e] at h
        obtain ⟨σ', g1, g2, g3, g4⟩ := h (fun q => nomatch q.1)
        refine ⟨σ', (nxF.rfl.ui (by omega)).trans g1, by rw [g2, r1ui, if_neg (by decide)], g3, fun Q hQ => test Q ?_⟩
        have hq : w_X12_readAddress_14 Q (r + 1) (rf_ui σ 4 (nI (s + (k + 1)))) (nI ((ad bf s k).2.2.2.1 + 1)) (nI ((ad bf s k).2.2.1 + 1)) 0 0 := g4 Q hQ
        have w148 : w_X12_readAddress_148 Q (w_X12_readAddress_14 Q (r + 1)) (rf_ui σ 4 (nI (s + (k + 1)))) (nI ((ad bf s k).2.2.2.1 + 1)) (nI (ad bf s k).2.2.1) v (nI (bf (s + k))) := by
          refine ⟨fun _ => ⟨fun _ => ?_, fun q => absurd rfl q⟩, fun q => absurd rfl q⟩
          show w_X12_readAddress_14 Q (r + 1) _ _ (nI (ad bf s k).2.2.1 + 1) 0 0
          rw [nI_1]; exact hq
        show wp_X12_byteAt _ σ (σ.1 4)
        rw [h4]
        refine tb_in ht hz ⟨fun _ => ?_, fun q => absurd q hne⟩
        rw [h4, e4]
        refine ⟨fun _ => w148, fun q => rb_D hb (fun hd => ⟨fun q => absurd q (by decide), fun _ => ⟨fun _ => w148, fun q3 => ?_⟩⟩) (fun _ => ⟨fun _ => w148, fun q => absurd rfl q⟩)⟩
        have q := fl_1.mp q
        rw [Bool.and_eq_true] at q
        exact absurd ⟨q.1, hd, Nat.lt_of_not_le (fun w => q3 (nI_le (a := 3) w (by omega)))⟩ hg
theorem rTk.f55 {t : tkT} (h : rTk (rf_ui σ 55 (nI s)) s t) (h55 : σ.1 55 = nI s) : rTk σ s t := by
  have e : rf_ui σ 55 (nI s) = σ := by
    refine Prod.ext (funext fun k => ?_) rfl
    rw [r1ui]
    by_cases q : k = 55
    · rw [if_pos q, q, h55]
    · rw [if_neg q]
  rw [e] at h
  exact h
theorem r_num (ht : tJ σ z bf) (hs : s < z) (hl : bL (bf s) = false) (hd : bD (bf s) = true ∨ bf s = 45) (h4 : σ.1 4 = nI s) (h55 : σ.1 55 = nI s) : ∃ σ', nxF σ σ' ∧ rTk σ' s (tk bf z s) ∧ ∀ Q : rf_S → Prop, Q σ' → wp_X12_readNumber Q σ := by
  have h2 := ht.2.1
  have hb := ht.2.2.1 _ hs
  -- the digits
  have dig : ∀ (σ : rf_S) d, tJ σ z bf → d ≤ z → σ.1 4 = nI d → (d = s ∨ d = s + 1) → ∀ (σ' : rf_S), (∀ Q : rf_S → Prop, Q σ' → (d = s → d + rn bD bf (z - d) d < z → bf (d + rn bD bf (z - d) d) = 46 → wp_X12_readAddress Q σ) ∧ (¬ (d = s ∧ d + rn bD bf (z - d) d < z ∧ bf (d + rn bD bf (z - d) d) = 46) → w_X12_readNumber_81 Q σ (fl (decide (s < d))) (nI (rn bD bf (z - d) d)))) → ∀ Q : rf_S → Prop, Q σ' → w_X12_readNumber_33 Q σ (fl (decide (s < d))) := by
    intro σ d ht hdz h4 hsd σ' hfin Q hQ
    have hwD : rnW bD bf z d (rn bD bf (z - d) d) := rn_w (z - d) d (by omega)
    obtain ⟨f1, f2⟩ := hfin Q hQ
    generalize hM : rn bD bf (z - d) d = M at *
    obtain ⟨w1, w2, w3⟩ := hwD
    have endp : (¬ fl (decide (s < d)) = 0 → w_X12_readNumber_81 Q σ (fl (decide (s < d))) (nI M)) ∧ (fl (decide (s < d)) = 0 → wp_X12_byteAt (fun r18 σ18 => (¬ r18 = 46 → w_X12_readNumber_81 Q σ18 (fl (decide (s < d))) (nI M)) ∧ (r18 = 46 → wp_X12_readAddress (fun σ19 => Q σ19) σ18)) σ (nI (d + M))) := by
      refine ⟨fun q => f2 (fun w => ?_), fun q => ?_⟩
      · have := of_decide_eq_true (fl_1.mp q)
        omega
      · have hds : d = s := by
          rcases hsd with h | h
          · exact h
          · rw [fl_t (decide_eq_true (show s < d by omega))] at q
            exact absurd q (by decide)
        by_cases hz : d + M < z
        · exact tb_in ht hz ⟨fun q2 => f2 (fun w => q2 (by rw [w.2.2]; rfl)), fun q2 => f1 hds hz ((nI_eq (b := 46) (by have := ht.2.2.1 _ hz; omega) (by decide)).mp q2)⟩
        · exact tb_out ht (by omega) (by omega) ⟨fun _ => f2 (fun w => hz w.2.1), fun q2 => absurd q2 (by decide)⟩
    have loop : ∀ r j, j + r = M → w_X12_readNumber_35 Q (r + 1) σ (fl (decide (s < d))) (nI j) := by
      intro r
      induction r with
      | zero =>
        intro j hj
        have : j = M := by omega
        subst this
        show wp_X12_byteAt _ σ (σ.1 4 + nI j)
        rw [h4, nI_add]
        rw [← nI_add, ← h4] at endp
        by_cases hz : d + j < z
        · refine tb_in ht hz (rb_D (ht.2.2.1 _ hz) (fun q => by rw [w3 hz] at q; cases q) (fun _ => ⟨fun _ => endp, fun q => absurd rfl q⟩))
        · exact tb_out ht (by omega) (by omega) (rb_Dn ⟨fun _ => endp, fun q => absurd rfl q⟩)
      | succ r ih =>
        intro j hj
        have hz : d + j < z := by omega
        show wp_X12_byteAt _ σ (σ.1 4 + nI j)
        rw [h4, nI_add]
        refine tb_in ht hz (rb_D (ht.2.2.1 _ hz) (fun _ => ⟨fun q => absurd q (by decide), fun _ => ?_⟩) (fun q => by rw [w2 j (by omega)] at q; cases q))
        rw [nI_1]
        exact ih (j + 1) (by omega)
    exact ⟨_, loop M 0 (by omega)⟩
  by_cases h45 : bf s = 45
  · -- minus
    have h34 : ¬ bf s = 34 := by omega
    have e : tk bf z s = tkN bf s (s + 1) (rn bA bf (z - (s + 1)) (s + 1)) := by rw [tk, if_neg (by rw [hl]; decide), if_neg h34, if_pos h45]
    have hwA : rnW bA bf z (s + 1) (rn bA bf (z - (s + 1)) (s + 1)) := rn_w (z - (s + 1)) (s + 1) (by omega)
    have hwD : rnW bD bf z (s + 1) (rn bD bf (z - (s + 1)) (s + 1)) := rn_w (z - (s + 1)) (s + 1) (by omega)
    have ht1 : tJ (rf_ui σ 4 (nI (s + 1))) z bf := ht.nx (nxF.rfl.ui (by omega))
    obtain ⟨σ', g1, g2, g3⟩ := r_n81 (s := s) (d := s + 1) ht1 hwA (by have := hwD.1; omega) (ag_rn hwA hwD) (Or.inr rfl) (by rw [r1ui, if_pos rfl]) (by rw [r1ui, if_neg (by decide)]; exact h55)
    refine ⟨σ', (nxF.rfl.ui (by omega)).trans g1, by rw [e]; exact g2, fun Q hQ => ?_⟩
    have hd := dig (rf_ui σ 4 (nI (s + 1))) (s + 1) ht1 (by omega) (by rw [r1ui, if_pos rfl]) (Or.inr rfl) σ' (fun Q hQ => ⟨fun q => by omega, fun _ => g3 Q hQ⟩) Q hQ
    rw [fl_t (decide_eq_true (show s < s + 1 by omega))] at hd
    show wp_X12_byteAt _ σ (σ.1 4)
    rw [h4]
    refine tb_in ht hs ⟨fun q => absurd (by rw [h45]; rfl) q, fun _ => ⟨fun q => absurd q (by decide), fun _ => ?_⟩⟩
    rw [h4, nI_1]
    exact hd
  · have hd : bD (bf s) = true := by
      rcases hd with h | h
      · exact h
      · exact absurd h h45
    have h34 : ¬ bf s = 34 := by have := bD_t.mp hd; omega
    have e : tk bf z s = if s + rn bD bf (z - s) s < z ∧ bf (s + rn bD bf (z - s) s) = 46 then tkA bf s (rn bX bf (z - s) s) else tkN bf s s (rn bA bf (z - s) s) := by rw [tk, if_neg (by rw [hl]; decide), if_neg h34, if_neg h45, if_pos hd]
    have hwA : rnW bA bf z s (rn bA bf (z - s) s) := rn_w (z - s) s (by omega)
    have hwD : rnW bD bf z s (rn bD bf (z - s) s) := rn_w (z - s) s (by omega)
    have hwX : rnW bX bf z s (rn bX bf (z - s) s) := rn_w (z - s) s (by omega)
    have start : ∀ Q : rf_S → Prop, w_X12_readNumber_33 Q σ (fl (decide (s < s))) → wp_X12_readNumber Q σ := by
      intro Q hq
      rw [fl_f (decide_eq_false (Nat.lt_irrefl s))] at hq
      show wp_X12_byteAt _ σ (σ.1 4)
      rw [h4]
      exact tb_in ht hs ⟨fun _ => ⟨fun _ => hq, fun q => absurd rfl q⟩, fun q => absurd ((nI_eq (b := 45) (by omega) (by decide)).mp q) h45⟩
    by_cases ha : s + rn bD bf (z - s) s < z ∧ bf (s + rn bD bf (z - s) s) = 46
    · rw [e, if_pos ha]
      obtain ⟨σ', g1, g2, g3, g4⟩ := r_a14 hwX (rn bX bf (z - s) s) 0 (rf_ui σ 56 0) 0 (by omega) (ht.nx (nxF.rfl.ui (by omega))) (by rw [r1ui, if_neg (by decide)]; exact h4) (fun _ => ⟨rfl, by rw [r1ui, if_pos rfl]; rfl⟩)
      refine ⟨σ', (nxF.rfl.ui (by omega)).trans g1, rTk.f55 g3 (by rw [g2, r1ui, if_neg (by decide)]; exact h55), fun Q hQ => start Q ?_⟩
      exact dig σ s ht (by omega) h4 (Or.inl rfl) σ' (fun Q hQ => ⟨fun _ _ _ => ⟨_, g4 Q hQ⟩, fun q => absurd ⟨rfl, ha⟩ q⟩) Q hQ
    · rw [e, if_neg ha]
      obtain ⟨σ', g1, g2, g3⟩ := r_n81 (s := s) (d := s) ht hwA (by have := hwD.1; omega) (ag_rn hwA hwD) (Or.inl rfl) h4 h55
      refine ⟨σ', g1, g2, fun Q hQ => start Q ?_⟩
      exact dig σ s ht (by omega) h4 (Or.inl rfl) σ' (fun Q hQ => ⟨fun _ q1 q2 => absurd ⟨q1, q2⟩ ha, fun _ => g3 Q hQ⟩) Q hQ
/-- the reference holds the token at s -/
def rT (σ : rf_S) (z : Nat) (bf : Nat → Nat) (s : Nat) : Prop := rTk σ s (tK bf z s, (tk bf z s).2)
theorem r_next {p : Nat} (ht : tJ σ z bf) (h4 : σ.1 4 = nI p) (hp : p ≤ z) : ∃ σ', nxF σ σ' ∧ rT σ' z bf (sk bf z p) ∧ ∀ Q : rf_S → Prop, Q σ' → wp_X12_next Q σ := by
  have h2 := ht.2.1
  have main : ∀ r p (σ : rf_S), tJ σ z bf → σ.1 4 = nI p → p + r = sk bf z p → p ≤ z → ∃ σ', nxF σ σ' ∧ rT σ' z bf (sk bf z p) ∧ ∃ f, ∀ Q : rf_S → Prop, Q σ' → w_X12_next_0 Q f σ := by
    intro r
    induction r with
    | zero =>
      intro p σ ht h4 hsk hp
      have hsk : sk bf z p = p := by omega
      have hnb : p < z → bB (bf p) = false := fun h => by have := sk_o (bf := bf) hp (by omega); rw [hsk] at this; exact this
      rw [hsk]
      have ht5 : tJ (rf_ui σ 55 (nI p)) z bf := ht.nx (nxF.rfl.ui (by omega))
      have e4 : (rf_ui σ 55 (nI p)).1 4 = nI p := by rw [r1ui, if_neg (by decide)]; exact h4
      have e5 : (rf_ui σ 55 (nI p)).1 55 = nI p := by rw [r1ui, if_pos rfl]
      -- up to the token
      have pre : ∀ Q : rf_S → Prop, ((2000 ≤ p ∧ 2000 < z) → Q (rf_ui (rf_ui σ 55 (nI p)) 54 6)) → (¬ (2000 ≤ p ∧ 2000 < z) → w_X12_next_85 Q (rf_ui σ 55 (nI p)) (if p < z then nI (bf p) else -1)) → w_X12_next_0 Q 1 σ := by
        intro Q hbad hgo
        have last : ∀ c : Int32, c = (if p < z then nI (bf p) else -1) → ((((rf_ui σ 55 (nI p)).1 55) < 2000 → w_X12_next_85 Q (rf_ui σ 55 (nI p)) c) ∧ (¬ ((rf_ui σ 55 (nI p)).1 55) < 2000 → (((rf_ui σ 55 (nI p)).1 3) ≤ 2000 → w_X12_next_85 Q (rf_ui σ 55 (nI p)) c) ∧ (¬ ((rf_ui σ 55 (nI p)).1 3) ≤ 2000 → w_X12_next_149 Q (rf_ui (rf_ui σ 55 (nI p)) 54 6)))) := by
          intro c hc
          rw [hc, e5, ht5.1]
          refine ⟨fun q => hgo (fun w => nI_nlt (b := 2000) w.1 (by omega) q), fun q => ⟨fun q2 => hgo (fun w => nI_ge (a := 2000) w.2 (by omega) q2), fun q2 => hbad ⟨Nat.le_of_not_lt (fun w => q (nI_lt (b := 2000) w (by decide))), Nat.lt_of_not_le (fun w => q2 (nI_le (b := 2000) w (by decide)))⟩⟩⟩
        show wp_X12_byteAt _ σ (σ.1 4)
        rw [h4]
        by_cases hz : p < z
        · have hb := ht.2.2.1 _ hz
          have hn := hnb hz
          have n32 : ¬ nI (bf p) = 32 := fun w => by
            rw [bB, decide_eq_false_iff_not] at hn
            exact hn (Or.inl ((nI_eq (b := 32) (by omega) (by decide)).mp w))
          have n10 : ¬ nI (bf p) = 10 := fun w => by
            rw [bB, decide_eq_false_iff_not] at hn
            exact hn (Or.inr ((nI_eq (b := 10) (by omega) (by decide)).mp w))
          refine tb_in ht hz ⟨fun q => absurd q n32, fun _ => ?_⟩
          rw [h4]
          refine tb_in ht hz ⟨fun _ => ?_, fun q => absurd q n10⟩
          rw [h4]
          exact tb_in ht5 hz (last _ (by rw [if_pos hz]))
        · refine tb_out ht (by omega) (by omega) ⟨fun q => absurd q (by decide), fun _ => ?_⟩
          rw [h4]
          refine tb_out ht (by omega) (by omega) ⟨fun _ => ?_, fun q => absurd q (by decide)⟩
          rw [h4]
          exact tb_out ht5 (by omega) (by omega) (last _ (by rw [if_neg hz]))
      by_cases hbig : 2000 ≤ p ∧ 2000 < z
      · refine ⟨rf_ui (rf_ui σ 55 (nI p)) 54 6, (nxF.rfl.ui (by omega)).ui (by omega), ?_, 1, fun Q hQ => pre Q (fun _ => hQ) (fun q => absurd hbig q)⟩
        rw [rT, tK, if_pos hbig]
        exact ⟨by rw [r1ui, if_pos rfl]; rfl, by rw [r1ui, if_neg (by decide)]; exact e5, fun q => absurd q (by show ¬ 2 ≤ (0 : Nat); decide)⟩
      · by_cases hz : p < z
        · have hb := ht.2.2.1 _ hz
          have go : ∀ σ', nxF (rf_ui σ 55 (nI p)) σ' → rTk σ' p (tk bf z p) → (∀ Q : rf_S → Prop, Q σ' → w_X12_next_85 Q (rf_ui σ 55 (nI p)) (nI (bf p))) → ∃ σ', nxF σ σ' ∧ rT σ' z bf p ∧ ∃ f, ∀ Q : rf_S → Prop, Q σ' → w_X12_next_0 Q f σ := by
            intro σ' g1 g2 g3
            refine ⟨σ', (nxF.rfl.ui (by omega)).trans g1, ?_, 1, fun Q hQ => pre Q (fun q => absurd q hbig) (fun _ => by rw [if_pos hz]; exact g3 Q hQ)⟩
            rw [rT, tK, if_neg hbig, if_neg (by omega)]
            exact g2
          have h0 : (0 : Int32) ≤ nI (bf p) := nI_pos' (by omega)
          by_cases hl : bL (bf p) = true
          · obtain ⟨σ', g1, g2, g3⟩ := r_word ht5 hz hl e4 e5
            exact go σ' g1 g2 (fun Q hQ => ⟨fun _ => rb_L hb (fun _ => ⟨fun q => absurd q (by decide), fun _ => g3 Q hQ⟩) (fun q => by rw [hl] at q; cases q), fun q => absurd h0 q⟩)
          · have hl : bL (bf p) = false := b_ff.mpr hl
            by_cases hd : bD (bf p) = true ∨ bf p = 45
            · obtain ⟨σ', g1, g2, g3⟩ := r_num ht5 hz hl hd e4 e5
              refine go σ' g1 g2 (fun Q hQ => ⟨fun _ => rb_L hb (fun q => by rw [hl] at q; cases q) (fun _ => ⟨fun _ => rb_D hb (fun _ => ⟨fun _ => g3 Q hQ, fun q => absurd q (by decide)⟩) (fun hdf => ⟨fun q => absurd rfl q, fun _ => ⟨fun q => ?_, fun _ => g3 Q hQ⟩⟩), fun q => absurd rfl q⟩), fun q => absurd h0 q⟩)
              rcases hd with h | h
              · rw [hdf] at h; cases h
              · exact absurd (by rw [h]; rfl) q
            · have hdf : bD (bf p) = false := b_ff.mpr (fun w => hd (Or.inl w))
              have h45 : ¬ bf p = 45 := fun w => hd (Or.inr w)
              have n45 : ¬ nI (bf p) = 45 := fun w => h45 ((nI_eq (b := 45) (by omega) (by decide)).mp w)
              by_cases h34 : bf p = 34
              · obtain ⟨σ', g1, g2, g3⟩ := r_text ht5 hz hl h34 e4 e5
                exact go σ' g1 g2 (fun Q hQ => ⟨fun _ => rb_L hb (fun q => by rw [hl] at q; cases q) (fun _ => ⟨fun _ => rb_D hb (fun q => by rw [hdf] at q; cases q) (fun _ => ⟨fun q => absurd rfl q, fun _ => ⟨fun _ => ⟨fun q => absurd (by rw [h34]; rfl) q, fun _ => g3 Q hQ⟩, fun q => absurd q n45⟩⟩), fun q => absurd rfl q⟩), fun q => absurd h0 q⟩)
              · obtain ⟨σ', g1, g2, g3⟩ := r_sign ht5 hz hl h34 h45 hdf e4 e5
                exact go σ' g1 g2 (fun Q hQ => ⟨fun _ => rb_L hb (fun q => by rw [hl] at q; cases q) (fun _ => ⟨fun _ => rb_D hb (fun q => by rw [hdf] at q; cases q) (fun _ => ⟨fun q => absurd rfl q, fun _ => ⟨fun _ => ⟨fun _ => g3 Q hQ, fun q => absurd ((nI_eq (b := 34) (by omega) (by decide)).mp q) h34⟩, fun q => absurd q n45⟩⟩), fun q => absurd rfl q⟩), fun q => absurd h0 q⟩)
        · refine ⟨rf_ui (rf_ui σ 55 (nI p)) 54 0, (nxF.rfl.ui (by omega)).ui (by omega), ?_, 1, fun Q hQ => pre Q (fun q => absurd q hbig) (fun _ => by rw [if_neg hz]; exact ⟨fun q => absurd q (by decide), fun _ => hQ⟩)⟩
          rw [rT, tK, if_neg hbig, if_pos (by omega)]
          exact ⟨by rw [r1ui, if_pos rfl]; rfl, by rw [r1ui, if_neg (by decide)]; exact e5, fun q => absurd q (by show ¬ 2 ≤ (1 : Nat); decide)⟩
    | succ r ih =>
      intro p σ ht h4 hsk hp
      have hle := sk_le (bf := bf) hp
      have hz : p < z := by omega
      have hb : bB (bf p) = true := (rn_w (P := bB) (bf := bf) (z := z) (z - p) p (by omega)).2.1 0 (by rw [sk] at hsk; omega)
      have hb256 := ht.2.2.1 _ hz
      have e1 := sk_b hz hb
      obtain ⟨σ', g1, g2, f, g3⟩ := ih (p + 1) (rf_ui σ 4 (nI (p + 1))) (ht.nx (nxF.rfl.ui (by omega))) (by rw [r1ui, if_pos rfl]) (by omega) (by omega)
      refine ⟨σ', (nxF.rfl.ui (by omega)).trans g1, by rw [e1]; exact g2, f + 1, fun Q hQ => ?_⟩
      have hq := g3 Q hQ
      have w26 : w_X12_next_26 Q (w_X12_next_0 Q f) σ := by
        show w_X12_next_0 Q f (rf_ui σ 4 (σ.1 4 + 1))
        rw [h4, nI_1]; exact hq
      show wp_X12_byteAt _ σ (σ.1 4)
      rw [h4]
      refine tb_in ht hz ⟨fun _ => w26, fun n32 => ?_⟩
      rw [h4]
      refine tb_in ht hz ⟨fun n10 => ?_, fun _ => w26⟩
      rcases bB_t.mp hb with h | h
      · exact absurd (by rw [h]; rfl) n32
      · exact absurd (by rw [h]; rfl) n10
  have hle := sk_le (bf := bf) hp
  obtain ⟨σ', g1, g2, f, g3⟩ := main (sk bf z p - p) p σ ht h4 (by omega) hp
  exact ⟨σ', g1, g2, fun Q hQ => ⟨f, g3 Q hQ⟩⟩
end RN2
