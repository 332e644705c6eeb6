/-! ===== the class's scanner: addresses, any token ===== -/
theorem ad_b {bf : Nat → Nat} {s : Nat} : ∀ k, ((ad bf s k).2.2.2.2 = true → (ad bf s k).2.1 ≤ 255) ∧ (ad bf s k).2.2.1 ≤ k ∧ (ad bf s k).2.2.2.1 ≤ k := by
  intro k
  induction k with
  | zero => exact ⟨fun _ => Nat.zero_le _, Nat.le_refl _, Nat.le_refl _⟩
  | succ k ih =>
    obtain ⟨h1, h2, h3⟩ := ih
    by_cases hb : bf (s + k) = 46
    · have e : ad bf s (k + 1) = (((ad bf s k).1 <<< (8 &&& 31)) ||| (nI (ad bf s k).2.1 &&& 255), 0, 0, (ad bf s k).2.2.2.1 + 1, (ad bf s k).2.2.2.2 && decide (0 < (ad bf s k).2.2.1)) := by rw [ad, if_pos hb]
      rw [e]
      exact ⟨fun _ => Nat.zero_le _, Nat.zero_le _, Nat.succ_le_succ h3⟩
    · by_cases hg : (ad bf s k).2.2.2.2 = true ∧ bD (bf (s + k)) = true ∧ (ad bf s k).2.2.1 + 1 ≤ 3
      · have e : ad bf s (k + 1) = ((ad bf s k).1, 10 * (ad bf s k).2.1 + bf (s + k) - 48, (ad bf s k).2.2.1 + 1, (ad bf s k).2.2.2.1, decide (10 * (ad bf s k).2.1 + bf (s + k) - 48 ≤ 255)) := by rw [ad, if_neg hb, if_pos hg]
        rw [e]
        exact ⟨fun q => of_decide_eq_true q, Nat.succ_le_succ h2, Nat.le_succ_of_le h3⟩
      · have e : ad bf s (k + 1) = ((ad bf s k).1, 0, (ad bf s k).2.2.1 + 1, (ad bf s k).2.2.2.1, false) := by rw [ad, if_neg hb, if_neg hg]
        rw [e]
        exact ⟨fun q => (nomatch q), Nat.succ_le_succ h2, Nat.le_succ_of_le h3⟩
theorem nI_dg {p b : Nat} (h : 48 ≤ b) : ((10 * nI p) + nI b) - 48 = nI (10 * p + b - 48) := by
  obtain ⟨c, rfl⟩ : ∃ c, b = c + 48 := ⟨b - 48, by omega⟩
  rw [show (10 : Int32) = nI 10 from rfl, nI_mul, nI_add, show 10 * p + (c + 48) = 10 * p + c + 48 from by omega, ← nI_add _ 48]
  rw [show (48 : Int32) = nI 48 from rfl, Int32.add_sub_cancel, show 10 * p + c + 48 - 48 = 10 * p + c from by omega]
section CS3
variable {G : Nat → Nat} {S : cs_S} {sc tp z s n b : Nat} {bf : Nat → Nat} {post : Int32 → cs_S → Prop}
theorem c_a196 (hk : cs_k S sc = 10) (hn : n ≤ 2100) (hg : (ad bf s n).2.2.2.2 = true → (ad bf s n).2.2.2.1 = 3 → 0 < (ad bf s n).2.2.1 → wp_X8_put (fun S27 => post (nI (s + n)) S27) G S sc 5 (nI s) (adv bf s n).toInt64) (hb : ¬ ((ad bf s n).2.2.2.2 = true ∧ (ad bf s n).2.2.2.1 = 3 ∧ 0 < (ad bf s n).2.2.1) → post (-1) S) : w_X8_scanAddress_196 post G S sc (nI s) (nI (s + n)) (ad bf s n).1 (nI (ad bf s n).2.1) (nI (ad bf s n).2.2.1) (nI (ad bf s n).2.2.2.1) (fl (ad bf s n).2.2.2.2) := by
  obtain ⟨-, h2, h3⟩ := ad_b (bf := bf) (s := s) n
  refine ⟨fun hc => hb (fun q => ?_), fun hc => ⟨fun hc2 => hb (fun q => hc2 (by rw [q.2.1]; rfl)), fun hc2 => ⟨fun hc3 => ⟨hk, ?_⟩, fun hc3 => hb (fun q => ?_)⟩⟩⟩
  · rw [fl_t q.1] at hc; exact absurd hc (by decide)
  · refine hg (fl_1.mp hc) ((nI_eq (b := 3) (by omega) (by decide)).mp hc2) (Nat.pos_of_ne_zero (fun q => hc3 (by rw [q]; rfl)))
  · exact absurd hc3 (nI_ne0 q.2.2 (by omega))
theorem c_a16 (hJ : sJ S sc tp z bf) (hw : rnW bX bf z s n) (h196 : w_X8_scanAddress_196 post G S sc (nI s) (nI (s + n)) (ad bf s n).1 (nI (ad bf s n).2.1) (nI (ad bf s n).2.2.1) (nI (ad bf s n).2.2.2.1) (fl (ad bf s n).2.2.2.2)) : ∀ r k, k + r = n → w_X8_scanAddress_16 post G (r + 1) S sc (nI s) (nI (s + k)) (ad bf s k).1 (nI (ad bf s k).2.1) (nI (ad bf s k).2.2.1) (nI (ad bf s k).2.2.2.1) (fl (ad bf s k).2.2.2.2) := by
  obtain ⟨k1, k2, k3, k4, k5, k6, k7, k8⟩ := id hJ
  obtain ⟨w1, w2, w3⟩ := hw
  intro r
  induction r with
  | zero =>
    intro k hk
    have : k = n := by omega
    subst this
    by_cases hz : s + k < z
    · have hnb := w3 hz
      rw [bX, bA, Bool.or_eq_false_iff, Bool.or_eq_false_iff, decide_eq_false_iff_not] at hnb
      refine ⟨k1, fun hc => absurd hc (hJ.nle hz), fun _ r42 e42 => ⟨tp, e42.trans k3, k4, hJ.vi hz, ?_⟩⟩
      rw [hJ.oc hz]
      refine cb_L (k7 _ hz) (fun q => by rw [hnb.1.1] at q; cases q) (fun _ => ⟨fun hc => absurd rfl hc, fun _ => ⟨k1, fun r47 e47 => ⟨tp, e47.trans k3, k4, hJ.vi hz, ?_⟩⟩⟩)
      rw [hJ.oc hz]
      refine cb_D (k7 _ hz) (fun q => by rw [hnb.1.2] at q; cases q) (fun _ => ⟨fun hc => absurd rfl hc, fun _ => ⟨k1, fun r52 e52 => ⟨tp, e52.trans k3, k4, hJ.vi hz, fun _ => h196, fun hc => ?_⟩⟩⟩)
      rw [hJ.oc hz] at hc
      exact absurd ((nI_eq (b := 46) (by have := k7 _ hz; omega) (by decide)).mp hc) hnb.2
    · exact ⟨k1, fun _ => h196, fun hc => absurd (hJ.le (by omega) (by omega)) hc⟩
  | succ r ih =>
    intro k hk
    have hz : s + k < z := by omega
    have hX := w2 k (by omega)
    have hb256 := k7 _ hz
    have K := ih (k + 1) (by omega)
    obtain ⟨d1, d2, d3⟩ := ad_b (bf := bf) (s := s) k
    have body : w_X8_scanAddress_59 post G (w_X8_scanAddress_16 post G (r + 1)) S sc (nI s) (nI (s + k)) (ad bf s k).1 (nI (ad bf s k).2.1) (nI (ad bf s k).2.2.1) (nI (ad bf s k).2.2.2.1) (fl (ad bf s k).2.2.2.2) := by
      refine ⟨k1, fun r34 e34 => ⟨tp, e34.trans k3, k4, hJ.vi hz, ?_⟩⟩
      rw [hJ.oc hz]
      refine ⟨fun hc => ?_, fun hc => ?_⟩
      · have hc : ¬ bf (s + k) = 46 := fun e => hc (by rw [e]; rfl)
        -- what is no step of a good one
        have bad : ¬ ((ad bf s k).2.2.2.2 = true ∧ bD (bf (s + k)) = true ∧ (ad bf s k).2.2.1 + 1 ≤ 3) → w_X8_scanAddress_141 post G (w_X8_scanAddress_16 post G (r + 1)) S sc (nI s) (nI (s + k)) (ad bf s k).1 (nI (ad bf s k).2.1) (nI (ad bf s k).2.2.1 + 1) (nI (ad bf s k).2.2.2.1) := by
          intro hg
          have e : ad bf s (k + 1) = ((ad bf s k).1, 0, (ad bf s k).2.2.1 + 1, (ad bf s k).2.2.2.1, false) := by rw [ad, if_neg hc, if_neg hg]
          rw [e] at K
          refine ⟨fun _ => ⟨fun _ => ?_, fun q => absurd rfl q⟩, fun q => absurd rfl q⟩
          show w_X8_scanAddress_16 post G (r + 1) S sc (nI s) (nI (s + k) + 1) (ad bf s k).1 0 (nI (ad bf s k).2.2.1 + 1) (nI (ad bf s k).2.2.2.1) 0
          rw [nI_1, nI_1]; exact K
        refine ⟨fun q => bad (fun w => by rw [fl_t w.1] at q; exact absurd q (by decide)), fun q r37 e37 => ⟨tp, e37.trans k3, k4, hJ.vi hz, ?_⟩⟩
        have q := fl_1.mp q
        rw [hJ.oc hz]
        refine cb_D hb256 (fun hd => ⟨fun q => absurd q (by decide), fun _ => ⟨fun q3 => bad (fun w => ?_), fun q3 => ?_⟩⟩) (fun hd => ⟨fun _ => bad (fun w => by rw [hd] at w; exact nomatch w.2.1), fun q => absurd rfl q⟩)
        · rw [nI_1] at q3
          exact absurd q3 (nI_nlt (a := 3) w.2.2 (by decide))
        · have h3 : (ad bf s k).2.2.1 + 1 ≤ 3 := Nat.le_of_not_lt (fun w => q3 (by rw [nI_1]; exact nI_lt (a := 3) w (by omega)))
          have hg : (ad bf s k).2.2.2.2 = true ∧ bD (bf (s + k)) = true ∧ (ad bf s k).2.2.1 + 1 ≤ 3 := ⟨q, hd, h3⟩
          have e : ad bf s (k + 1) = ((ad bf s k).1, 10 * (ad bf s k).2.1 + bf (s + k) - 48, (ad bf s k).2.2.1 + 1, (ad bf s k).2.2.2.1, decide (10 * (ad bf s k).2.1 + bf (s + k) - 48 ≤ 255)) := by rw [ad, if_neg hc, if_pos hg]
          rw [e] at K
          have hp := d1 q
          have hd2 := bD_t.mp hd
          refine ⟨fun q => absurd q (by decide), fun _ => ⟨k1, fun r30 e30 => ⟨tp, e30.trans k3, k4, hJ.vi hz, ?_⟩⟩⟩
          rw [hJ.oc hz, nI_dg hd2.1]
          refine ⟨fun q => absurd q (by decide), fun _ => ⟨fun q4 => ?_, fun q4 => ?_⟩⟩
          · have q4 : ¬ 10 * (ad bf s k).2.1 + bf (s + k) - 48 ≤ 255 := fun w => nI_nlt (a := 255) w (by decide) q4
            show w_X8_scanAddress_16 post G (r + 1) S sc (nI s) (nI (s + k) + 1) (ad bf s k).1 _ (nI (ad bf s k).2.2.1 + 1) (nI (ad bf s k).2.2.2.1) 0
            have K2 : w_X8_scanAddress_16 post G (r + 1) S sc (nI s) (nI (s + (k + 1))) (ad bf s k).1 (nI (10 * (ad bf s k).2.1 + bf (s + k) - 48)) (nI ((ad bf s k).2.2.1 + 1)) (nI (ad bf s k).2.2.2.1) (fl (decide (10 * (ad bf s k).2.1 + bf (s + k) - 48 ≤ 255))) := K
            rw [fl_f (decide_eq_false q4)] at K2
            rw [nI_1, nI_1]; exact K2
          · have q4 : 10 * (ad bf s k).2.1 + bf (s + k) - 48 ≤ 255 := Nat.le_of_not_lt (fun w => q4 (nI_lt (a := 255) w (by omega)))
            show w_X8_scanAddress_16 post G (r + 1) S sc (nI s) (nI (s + k) + 1) (ad bf s k).1 _ (nI (ad bf s k).2.2.1 + 1) (nI (ad bf s k).2.2.2.1) 1
            have K2 : w_X8_scanAddress_16 post G (r + 1) S sc (nI s) (nI (s + (k + 1))) (ad bf s k).1 (nI (10 * (ad bf s k).2.1 + bf (s + k) - 48)) (nI ((ad bf s k).2.2.1 + 1)) (nI (ad bf s k).2.2.2.1) (fl (decide (10 * (ad bf s k).2.1 + bf (s + k) - 48 ≤ 255))) := K
            rw [fl_t (decide_eq_true q4)] at K2
            rw [nI_1, nI_1]; exact K2
      · have hc := (nI_eq (b := 46) (by omega) (by decide)).mp hc
        have e : ad bf s (k + 1) = (((ad bf s k).1 <<< (8 &&& 31)) ||| (nI (ad bf s k).2.1 &&& 255), 0, 0, (ad bf s k).2.2.2.1 + 1, (ad bf s k).2.2.2.2 && decide (0 < (ad bf s k).2.2.1)) := by rw [ad, if_pos hc]
        rw [e] at K
        have K2 : w_X8_scanAddress_16 post G (r + 1) S sc (nI s) (nI (s + (k + 1))) (((ad bf s k).1 <<< (8 &&& 31)) ||| (nI (ad bf s k).2.1 &&& 255)) 0 0 (nI ((ad bf s k).2.2.2.1 + 1)) (fl ((ad bf s k).2.2.2.2 && decide (0 < (ad bf s k).2.2.1))) := K
        have step : ∀ y, y = fl ((ad bf s k).2.2.2.2 && decide (0 < (ad bf s k).2.2.1)) → w_X8_scanAddress_85 post G (w_X8_scanAddress_16 post G (r + 1)) S sc (nI s) (nI (s + k)) (ad bf s k).1 (nI (ad bf s k).2.1) (nI (ad bf s k).2.2.2.1) y := by
          intro y hy
          show w_X8_scanAddress_16 post G (r + 1) S sc (nI s) (nI (s + k) + 1) (((ad bf s k).1 <<< (8 &&& 31)) ||| (nI (ad bf s k).2.1 &&& 255)) 0 0 (nI (ad bf s k).2.2.2.1 + 1) y
          rw [nI_1, nI_1, hy]; exact K2
        refine ⟨fun q => step 0 ?_, fun q => ⟨fun q2 => step 0 ?_, fun q2 => step 1 ?_⟩⟩
        · refine (fl_f ?_).symm
          cases h : (ad bf s k).2.2.2.2 with
          | false => rfl
          | true => rw [h] at q; exact absurd q (by decide)
        · refine (fl_f ?_).symm
          rw [Bool.and_eq_false_iff, decide_eq_false_iff_not]
          exact Or.inr (fun w => nI_nle w (by omega) q2)
        · refine (fl_t ?_).symm
          rw [fl_1.mp q, Bool.true_and, decide_eq_true_eq]
          exact Nat.pos_of_ne_zero (fun w => q2 (by rw [w]; decide))
    refine ⟨k1, fun hc => absurd hc (hJ.nle hz), fun _ r42 e42 => ⟨tp, e42.trans k3, k4, hJ.vi hz, ?_⟩⟩
    rw [hJ.oc hz]
    refine cb_L hb256 (fun _ => ⟨fun _ => body, fun hc => absurd hc (by decide)⟩) (fun hl => ⟨fun hc => absurd rfl hc, fun _ => ⟨k1, fun r47 e47 => ⟨tp, e47.trans k3, k4, hJ.vi hz, ?_⟩⟩⟩)
    rw [hJ.oc hz]
    refine cb_D hb256 (fun _ => ⟨fun _ => body, fun hc => absurd hc (by decide)⟩) (fun hd => ⟨fun hc => absurd rfl hc, fun _ => ⟨k1, fun r52 e52 => ⟨tp, e52.trans k3, k4, hJ.vi hz, fun hc => ?_, fun _ => body⟩⟩⟩)
    rw [hJ.oc hz] at hc
    rw [bX, bA, hl, hd, Bool.or_self, Bool.false_or, decide_eq_true_eq] at hX
    exact absurd (by rw [hX]; rfl) hc
theorem wkl_ge (A : Int64) : ∀ k, 2 ≤ wkl A k := by
  intro k
  induction k with
  | zero => exact Nat.le_refl _
  | succ k ih =>
    rw [wkl]
    split
    · omega
    · exact ih
theorem c_token {rv : Nat} (hJ : sJ S sc tp z bf) (hs : s < z) (hr : cs_r S 903 sc = some rv) (hv : cs_k S rv = 21) (hn : cs_n S rv = 20) (hw : ∀ j, cs_al S rv j = cw_row j) (hg : ¬ (tk bf z s).1 = 0 → wp_X8_put (fun S1 => post (nI (tk bf z s).2.1) S1) G S sc (nI (tk bf z s).1) (nI s) (tk bf z s).2.2.1) (hb : (tk bf z s).1 = 0 → post (-1) S) : wp_X8_scanToken post G S sc (nI s) := by
  obtain ⟨k1, k2, k3, k4, k5, k6, k7, k8⟩ := id hJ
  have hb256 := k7 _ hs
  have hwA : rnW bA bf z s (rn bA bf (z - s) s) := rn_w (z - s) s (by omega)
  have hwA1 : rnW bA bf z (s + 1) (rn bA bf (z - (s + 1)) (s + 1)) := rn_w (z - (s + 1)) (s + 1) (by omega)
  have num : ∀ d n, (d = s ∨ d = s + 1) → rnW bA bf z d n → tk bf z s = tkN bf s d n → wp_X8_scanNumber post G S sc (nI s) (nI d) := by
    intro d n hd hwn e
    rw [e, tkN] at hg hb
    refine ⟨n + 1, c_n8 hJ hwn (fun x4 hx4 => c_n92 hd (by have := hwn.1; omega) k1 hx4 (fun q1 q2 q3 q4 q5 => ?_) (fun q => hb (by rw [if_neg q]))) n 0 0 (by omega) (fun _ _ => rfl)⟩
    rw [if_pos ⟨q1, q2, q3, q4, q5⟩] at hg
    exact hg (show ¬ (3 : Nat) = 0 by decide)
  refine ⟨k1, co_in hJ hs (cb_L hb256 (fun hl => ⟨fun hc => absurd hc (by decide), fun _ => ⟨k1, ?_⟩⟩) (fun hl => ⟨fun _ => ⟨fun h34 => ⟨fun h45 => cb_D hb256 (fun hd => ⟨fun hc => absurd hc (by decide), fun _ => ?_⟩) (fun hd => ⟨fun _ => ⟨k1, ?_⟩, fun hc => absurd rfl hc⟩), fun h45 => ⟨k1, ?_⟩⟩, fun h34 => ⟨k1, ?_⟩⟩, fun hc => absurd rfl hc⟩))⟩
  · -- a word
    have e : tk bf z s = tkW bf s (rn bA bf (z - s) s) := by rw [tk, if_pos hl]
    rw [e, tkW] at hg hb
    refine ⟨rn bA bf (z - s) s + 1, c_w7 hJ hwA (fun q1 q2 => ?_) (fun q => hb (by rw [if_neg q])) _ 0 0 (by omega) (fun _ _ => rfl)⟩
    rw [if_pos ⟨q1, q2⟩] at hg
    exact ⟨21, c_w98 k1 hr hv hn hw (hg (by have := wkl_ge (Int64.ofNat (dg 5 12 (lf bf s) (rn bA bf (z - s) s))) 20; show ¬ wkl _ 20 = 0; omega)) 20 0 rfl⟩
  · -- digits
    have hlf : ¬ bL (bf s) = true := by rw [hl]; decide
    have h34 : ¬ bf s = 34 := fun e => h34 (by rw [e]; rfl)
    have h45 : ¬ bf s = 45 := fun e => h45 (by rw [e]; rfl)
    have hwD : rnW bD bf z s (rn bD bf (z - s) s) := rn_w (z - s) s (by omega)
    have e : tk bf z s = if s + rn bD bf (z - s) s < z ∧ bf (s + rn bD bf (z - s) s) = 46 then tkA bf s (rn bX bf (z - s) s) else tkN bf s s (rn bA bf (z - s) s) := by rw [tk, if_neg hlf, if_neg h34, if_neg h45, if_pos hd]
    have w81 : w_X8_scanToken_81 post G S sc (nI s) (nI (s + rn bD bf (z - s) s)) := by
      refine ⟨k1, ?_⟩
      by_cases hz : s + rn bD bf (z - s) s < z
      · refine co_in hJ hz ⟨fun hc => ⟨k1, num s _ (Or.inl rfl) hwA ?_⟩, fun hc => ⟨k1, ?_⟩⟩
        · rw [e, if_neg (fun q => hc (by rw [q.2]; rfl))]
        · have hc := (nI_eq (b := 46) (by have := k7 _ hz; omega) (by decide)).mp hc
          rw [e, if_pos ⟨hz, hc⟩, tkA] at hg hb
          have hwX : rnW bX bf z s (rn bX bf (z - s) s) := rn_w (z - s) s (by omega)
          refine ⟨rn bX bf (z - s) s + 1, c_a16 hJ hwX (c_a196 k1 (by have := hwX.1; omega) (fun q1 q2 q3 => ?_) (fun q => hb (by rw [if_neg q]))) _ 0 (by omega)⟩
          rw [if_pos ⟨q1, q2, q3⟩] at hg
          exact hg (show ¬ (5 : Nat) = 0 by decide)
      · refine co_out hJ (by omega) (by have := hwD.1; omega) ⟨fun _ => ⟨k1, num s _ (Or.inl rfl) hwA ?_⟩, fun hc => absurd hc (by decide)⟩
        rw [e, if_neg (fun q => hz q.1)]
    have loop : ∀ r j, j + r = rn bD bf (z - s) s → w_X8_scanToken_55 post G (r + 1) S sc (nI s) (nI (s + j)) := by
      intro r
      induction r with
      | zero =>
        intro j hj
        have hj : j = rn bD bf (z - s) s := by omega
        by_cases hz : s + j < z
        · refine ⟨k1, fun hc => absurd hc (hJ.nle hz), fun _ r30 e30 => ⟨tp, e30.trans k3, k4, hJ.vi hz, ?_⟩⟩
          rw [hJ.oc hz]
          refine cb_D (k7 _ hz) (fun q => ?_) (fun _ => ⟨fun _ => by rw [hj]; exact w81, fun hc => absurd rfl hc⟩)
          rw [hj, hwD.2.2 (by rw [← hj]; exact hz)] at q
          cases q
        · exact ⟨k1, fun _ => by rw [hj]; exact w81, fun hc => absurd (hJ.le (by omega) (by have := hwD.1; omega)) hc⟩
      | succ r ih =>
        intro j hj
        have hz : s + j < z := by have := hwD.1; omega
        refine ⟨k1, fun hc => absurd hc (hJ.nle hz), fun _ r30 e30 => ⟨tp, e30.trans k3, k4, hJ.vi hz, ?_⟩⟩
        rw [hJ.oc hz]
        refine cb_D (k7 _ hz) (fun _ => ⟨fun hc => absurd hc (by decide), fun _ => ?_⟩) (fun q => ?_)
        · rw [nI_1, show s + j + 1 = s + (j + 1) from by omega]
          exact ih (j + 1) (by omega)
        · rw [hwD.2.1 j (by omega)] at q
          cases q
    exact ⟨_, loop (rn bD bf (z - s) s) 0 (by omega)⟩
  · -- a sign
    have hlf : ¬ bL (bf s) = true := by rw [hl]; decide
    have hdf : ¬ bD (bf s) = true := by rw [hd]; decide
    have h34 : ¬ bf s = 34 := fun e => h34 (by rw [e]; rfl)
    have h45 : ¬ bf s = 45 := fun e => h45 (by rw [e]; rfl)
    have e : tk bf z s = tkG bf z s := by rw [tk, if_neg hlf, if_neg h34, if_neg h45, if_neg hdf]
    rw [e] at hg hb
    refine ⟨k1, ?_⟩
    rw [nI_1]
    have s17 := c_s17 (G := G) (S := S) (sc := sc) (s := s) (b := bf s) (post := post) (e := decide (s + 1 < z ∧ bf (s + 1) = 61)) k1 hb256 hg hb
    by_cases hz : s + 1 < z
    · refine co_in hJ hz ⟨fun hc => ?_, fun hc => ?_⟩
      · rw [fl_f (decide_eq_false (fun q => hc (by rw [q.2]; rfl)))] at s17
        exact s17
      · have hc := (nI_eq (b := 61) (by have := k7 _ hz; omega) (by decide)).mp hc
        rw [fl_t (decide_eq_true ⟨hz, hc⟩)] at s17
        exact s17
    · refine co_out hJ (by omega) (by omega) ⟨fun _ => ?_, fun hc => absurd hc (by decide)⟩
      rw [fl_f (decide_eq_false (fun q => hz q.1))] at s17
      exact s17
  · -- minus
    have hlf : ¬ bL (bf s) = true := by rw [hl]; decide
    have h34 : ¬ bf s = 34 := fun e => h34 (by rw [e]; rfl)
    have h45 : bf s = 45 := (nI_eq (b := 45) (by omega) (by decide)).mp h45
    rw [nI_1]
    exact num (s + 1) _ (Or.inr rfl) hwA1 (by rw [tk, if_neg hlf, if_neg h34, if_pos h45])
  · -- a text
    have hlf : ¬ bL (bf s) = true := by rw [hl]; decide
    have h34 : bf s = 34 := (nI_eq (b := 34) (by omega) (by decide)).mp h34
    have hwP : rnW bP bf z (s + 1) (rn bP bf (z - (s + 1)) (s + 1)) := rn_w (z - (s + 1)) (s + 1) (by omega)
    have e : tk bf z s = tkQ bf z s (rn bP bf (z - (s + 1)) (s + 1)) := by rw [tk, if_neg hlf, if_pos h34]
    rw [e, tkQ] at hg hb
    refine ⟨min (rn bP bf (z - (s + 1)) (s + 1)) 24 + 1, ?_⟩
    have := c_q4 (G := G) (post := post) hJ hs hwP (fun q1 q2 q3 => by rw [if_pos ⟨q1, q2, q3⟩] at hg; exact hg (show ¬ (4 : Nat) = 0 by decide)) (fun q => hb (by rw [if_neg q])) (min (rn bP bf (z - (s + 1)) (s + 1)) 24) 0 (Nat.zero_add _)
    rw [nI_1]
    exact this
end CS3
