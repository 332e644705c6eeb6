/-! ===== the class's scanner: numbers, texts, signs ===== -/
theorem i64_dig {a b : Nat} (h : 48 ≤ b) (hb : b < 2 ^ 31) : ((10 * Int64.ofNat a) + (nI b).toInt64) - 48 = Int64.ofNat (10 * a + (b - 48)) := by
  have e1 : (nI b).toInt64 = Int64.ofNat (b - 48) + 48 := by
    rw [show (nI b).toInt64 = Int64.ofNat b from i32_64 b hb, show (48 : Int64) = Int64.ofNat 48 from rfl, ← Int64.ofNat_add, show b - 48 + 48 = b from by omega]
  rw [e1, ← Int64.add_assoc, Int64.add_sub_cancel, show (10 : Int64) = Int64.ofNat 10 from rfl, ← Int64.ofNat_mul, ← Int64.ofNat_add]
theorem i64_fit {v : Int} (h1 : -10000000000 ≤ v) (h2 : v ≤ 10000000000) : lg_cmp (Int64.ofInt v) (Int64.ofInt v).toInt32.toInt64 = 0 ↔ -2147483648 ≤ v ∧ v ≤ 2147483647 := by
  rw [lg_eq, ← Int64.toInt_inj, Int32.toInt_toInt64, Int64.toInt_toInt32, i64_ofInt (by omega) (by omega)]
  rw [Int.bmod_def]
  constructor
  · intro h
    split at h <;> omega
  · rintro ⟨h3, h4⟩
    split <;> omega
section CS2
variable {G : Nat → Nat} {S : cs_S} {sc tp z s n b d : Nat} {bf : Nat → Nat} {post : Int32 → cs_S → Prop}
/-- what becomes of a number behind its last byte -/
theorem c_n92 (hsd : d = s ∨ d = s + 1) (hd : d + n ≤ 2100) {x4 : Int64} (hk : cs_k S sc = 10) (hdv : ag bf d n = true → n ≤ 10 → x4 = Int64.ofNat (dv bf d n)) (hg : ag bf d n = true → 1 ≤ n → n ≤ 10 → -2147483648 ≤ nvl bf s d n → nvl bf s d n ≤ 2147483647 → wp_X8_put (fun S21 => post (nI (d + n)) S21) G S sc 3 (nI s) (Int64.ofInt (nvl bf s d n))) (hb : ¬ (ag bf d n = true ∧ 1 ≤ n ∧ n ≤ 10 ∧ -2147483648 ≤ nvl bf s d n ∧ nvl bf s d n ≤ 2147483647) → post (-1) S) : w_X8_scanNumber_92 post G S sc (nI s) (nI d) (nI (d + n)) x4 (fl (ag bf d n && decide (n ≤ 10))) := by
  have key : ∀ y4 : Int64, (ag bf d n = true → n ≤ 10 → y4 = Int64.ofInt (nvl bf s d n)) → w_X8_scanNumber_102 post G S sc (nI s) (nI d) (nI (d + n)) y4 (fl (ag bf d n && decide (n ≤ 10))) := by
    intro y4 hy
    refine ⟨fun hc => ?_, fun hc => ⟨fun hc2 => ?_, fun hc2 => ?_⟩⟩
    · refine hb (fun q => ?_)
      rw [q.1, Bool.true_and, decide_eq_true q.2.2.1] at hc
      exact absurd hc (by decide)
    · refine hb (fun q => ?_)
      have := (nI_eq (by omega) (by omega)).mp hc2
      omega
    · rw [fl_1, Bool.and_eq_true, decide_eq_true_eq] at hc
      have hn1 : 1 ≤ n := by
        rcases Nat.eq_zero_or_pos n with h | h
        · exact absurd (by rw [h]; rfl) hc2
        · exact h
      have hlt : dv bf d n < 10 ^ n := dv_lt n (fun i hi => (bD_t.mp ((ag_t n).mp hc.1 i hi)).2)
      have hle : (10 : Nat) ^ n ≤ 10 ^ 10 := Nat.pow_le_pow_right (by decide) hc.2
      have hr : -10000000000 ≤ nvl bf s d n ∧ nvl bf s d n ≤ 10000000000 := by
        have e10 : (10 : Nat) ^ 10 = 10000000000 := by decide
        unfold nvl
        split <;> omega
      rw [hy hc.1 hc.2]
      refine ⟨fun hc3 => ?_, fun hc3 => ?_⟩
      · obtain ⟨h3, h4⟩ := (i64_fit hr.1 hr.2).mp hc3
        exact ⟨hk, hg hc.1 hn1 hc.2 h3 h4⟩
      · exact hb (fun q => hc3 ((i64_fit hr.1 hr.2).mpr ⟨q.2.2.2.1, q.2.2.2.2⟩))
  refine ⟨fun hc => key x4 (fun q1 q2 => ?_), fun hc => key (-x4) (fun q1 q2 => ?_)⟩
  · rw [hdv q1 q2, nvl, if_neg (fun q => nI_ge q (by omega) hc), Int64.ofInt_eq_ofNat]
  · rw [hdv q1 q2, nvl, if_pos (Nat.lt_of_not_le (fun q => hc (nI_le q (by omega)))), Int64.ofInt_neg, Int64.ofInt_eq_ofNat]
theorem c_n8 (hJ : sJ S sc tp z bf) (hw : rnW bA bf z d n) (h92 : ∀ x4, (ag bf d n = true → n ≤ 10 → x4 = Int64.ofNat (dv bf d n)) → w_X8_scanNumber_92 post G S sc (nI s) (nI d) (nI (d + n)) x4 (fl (ag bf d n && decide (n ≤ 10)))) : ∀ r j x4, j + r = n → (ag bf d j = true → j ≤ 10 → x4 = Int64.ofNat (dv bf d j)) → w_X8_scanNumber_8 post G (r + 1) S sc (nI s) (nI d) (nI (d + j)) x4 (fl (ag bf d j && decide (j ≤ 10))) := by
  obtain ⟨k1, k2, k3, k4, k5, k6, k7, k8⟩ := id hJ
  obtain ⟨w1, w2, w3⟩ := hw
  intro r
  induction r with
  | zero =>
    intro j x4 hj hx
    have : j = n := by omega
    subst this
    have fin := h92 x4 hx
    by_cases hz : d + j < z
    · have hnb := w3 hz
      rw [bA, Bool.or_eq_false_iff] at hnb
      refine ⟨k1, fun hc => absurd hc (hJ.nle hz), fun _ r42 e42 => ⟨tp, e42.trans k3, k4, hJ.vi hz, ?_⟩⟩
      rw [hJ.oc hz]
      refine cb_L (k7 _ hz) (fun q => by rw [hnb.1] at q; cases q) (fun _ => ⟨fun hc => absurd rfl hc, fun _ => ⟨k1, fun r47 e47 => ⟨tp, e47.trans k3, k4, hJ.vi hz, ?_⟩⟩⟩)
      rw [hJ.oc hz]
      exact cb_D (k7 _ hz) (fun q => by rw [hnb.2] at q; cases q) (fun _ => ⟨fun _ => fin, fun hc => absurd rfl hc⟩)
    · exact ⟨k1, fun _ => fin, fun hc => absurd (hJ.le (by omega) (by omega)) hc⟩
  | succ r ih =>
    intro j x4 hj hx
    have hz : d + j < z := by omega
    have hA := w2 j (by omega)
    have body : w_X8_scanNumber_40 post G (w_X8_scanNumber_8 post G (r + 1)) S sc (nI s) (nI d) (nI (d + j)) x4 (fl (ag bf d j && decide (j ≤ 10))) := by
      refine ⟨k1, fun r32 e32 => ⟨tp, e32.trans k3, k4, hJ.vi hz, ?_⟩⟩
      rw [hJ.oc hz]
      have bad : (bD (bf (d + j)) = false ∨ 10 ≤ j) → w_X8_scanNumber_83 post G (w_X8_scanNumber_8 post G (r + 1)) S sc (nI s) (nI d) (nI (d + j)) x4 := by
        intro hbad
        show w_X8_scanNumber_8 post G (r + 1) S sc (nI s) (nI d) (nI (d + j) + 1) x4 0
        have h9 : (ag bf d (j + 1) && decide (j + 1 ≤ 10)) = false := by
          rw [ag, Bool.and_eq_false_iff, Bool.and_eq_false_iff, decide_eq_false_iff_not]
          rcases hbad with h | h
          · exact Or.inl (Or.inr h)
          · exact Or.inr (by omega)
        have h8 := ih (j + 1) x4 (by omega) (fun q1 q2 => by
          rw [q1, Bool.true_and, decide_eq_false_iff_not] at h9
          exact absurd q2 h9)
        rw [fl_f h9] at h8
        rw [nI_1, show d + j + 1 = d + (j + 1) from by omega]
        exact h8
      refine cb_D (k7 _ hz) (fun hl => ⟨fun hc => absurd hc (by decide), fun _ => ⟨fun hc => ?_, fun hc => ⟨k1, fun r37 e37 => ⟨tp, e37.trans k3, k4, hJ.vi hz, ?_⟩⟩⟩⟩) (fun hl => ⟨fun _ => bad (Or.inl hl), fun hc => absurd rfl hc⟩)
      · rw [nI_sb] at hc
        exact bad (Or.inr ((nI_leI (a := 10) (b := j) (by decide) (by omega)).mp hc))
      · rw [nI_sb] at hc
        have hj8 : j < 10 := Nat.lt_of_not_le (fun q => hc (nI_le (a := 10) q (by omega)))
        show w_X8_scanNumber_8 post G (r + 1) S sc (nI s) (nI d) (nI (d + j) + 1) (((10 * x4) + ((cs_ai S tp (nI (d + j)).toNatClampNeg).toInt64)) - 48) _
        have e9 : (ag bf d j && decide (j ≤ 10)) = (ag bf d (j + 1) && decide (j + 1 ≤ 10)) := by
          rw [ag, hl, Bool.and_true, decide_eq_true (show j ≤ 10 by omega), decide_eq_true (show j + 1 ≤ 10 by omega)]
        rw [e9, nI_1, show d + j + 1 = d + (j + 1) from by omega, hJ.oc hz]
        refine ih (j + 1) _ (by omega) (fun q1 q2 => ?_)
        have hl2 := bD_t.mp hl
        rw [ag, Bool.and_eq_true] at q1
        rw [hx q1.1 (by omega), i64_dig hl2.1 (by omega), dv]
    refine ⟨k1, fun hc => absurd hc (hJ.nle hz), fun _ r42 e42 => ⟨tp, e42.trans k3, k4, hJ.vi hz, ?_⟩⟩
    rw [hJ.oc hz]
    refine cb_L (k7 _ hz) (fun _ => ⟨fun _ => body, fun hc => absurd hc (by decide)⟩) (fun hl => ⟨fun hc => absurd rfl hc, fun _ => ⟨k1, fun r47 e47 => ⟨tp, e47.trans k3, k4, hJ.vi hz, ?_⟩⟩⟩)
    rw [hJ.oc hz]
    refine cb_D (k7 _ hz) (fun _ => ⟨fun hc => absurd hc (by decide), fun _ => body⟩) (fun hd => ?_)
    rw [bA, hl, hd] at hA
    cases hA
/-- a text -/
theorem c_q4 (hJ : sJ S sc tp z bf) (hs : s < z) (hw : rnW bP bf z (s + 1) n) (hg : s + 1 + n < z → bf (s + 1 + n) = 34 → n ≤ 24 → wp_X8_put (fun S15 => post (nI (s + n + 2)) S15) G S sc 4 (nI s) (Int64.ofNat n)) (hb : ¬ (s + 1 + n < z ∧ bf (s + 1 + n) = 34 ∧ n ≤ 24) → post (-1) S) : ∀ r j, j + r = min n 24 → w_X8_scanQuoted_4 post G (r + 1) S sc (nI s) (nI (s + 1 + j)) := by
  obtain ⟨k1, k2, k3, k4, k5, k6, k7, k8⟩ := id hJ
  obtain ⟨w1, w2, w3⟩ := hw
  have fin : ∀ j, j = min n 24 → w_X8_scanQuoted_49 post G S sc (nI s) (nI (s + 1 + j)) := by
    intro j hj
    refine ⟨k1, ?_⟩
    by_cases hz : s + 1 + j < z
    · refine co_in hJ hz ⟨fun hc => ?_, fun hc => ?_⟩
      · have hc := (nI_eq (b := 34) (by have := k7 _ hz; omega) (by decide)).mp hc
        by_cases hn : n ≤ 24
        · have : j = n := by omega
          subst this
          refine ⟨k1, ?_⟩
          have e1 : ((nI (s + 1 + j) - nI s) - 1).toInt64 = Int64.ofNat j := by
            rw [show s + 1 + j = s + (j + 1) from by omega, nI_sb, nI_pred, show (nI j).toInt64 = Int64.ofNat j from i32_64 j (by omega)]
          have e2 : nI (s + 1 + j) + 1 = nI (s + j + 2) := by rw [nI_1]; congr 1; omega
          rw [e1, e2]
          exact hg hz hc hn
        · have h9 := bP_t.mp (w2 j (by omega))
          omega
      · exact hb (fun q => hc (by
          have : j = n := by omega
          rw [this, q.2.1]; rfl))
    · exact co_out hJ (by omega) (by omega) ⟨fun hc => absurd hc (by decide), fun _ => hb (fun q => by omega)⟩
  intro r
  induction r with
  | zero =>
    intro j hj
    have hjm : j = min n 24 := by omega
    by_cases hz : s + 1 + j < z
    · refine ⟨k1, fun hc => absurd hc (hJ.nle hz), fun _ => ⟨fun _ => fin j hjm, fun hc r18 e18 => ⟨tp, e18.trans k3, k4, hJ.vi hz, ?_⟩⟩⟩
      rw [show s + 1 + j = s + (j + 1) from by omega, nI_sb] at hc
      have hj24 : j < 24 := Nat.lt_of_not_le (fun q => hc (nI_lt (a := 24) (by omega) (by omega)))
      have hjn : j = n := by omega
      have hnp := w3 (by rw [← hjn]; exact hz)
      rw [← hjn] at hnp
      rw [hJ.oc hz]
      refine cb_P (k7 _ hz) (fun q1 q2 => ⟨fun hc => absurd hc (by decide), fun _ => ⟨k1, fun r23 e23 => ⟨tp, e23.trans k3, k4, hJ.vi hz, fun _ => fin j hjm, fun hc2 => ?_⟩⟩⟩) (fun _ => ⟨fun _ => fin j hjm, fun hc => absurd rfl hc⟩)
      rw [hJ.oc hz] at hc2
      have : bP (bf (s + 1 + j)) = true := bP_t.mpr ⟨q1, q2, fun e => hc2 (by rw [e]; rfl)⟩
      rw [hnp] at this
      cases this
    · exact ⟨k1, fun _ => fin j hjm, fun hc => absurd (hJ.le (by omega) (by omega)) hc⟩
  | succ r ih =>
    intro j hj
    have hz : s + 1 + j < z := by omega
    have hP := bP_t.mp (w2 j (by omega))
    refine ⟨k1, fun hc => absurd hc (hJ.nle hz), fun _ => ⟨fun hc => ?_, fun _ r18 e18 => ⟨tp, e18.trans k3, k4, hJ.vi hz, ?_⟩⟩⟩
    · rw [show s + 1 + j = s + (j + 1) from by omega, nI_sb] at hc
      exact absurd hc (nI_nlt (a := 24) (b := j + 1) (by omega) (by decide))
    · rw [hJ.oc hz]
      refine cb_P (k7 _ hz) (fun q1 q2 => ⟨fun hc => absurd hc (by decide), fun _ => ⟨k1, fun r23 e23 => ⟨tp, e23.trans k3, k4, hJ.vi hz, fun hc2 => ?_, fun _ => ?_⟩⟩⟩) (fun q => absurd ⟨hP.1, hP.2.1⟩ q)
      · rw [hJ.oc hz] at hc2
        exact absurd ((nI_eq (b := 34) (by omega) (by decide)).mp hc2) hP.2.2
      · rw [nI_1, show s + 1 + j + 1 = s + 1 + (j + 1) from by omega]
        exact ih (j + 1) (by omega)
/-- a sign -/
theorem c_s274 {K L : Nat} (hk : cs_k S sc = 10) (hK : K < 100) (hg : ¬ K = 0 → wp_X8_put (fun S5 => post (nI (s + L)) S5) G S sc (nI K) (nI s) 0) (hb : K = 0 → post (-1) S) : w_X8_scanSign_274 post G S sc (nI s) (nI K) (nI L) := by
  refine ⟨fun hc => ⟨hk, ?_⟩, fun hc => hb ((nI_eq (b := 0) (by omega) (by decide)).mp hc)⟩
  rw [nI_add]
  exact hg (fun e => hc (by rw [e]; rfl))
theorem c_s17 {e : Bool} (hk : cs_k S sc = 10) (hb256 : b < 256) (hg : ¬ sgK b e = 0 → wp_X8_put (fun S5 => post (nI (s + (if sg2 b e = true then 2 else 1))) S5) G S sc (nI (sgK b e)) (nI s) 0) (hb : sgK b e = 0 → post (-1) S) : w_X8_scanSign_17 post G S sc (nI s) (nI b) (fl e) := by
  have eb : (nI b).toInt = (b : Int) := nI_toInt (by omega)
  have key : ∀ K L : Nat, sgK b e = K → (¬ K = 0 → (if sg2 b e = true then 2 else 1) = L) → K < 100 → w_X8_scanSign_274 post G S sc (nI s) (nI K) (nI L) := by
    intro K L h1 h2 h3
    refine c_s274 hk h3 (fun q => ?_) (fun q => hb (h1.trans q))
    have := hg (fun w => q (h1.symm.trans w))
    rw [h1, h2 q] at this
    exact this
  refine ⟨fun hq => ?_, fun hq => ?_, fun hq => ?_, fun hq => ?_, fun hq => ?_, fun hq => ?_, fun hq => ?_, fun hq => ?_, fun hq => ?_, fun hq => ?_, fun hq => ?_, fun hq => ?_, fun hq => ?_, fun hq => ?_, fun hq => ?_, fun hq => ?_, fun hq => ?_, fun hq => ?_, fun hq => ?_, fun hq => ?_, fun hq => ?_, fun hq => ?_, fun hq => ?_, fun hq => ?_, fun hq => ?_, fun hq => ?_, fun hq => ?_, fun hq => ?_, fun hq => ?_, fun hq => ?_, fun hq => ?_⟩
  · rw [eb] at hq
    refine key 0 1 ?_ (fun q => absurd rfl q) (by decide)
    unfold sgK
    rw [if_neg (by omega), if_neg (by omega), if_neg (by omega), if_neg (by omega), if_neg (by omega), if_neg (by omega), if_neg (by omega), if_neg (by omega), if_neg (by omega)]
  · rw [eb] at hq
    have hq : b = 33 := by omega
    subst hq
    refine ⟨fun q => ?_, fun q => ?_⟩
    · have q : e = false := b_ff.mpr (fun w => by rw [fl_t w] at q; exact absurd q (by decide))
      exact key 0 2 (by simp [sgK, q]) (fun w => absurd rfl w) (by decide)
    · have q := fl_1.mp q
      exact key 12 2 (by simp [sgK, q]) (fun _ => by simp [sg2, q]) (by decide)
  · rw [eb] at hq
    have hq : b = 34 := by omega
    subst hq
    exact key 0 1 (by simp [sgK]) (fun q => absurd rfl q) (by decide)
  · rw [eb] at hq
    have hq : b = 35 := by omega
    subst hq
    exact key 0 1 (by simp [sgK]) (fun q => absurd rfl q) (by decide)
  · rw [eb] at hq
    have hq : b = 36 := by omega
    subst hq
    exact key 0 1 (by simp [sgK]) (fun q => absurd rfl q) (by decide)
  · rw [eb] at hq
    have hq : b = 37 := by omega
    subst hq
    exact key 0 1 (by simp [sgK]) (fun q => absurd rfl q) (by decide)
  · rw [eb] at hq
    have hq : b = 38 := by omega
    subst hq
    exact key 0 1 (by simp [sgK]) (fun q => absurd rfl q) (by decide)
  · rw [eb] at hq
    have hq : b = 39 := by omega
    subst hq
    exact key 0 1 (by simp [sgK]) (fun q => absurd rfl q) (by decide)
  · rw [eb] at hq
    have hq : b = 40 := by omega
    subst hq
    exact key 6 1 (by simp [sgK]) (fun _ => by simp [sg2]) (by decide)
  · rw [eb] at hq
    have hq : b = 41 := by omega
    subst hq
    exact key 7 1 (by simp [sgK]) (fun _ => by simp [sg2]) (by decide)
  · rw [eb] at hq
    have hq : b = 42 := by omega
    subst hq
    exact key 0 1 (by simp [sgK]) (fun q => absurd rfl q) (by decide)
  · rw [eb] at hq
    have hq : b = 43 := by omega
    subst hq
    exact key 0 1 (by simp [sgK]) (fun q => absurd rfl q) (by decide)
  · rw [eb] at hq
    have hq : b = 44 := by omega
    subst hq
    exact key 8 1 (by simp [sgK]) (fun _ => by simp [sg2]) (by decide)
  · rw [eb] at hq
    have hq : b = 45 := by omega
    subst hq
    exact key 0 1 (by simp [sgK]) (fun q => absurd rfl q) (by decide)
  · rw [eb] at hq
    have hq : b = 46 := by omega
    subst hq
    exact key 0 1 (by simp [sgK]) (fun q => absurd rfl q) (by decide)
  · rw [eb] at hq
    have hq : b = 47 := by omega
    subst hq
    exact key 10 1 (by simp [sgK]) (fun _ => by simp [sg2]) (by decide)
  · rw [eb] at hq
    have hq : b = 48 := by omega
    subst hq
    exact key 0 1 (by simp [sgK]) (fun q => absurd rfl q) (by decide)
  · rw [eb] at hq
    have hq : b = 49 := by omega
    subst hq
    exact key 0 1 (by simp [sgK]) (fun q => absurd rfl q) (by decide)
  · rw [eb] at hq
    have hq : b = 50 := by omega
    subst hq
    exact key 0 1 (by simp [sgK]) (fun q => absurd rfl q) (by decide)
  · rw [eb] at hq
    have hq : b = 51 := by omega
    subst hq
    exact key 0 1 (by simp [sgK]) (fun q => absurd rfl q) (by decide)
  · rw [eb] at hq
    have hq : b = 52 := by omega
    subst hq
    exact key 0 1 (by simp [sgK]) (fun q => absurd rfl q) (by decide)
  · rw [eb] at hq
    have hq : b = 53 := by omega
    subst hq
    exact key 0 1 (by simp [sgK]) (fun q => absurd rfl q) (by decide)
  · rw [eb] at hq
    have hq : b = 54 := by omega
    subst hq
    exact key 0 1 (by simp [sgK]) (fun q => absurd rfl q) (by decide)
  · rw [eb] at hq
    have hq : b = 55 := by omega
    subst hq
    exact key 0 1 (by simp [sgK]) (fun q => absurd rfl q) (by decide)
  · rw [eb] at hq
    have hq : b = 56 := by omega
    subst hq
    exact key 0 1 (by simp [sgK]) (fun q => absurd rfl q) (by decide)
  · rw [eb] at hq
    have hq : b = 57 := by omega
    subst hq
    exact key 0 1 (by simp [sgK]) (fun q => absurd rfl q) (by decide)
  · rw [eb] at hq
    have hq : b = 58 := by omega
    subst hq
    exact key 0 1 (by simp [sgK]) (fun q => absurd rfl q) (by decide)
  · rw [eb] at hq
    have hq : b = 59 := by omega
    subst hq
    exact key 9 1 (by simp [sgK]) (fun _ => by simp [sg2]) (by decide)
  · rw [eb] at hq
    have hq : b = 60 := by omega
    subst hq
    refine ⟨fun q0 => ?_, fun q0 => ?_⟩
    · have q : e = false := b_ff.mpr (fun w => by rw [fl_t w] at q0; exact absurd q0 (by decide))
      exact ⟨fun _ => key 13 1 (by simp [sgK, q]) (fun _ => by simp [sg2, q]) (by decide), fun w => absurd q0 w⟩
    · have q := fl_1.mp q0
      exact ⟨fun w => absurd w q0, fun _ => key 14 2 (by simp [sgK, q]) (fun _ => by simp [sg2, q]) (by decide)⟩
  · rw [eb] at hq
    have hq : b = 61 := by omega
    subst hq
    exact key 11 1 (by simp [sgK]) (fun _ => by simp [sg2]) (by decide)
  · rw [eb] at hq
    have hq : b = 62 := by omega
    subst hq
    refine ⟨fun q0 => ?_, fun q0 => ?_⟩
    · have q : e = false := b_ff.mpr (fun w => by rw [fl_t w] at q0; exact absurd q0 (by decide))
      exact ⟨fun _ => key 15 1 (by simp [sgK, q]) (fun _ => by simp [sg2, q]) (by decide), fun w => absurd q0 w⟩
    · have q := fl_1.mp q0
      exact ⟨fun w => absurd w q0, fun _ => key 16 2 (by simp [sgK, q]) (fun _ => by simp [sg2, q]) (by decide)⟩
end CS2
