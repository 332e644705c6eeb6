/-! ===== the class's scanner: all tokens ===== -/
theorem fX.uai {E : Nat → Nat → Nat → Prop} {S S1 : cs_S} (h : fX E S S1) {j a : Nat} {x : Int32} (e : E 3 j a ∨ cs_k S a = 0) : fX E S (cs_uai S1 a j x) := fun b hb => by
  obtain ⟨a1, a2, a3, a4, a5, a6, a7, a8⟩ := h b hb
  refine ⟨a1, a2, a3, a4, a5, fun g hg => ?_, a7, a8⟩
  rw [aiuai, if_neg ?_]
  · exact a6 g hg
  · rintro ⟨rfl, rfl⟩
    rcases e with e | e
    · exact hg e
    · exact hb e
theorem wkl_le (A : Int64) : ∀ k, k ≤ 20 → wkl A k ≤ 39 := by
  intro k
  induction k with
  | zero => intro _; show 2 ≤ 39; omega
  | succ k ih =>
    intro h
    rw [wkl]
    split
    · omega
    · exact ih (by omega)
theorem sgK_b (b : Nat) (e : Bool) : sgK b e = 0 ∨ (6 ≤ sgK b e ∧ sgK b e ≤ 16) := by
  unfold sgK
  repeat' split
  all_goals omega
theorem rn_1 {P : Nat → Bool} {bf : Nat → Nat} {z s : Nat} (hs : s < z) (hp : P (bf s) = true) : 1 ≤ rn P bf (z - s) s := by
  obtain ⟨d, e⟩ : ∃ d, z - s = d + 1 := ⟨z - s - 1, by omega⟩
  rw [e, rn, if_pos hp]; omega
theorem tk_ok {bf : Nat → Nat} {z s : Nat} (hs : s < z) (h : ¬ (tk bf z s).1 = 0) : 2 ≤ (tk bf z s).1 ∧ (tk bf z s).1 ≤ 39 ∧ s < (tk bf z s).2.1 ∧ (tk bf z s).2.1 ≤ z := by
  have num : ∀ d, (d = s ∨ d = s + 1) → ¬ (tkN bf s d (rn bA bf (z - d) d)).1 = 0 → 2 ≤ (tkN bf s d (rn bA bf (z - d) d)).1 ∧ (tkN bf s d (rn bA bf (z - d) d)).1 ≤ 39 ∧ s < (tkN bf s d (rn bA bf (z - d) d)).2.1 ∧ (tkN bf s d (rn bA bf (z - d) d)).2.1 ≤ z := by
    intro d hd h
    have hw : rnW bA bf z d (rn bA bf (z - d) d) := rn_w (z - d) d (by omega)
    generalize hN : rn bA bf (z - d) d = N at h hw ⊢
    have hw1 := hw.1
    unfold tkN at h ⊢
    split at h
    · rename_i q
      rw [if_pos q]
      exact ⟨by show 2 ≤ 3; decide, by show 3 ≤ 39; decide, by show s < d + N; omega, hw1⟩
    · exact absurd rfl h
  unfold tk at h ⊢
  by_cases hl : bL (bf s) = true
  · rw [if_pos hl] at h ⊢
    have hw : rnW bA bf z s (rn bA bf (z - s) s) := rn_w (z - s) s (by omega)
    have h1 : 1 ≤ rn bA bf (z - s) s := rn_1 hs (by rw [bA, hl]; rfl)
    generalize hN : rn bA bf (z - s) s = N at h hw h1 ⊢
    have hw1 := hw.1
    unfold tkW at h ⊢
    split at h
    · rename_i q
      rw [if_pos q]
      exact ⟨wkl_ge _ _, wkl_le _ _ (Nat.le_refl _), by show s < s + N; omega, hw1⟩
    · exact absurd rfl h
  · rw [if_neg hl] at h ⊢
    by_cases h34 : bf s = 34
    · rw [if_pos h34] at h ⊢
      generalize hN : rn bP bf (z - (s + 1)) (s + 1) = N at h ⊢
      unfold tkQ at h ⊢
      split at h
      · rename_i q
        rw [if_pos q]
        exact ⟨by show 2 ≤ 4; decide, by show 4 ≤ 39; decide, by show s < s + N + 2; omega, by show s + N + 2 ≤ z; omega⟩
      · exact absurd rfl h
    · rw [if_neg h34] at h ⊢
      by_cases h45 : bf s = 45
      · rw [if_pos h45] at h ⊢
        exact num (s + 1) (Or.inr rfl) h
      · rw [if_neg h45] at h ⊢
        by_cases hd : bD (bf s) = true
        · rw [if_pos hd] at h ⊢
          by_cases ha : s + rn bD bf (z - s) s < z ∧ bf (s + rn bD bf (z - s) s) = 46
          · rw [if_pos ha] at h ⊢
            have hw : rnW bX bf z s (rn bX bf (z - s) s) := rn_w (z - s) s (by omega)
            generalize hN : rn bX bf (z - s) s = N at h hw ⊢
            have hw1 := hw.1
            have h3 := (ad_b (bf := bf) (s := s) N).2.1
            unfold tkA at h ⊢
            split at h
            · rename_i q
              rw [if_pos q]
              exact ⟨by show 2 ≤ 5; decide, by show 5 ≤ 39; decide, by show s < s + N; omega, hw1⟩
            · exact absurd rfl h
          · rw [if_neg ha] at h ⊢
            exact num s (Or.inl rfl) h
        · rw [if_neg hd] at h ⊢
          have hb := sgK_b (bf s) (decide (s + 1 < z ∧ bf (s + 1) = 61))
          have h : ¬ sgK (bf s) (decide (s + 1 < z ∧ bf (s + 1) = 61)) = 0 := h
          refine ⟨by show 2 ≤ sgK _ _; omega, by show sgK _ _ ≤ 39; omega, ?_, ?_⟩
          · show s < s + (if _ then 2 else 1)
            split <;> omega
          · show s + (if _ then 2 else 1) ≤ z
            split
            · rename_i q
              rw [sg2, Bool.and_eq_true, decide_eq_true_eq] at q
              omega
            · omega
section SKF
variable {bf : Nat → Nat} {z p : Nat}
theorem sk_b (hp : p < z) (hb : bB (bf p) = true) : sk bf z p = sk bf z (p + 1) := by
  obtain ⟨d, e⟩ : ∃ d, z - p = d + 1 := ⟨z - p - 1, by omega⟩
  rw [sk, sk, e, rn, if_pos hb, show z - (p + 1) = d from by omega]; omega
theorem sk_n (hb : p < z → bB (bf p) = false) : sk bf z p = p := by
  rw [sk]
  cases hd : z - p with
  | zero => rfl
  | succ d => rw [rn, if_neg (by rw [hb (by omega)]; decide)]; rfl
theorem sk_le (hp : p ≤ z) : p ≤ sk bf z p ∧ sk bf z p ≤ z := by
  have := (rn_w (P := bB) (bf := bf) (z := z) (z - p) p (by omega)).1
  rw [sk]; omega
theorem sk_o (hp : p ≤ z) (h : sk bf z p < z) : bB (bf (sk bf z p)) = false :=
  (rn_w (P := bB) (bf := bf) (z := z) (z - p) p (by omega)).2.2 h
end SKF
/-- the first c tokens stand in the rows -/
def tR (S : cs_S) (kd pl am z : Nat) (bf : Nat → Nat) (c : Nat) : Prop := ∀ i, i < c → cs_ai S kd i = nI (tK bf z (qp bf z i)) ∧ cs_ai S pl i = nI (min (qp bf z i) 2000) ∧ (2 ≤ tK bf z (qp bf z i) → cs_al S am i = (tk bf z (qp bf z i)).2.2.1)
def scE (sc kd pl am : Nat) (s f a : Nat) : Prop := (s = 0 ∧ a = sc) ∨ (s = 2 ∧ a = sc ∧ f = 904) ∨ (s = 3 ∧ (a = kd ∨ a = pl)) ∨ (s = 4 ∧ a = am)
section CS4
variable {G : Nat → Nat} {S0 S : cs_S} {sc tp z kd pl am rv c p : Nat} {bf : Nat → Nat} {post : cs_S → Prop}
theorem tR.put (h : tR S kd pl am z bf c) (hne : kd ≠ pl) {x y : Int32} {w : Int64} (hx : x = nI (tK bf z (qp bf z c))) (hy : y = nI (min (qp bf z c) 2000)) (hw : 2 ≤ tK bf z (qp bf z c) → w = (tk bf z (qp bf z c)).2.2.1) : tR (scP S sc kd pl am c x y w) kd pl am z bf (c + 1) := by
  intro i hi
  by_cases e : i = c
  · subst e
    refine ⟨?_, ?_, fun q => ?_⟩
    · show cs_ai (cs_uai (cs_uai S kd i x) pl i y) kd i = _
      rw [aiuai, if_neg (fun q => hne q.1), aiuai, if_pos ⟨rfl, rfl⟩]; exact hx
    · show cs_ai (cs_uai (cs_uai S kd i x) pl i y) pl i = _
      rw [aiuai, if_pos ⟨rfl, rfl⟩]; exact hy
    · show cs_al (cs_ual (cs_uai (cs_uai S kd i x) pl i y) am i w) am i = _
      rw [alual, if_pos ⟨rfl, rfl⟩]; exact hw q
  · obtain ⟨h1, h2, h3⟩ := h i (by omega)
    refine ⟨?_, ?_, fun q => ?_⟩
    · show cs_ai (cs_uai (cs_uai S kd c x) pl c y) kd i = _
      rw [aiuai, if_neg (fun q => e q.2), aiuai, if_neg (fun q => e q.2)]; exact h1
    · show cs_ai (cs_uai (cs_uai S kd c x) pl c y) pl i = _
      rw [aiuai, if_neg (fun q => e q.2), aiuai, if_neg (fun q => e q.2)]; exact h2
    · show cs_al (cs_ual (cs_uai (cs_uai S kd c x) pl c y) am c w) am i = _
      rw [alual, if_neg (fun q => e q.2)]; exact h3 q
theorem sJ.put (h : sJ S sc tp z bf) (h1 : tp ≠ kd) (h2 : tp ≠ pl) {x y : Int32} {w : Int64} : sJ (scP S sc kd pl am c x y w) sc tp z bf := by
  obtain ⟨k1, k2, k3, k4, k5, k6, k7, k8⟩ := h
  refine ⟨k1, ?_, k3, k4, k5, k6, k7, fun j hj => ?_⟩
  · show cs_i (cs_ui _ 906 sc (nI (c + 1))) 905 sc = _
    rw [iui, if_neg (fun q => absurd q.1 (by decide))]; exact k2
  · show cs_ai (cs_uai (cs_uai S kd c x) pl c y) tp j = _
    rw [aiuai, if_neg (fun q => h2 q.1), aiuai, if_neg (fun q => h1 q.1)]; exact k8 j hj
theorem sR.put (h : sR S sc kd pl am c) {x y : Int32} {w : Int64} : sR (scP S sc kd pl am c x y w) sc kd pl am (c + 1) := by
  obtain ⟨r1, r2, r3, r4, r5, r6, h6, hne⟩ := h
  refine ⟨r1, r2, r3, r4, r5, r6, ?_, hne⟩
  show cs_i (cs_ui _ 906 sc (nI (c + 1))) 906 sc = _
  rw [iui, if_pos ⟨rfl, rfl⟩]
theorem fX.sput (h : fX (scE sc kd pl am) S0 S) {x y : Int32} {w : Int64} : fX (scE sc kd pl am) S0 (scP S sc kd pl am c x y w) :=
  (((h.uai (Or.inl (Or.inr (Or.inr (Or.inl ⟨Eq.refl _, Or.inl (Eq.refl _)⟩))))).uai (Or.inl (Or.inr (Or.inr (Or.inl ⟨Eq.refl _, Or.inr (Eq.refl _)⟩))))).ual (Or.inl (Or.inr (Or.inr (Or.inr ⟨Eq.refl _, Eq.refl _⟩))))).ui (Or.inl (Or.inl ⟨Eq.refl _, Eq.refl _⟩))
/-- what the scanner leaves -/
def sZ (S0 S : cs_S) (sc tp z kd pl am : Nat) (bf : Nat → Nat) (c : Nat) : Prop := sJ S sc tp z bf ∧ tR S kd pl am z bf (c + 1) ∧ c ≤ 2000 ∧ tK bf z (qp bf z c) ≤ 1 ∧ (∀ i, i < c → 2 ≤ tK bf z (qp bf z i)) ∧ fX (scE sc kd pl am) S0 S
theorem c_scan (h1 : tp ≠ kd) (h2 : tp ≠ pl) (hav : am ≠ rv) (hr : ∀ S, fX (scE sc kd pl am) S0 S → cs_r S 903 sc = some rv ∧ cs_k S rv = 21 ∧ cs_n S rv = 20 ∧ ∀ j, cs_al S rv j = cw_row j) (hp : ∀ S c, sZ S0 S sc tp z kd pl am bf c → post S) : ∀ r p c (S : cs_S), z ≤ p + r → p ≤ z → c ≤ p → c ≤ 2000 → sk bf z p = qp bf z c → sJ S sc tp z bf → sR S sc kd pl am c → tR S kd pl am z bf c → (∀ i, i < c → 2 ≤ tK bf z (qp bf z i)) → fX (scE sc kd pl am) S0 S → w_X8_scan_22 post G (r + 1) S sc (nI p) := by
  have fin : ∀ p c (S : cs_S), p ≤ z → (z ≤ p ∨ 2000 ≤ p) → c ≤ 2000 → sk bf z p = qp bf z c → sJ S sc tp z bf → sR S sc kd pl am c → tR S kd pl am z bf c → (∀ i, i < c → 2 ≤ tK bf z (qp bf z i)) → fX (scE sc kd pl am) S0 S → w_X8_scan_92 post G S sc := by
    intro p c S hpz hpe hc hq hJ hR hT hK hF
    have hz := hJ.2.2.2.2.2.1
    have hsk := sk_le (bf := bf) hpz
    refine ⟨hJ.1, fun hl => ?_, fun hl => ?_⟩
    · rw [hJ.2.1] at hl
      have hl : z ≤ 2000 := (nI_leI (b := 2000) (by omega) (by decide)).mp hl
      have hqz : qp bf z c = z := by omega
      have eK : tK bf z (qp bf z c) = 1 := by rw [hqz, tK, if_neg (by omega), if_pos (Nat.le_refl _)]
      rw [hJ.2.1]
      refine c_put hJ.1 hR (by omega) (hp _ c ⟨hJ.put h1 h2, hT.put hR.2.2.2.2.2.2.2 (by rw [eK]; rfl) (by rw [hqz]; congr 1; omega) (fun q => by omega), hc, by omega, hK, hF.sput⟩)
    · rw [hJ.2.1] at hl
      have hl : 2000 < z := Nat.lt_of_not_le (fun q => hl (nI_le (b := 2000) q (by decide)))
      have eK : tK bf z (qp bf z c) = 0 := by rw [tK, if_pos (by omega)]
      refine c_put hJ.1 hR (by omega) (hp _ c ⟨hJ.put h1 h2, hT.put hR.2.2.2.2.2.2.2 (by rw [eK]; rfl) (by rw [show min (qp bf z c) 2000 = 2000 from by omega]; rfl) (fun q => by omega), hc, by omega, hK, hF.sput⟩)
  intro r
  induction r with
  | zero =>
    intro p c S hzp hpz hcp hc hq hJ hR hT hK hF
    have hz := hJ.2.2.2.2.2.1
    exact ⟨hJ.1, fun _ => fin p c S hpz (Or.inl (by omega)) hc hq hJ hR hT hK hF, fun q => absurd (hJ.le (by omega) (by omega)) q⟩
  | succ r ih =>
    intro p c S hzp hpz hcp hc hq hJ hR hT hK hF
    have hz := hJ.2.2.2.2.2.1
    by_cases hpe : z ≤ p
    · exact ⟨hJ.1, fun _ => fin p c S hpz (Or.inl hpe) hc hq hJ hR hT hK hF, fun q => absurd (hJ.le hpe (by omega)) q⟩
    · have hlt : p < z := by omega
      refine ⟨hJ.1, fun q => absurd q (hJ.nle hlt), fun _ => ⟨fun q => fin p c S hpz (Or.inr ((nI_leI (a := 2000) (by decide) (by omega)).mp q)) hc hq hJ hR hT hK hF, fun q => ?_⟩⟩
      have hp2 : p < 2000 := Nat.lt_of_not_le (fun w => q (nI_le (a := 2000) w (by omega)))
      have blank : bB (bf p) = true → w_X8_scan_59 post G (w_X8_scan_22 post G (r + 1)) S sc (nI p) := by
        intro hb
        show w_X8_scan_22 post G (r + 1) S sc (nI p + 1)
        rw [nI_1]
        exact ih (p + 1) c S (by omega) (by omega) (by omega) hc (by rw [← sk_b hlt hb]; exact hq) hJ hR hT hK hF
      have h256 := hJ.2.2.2.2.2.2.1 p hlt
      refine fun r25 e25 => ⟨tp, e25.trans hJ.2.2.1, hJ.2.2.2.1, hJ.vi hlt, fun w => blank (bB_t.mpr (Or.inl ?_)), fun n32 r28 e28 => ⟨tp, e28.trans hJ.2.2.1, hJ.2.2.2.1, hJ.vi hlt, fun n10 => ?_, fun w => blank (bB_t.mpr (Or.inr ?_))⟩⟩
      · rw [hJ.oc hlt] at w; exact (nI_eq (b := 32) (by omega) (by decide)).mp w
      · rw [hJ.oc hlt] at n32 n10
        have hnb : bB (bf p) = false := b_ff.mpr (fun w => by
          rcases bB_t.mp w with w | w
          · exact n32 (by rw [w]; rfl)
          · exact n10 (by rw [w]; rfl))
        have hqp : qp bf z c = p := by rw [← hq]; exact sk_n (fun _ => hnb)
        have eK : tK bf z (qp bf z c) = (tk bf z p).1 := by rw [hqp, tK, if_neg (by omega), if_neg (by omega)]
        have emin : min (qp bf z c) 2000 = p := by rw [hqp]; omega
        obtain ⟨v1, v2, v3, v4⟩ := hr S hF
        refine c_token hJ hlt v1 v2 v3 v4 (fun g => ?_) (fun g => ⟨fun w => ?_, fun _ => ⟨hJ.1, ?_⟩⟩)
        · obtain ⟨t1, t2, t3, t4⟩ := tk_ok hlt g
          refine c_put hJ.1 hR (by omega) ⟨fun _ => ?_, fun w => absurd (nI_lt t3 (by omega)) w⟩
          refine ih (tk bf z p).2.1 (c + 1) _ (by omega) t4 (by omega) (by omega) (by rw [qp, hqp]) (hJ.put h1 h2) hR.put (hT.put hR.2.2.2.2.2.2.2 (by rw [eK]) (by rw [emin]) (fun _ => by rw [hqp])) (fun i hi => ?_) hF.sput
          by_cases e : i = c
          · rw [e, eK]; exact t1
          · exact hK i (by omega)
        · exact absurd w (fun q => by
            have := Int32.lt_iff_toInt_lt.mp q
            rw [nI_toInt (by omega)] at this
            have e9 : (-1 : Int32).toInt = -1 := by decide
            rw [e9] at this
            omega)
        · refine c_put hJ.1 hR (by omega) (hp _ c ⟨hJ.put h1 h2, hT.put hR.2.2.2.2.2.2.2 (by rw [eK, g]; rfl) (by rw [emin]) (fun q => by omega), hc, by omega, hK, hF.sput⟩)
      · rw [hJ.oc hlt] at w; exact (nI_eq (b := 10) (by omega) (by decide)).mp w
end CS4
