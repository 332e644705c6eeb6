/-! ===== the class's scanner: letters, digits, bytes; put; words ===== -/
/-- a flag as the machine holds it -/
def fl (b : Bool) : Int32 := if b = true then 1 else 0
theorem fl_t {b : Bool} (h : b = true) : fl b = 1 := if_pos h
theorem fl_f {b : Bool} (h : b = false) : fl b = 0 := if_neg (by rw [h]; decide)
theorem fl_1 {b : Bool} : ¬ fl b = 0 ↔ b = true := by cases b <;> simp [fl]
/-- the scanner over the first z bytes of the tape -/
def sJ (S : cs_S) (sc tp z : Nat) (bf : Nat → Nat) : Prop := cs_k S sc = 10 ∧ cs_i S 905 sc = nI z ∧ cs_r S 904 sc = some tp ∧ cs_k S tp = 20 ∧ cs_n S tp = 2100 ∧ z ≤ 2100 ∧ (∀ j, j < z → bf j < 256) ∧ ∀ j, j < z → cs_ai S tp j = nI (bf j)
theorem nI_sb (s j : Nat) : nI (s + j) - nI s = nI j := by
  rw [Nat.add_comm, ← nI_add, Int32.add_sub_cancel]
section CSC
variable {G : Nat → Nat} {S : cs_S} {sc tp z s n b p : Nat} {bf : Nat → Nat} {post : Int32 → cs_S → Prop}
theorem cb_L (hb : b < 256) (h1 : bL b = true → post 1 S) (h0 : bL b = false → post 0 S) : wp_X11_isLetter post G S (nI b) := by
  by_cases h : 97 ≤ b ∧ b ≤ 122
  · exact ⟨fun hc => absurd hc (nI_nlt (b := 97) h.1 (by omega)), fun _ => ⟨fun hc => absurd hc (nI_nlt (a := 122) (b := b) h.2 (by decide)), fun _ => ⟨rfl, h1 (bL_t.mpr h)⟩⟩⟩
  · have e : bL b = false := b_ff.mpr (fun q => h (bL_t.mp q))
    refine ⟨fun _ => ⟨rfl, h0 e⟩, fun g1 => ⟨fun _ => ⟨rfl, h0 e⟩, fun g2 => absurd ?_ h⟩⟩
    refine ⟨Nat.le_of_not_lt (fun q => g1 (nI_lt (b := 97) q (by decide))), Nat.le_of_not_lt (fun q => g2 (nI_lt (a := 122) q (by omega)))⟩
theorem cb_D (hb : b < 256) (h1 : bD b = true → post 1 S) (h0 : bD b = false → post 0 S) : wp_X11_isDigit post G S (nI b) := by
  by_cases h : 48 ≤ b ∧ b ≤ 57
  · exact ⟨fun hc => absurd hc (nI_nlt (b := 48) h.1 (by omega)), fun _ => ⟨fun hc => absurd hc (nI_nlt (a := 57) (b := b) h.2 (by decide)), fun _ => ⟨rfl, h1 (bD_t.mpr h)⟩⟩⟩
  · have e : bD b = false := b_ff.mpr (fun q => h (bD_t.mp q))
    refine ⟨fun _ => ⟨rfl, h0 e⟩, fun g1 => ⟨fun _ => ⟨rfl, h0 e⟩, fun g2 => absurd ?_ h⟩⟩
    refine ⟨Nat.le_of_not_lt (fun q => g1 (nI_lt (b := 48) q (by decide))), Nat.le_of_not_lt (fun q => g2 (nI_lt (a := 57) q (by omega)))⟩
theorem cb_P (hb : b < 256) (h1 : 32 ≤ b → b ≤ 126 → post 1 S) (h0 : ¬ (32 ≤ b ∧ b ≤ 126) → post 0 S) : wp_X11_isPlain post G S (nI b) := by
  by_cases h : 32 ≤ b ∧ b ≤ 126
  · exact ⟨fun hc => absurd hc (nI_nlt (b := 32) h.1 (by omega)), fun _ => ⟨fun hc => absurd hc (nI_nlt (a := 126) (b := b) h.2 (by decide)), fun _ => ⟨rfl, h1 h.1 h.2⟩⟩⟩
  · refine ⟨fun _ => ⟨rfl, h0 h⟩, fun g1 => ⟨fun _ => ⟨rfl, h0 h⟩, fun g2 => absurd ?_ h⟩⟩
    refine ⟨Nat.le_of_not_lt (fun q => g1 (nI_lt (b := 32) q (by decide))), Nat.le_of_not_lt (fun q => g2 (nI_lt (a := 126) q (by omega)))⟩
theorem co_in (hJ : sJ S sc tp z bf) (hp : p < z) (h : post (nI (bf p)) S) : wp_X8_octetAt post G S sc (nI p) := by
  obtain ⟨k1, k2, k3, k4, k5, k6, k7, k8⟩ := hJ
  refine ⟨fun hc => absurd hc (nI_pos (by omega)), fun _ => ⟨k1, fun hc => ?_, fun _ r6 e6 => ⟨tp, e6.trans k3, k4, ?_, ?_⟩⟩⟩
  · rw [k2] at hc; exact absurd hc (nI_ge hp (by omega))
  · rw [k5]; exact nI_in (by omega) (by decide)
  · show post _ S
    rw [nI_clamp (by omega), k8 p hp]; exact h
theorem co_out (hJ : sJ S sc tp z bf) (hp : z ≤ p) (hp2 : p < 2 ^ 31) (h : post (-1) S) : wp_X8_octetAt post G S sc (nI p) := by
  obtain ⟨k1, k2, k3, k4, k5, k6, k7, k8⟩ := hJ
  refine ⟨fun _ => h, fun _ => ⟨k1, fun _ => h, fun hc => absurd ?_ hc⟩⟩
  rw [k2]; exact nI_le hp hp2
theorem sJ.lim (hJ : sJ S sc tp z bf) : (cs_i S 905 sc ≤ nI p) ↔ nI z ≤ nI p := by rw [hJ.2.1]
theorem sJ.vi (hJ : sJ S sc tp z bf) (hp : p < z) : vp_in (nI p) (cs_n S tp) := by
  rw [hJ.2.2.2.2.1]; exact nI_in (by have := hJ.2.2.2.2.2.1; omega) (by decide)
theorem sJ.oc (hJ : sJ S sc tp z bf) (hp : p < z) : cs_ai S tp (nI p).toNatClampNeg = nI (bf p) := by
  rw [nI_clamp (by have := hJ.2.2.2.2.2.1; omega)]; exact hJ.2.2.2.2.2.2.2 p hp
theorem sJ.nle (hJ : sJ S sc tp z bf) (hp : p < z) : ¬ cs_i S 905 sc ≤ nI p := by
  rw [hJ.2.1]; exact nI_ge hp (by have := hJ.2.2.2.2.2.1; omega)
theorem sJ.le (hJ : sJ S sc tp z bf) (hp : z ≤ p) (hp2 : p < 2 ^ 31) : cs_i S 905 sc ≤ nI p := by
  rw [hJ.2.1]; exact nI_le hp hp2
/-- where the tokens are put -/
def sR (S : cs_S) (sc kd pl am c : Nat) : Prop := cs_r S 900 sc = some kd ∧ cs_r S 901 sc = some pl ∧ cs_r S 902 sc = some am ∧ (cs_k S kd = 20 ∧ cs_n S kd = 2001) ∧ (cs_k S pl = 20 ∧ cs_n S pl = 2001) ∧ (cs_k S am = 21 ∧ cs_n S am = 2001) ∧ cs_i S 906 sc = nI c ∧ kd ≠ pl
def scP (S : cs_S) (sc kd pl am c : Nat) (x y : Int32) (w : Int64) : cs_S := cs_ui (cs_ual (cs_uai (cs_uai S kd c x) pl c y) am c w) 906 sc (nI (c + 1))
theorem c_put {kd pl am c : Nat} {x y : Int32} {w : Int64} {post : cs_S → Prop} (hk : cs_k S sc = 10) (hR : sR S sc kd pl am c) (hc : c < 2001) (h : post (scP S sc kd pl am c x y w)) : wp_X8_put post G S sc x y w := by
  obtain ⟨r1, r2, r3, ⟨a1, a2⟩, ⟨b1, b2⟩, ⟨c1, c2⟩, h6, hne⟩ := hR
  have hin : vp_in (nI c) 2001 := nI_in hc (by decide)
  refine ⟨hk, fun r22 e22 => ⟨kd, e22.trans r1, a1, fun hc2 => ?_, fun _ r25 e25 => ⟨kd, e25.trans r1, a1, by rw [h6, a2]; exact hin, fun S28 e28 => ?_⟩⟩⟩
  · rw [h6, a2] at hc2; exact absurd hc2 (nI_ge hc (by decide))
  · rw [h6, nI_clamp (by omega)] at e28
    subst e28
    refine ⟨hk, fun r30 e30 => ⟨pl, e30.trans r2, b1, by show vp_in (cs_i S 906 sc) (cs_n S pl); rw [h6, b2]; exact hin, fun S33 e33 => ?_⟩⟩
    have e906 : cs_i (cs_uai S kd c x) 906 sc = nI c := h6
    rw [e906, nI_clamp (by omega)] at e33
    subst e33
    refine ⟨hk, fun r35 e35 => ⟨am, e35.trans r3, c1, by show vp_in (cs_i S 906 sc) (cs_n S am); rw [h6, c2]; exact hin, fun S38 e38 => ?_⟩⟩
    have e907 : cs_i (cs_uai (cs_uai S kd c x) pl c y) 906 sc = nI c := h6
    rw [e907, nI_clamp (by omega)] at e38
    subst e38
    refine ⟨hk, fun S40 e40 => ?_⟩
    have e908 : cs_i (cs_ual (cs_uai (cs_uai S kd c x) pl c y) am c w) 906 sc = nI c := h6
    rw [e908, nI_1] at e40
    subst e40
    exact h
/-- which reserved word -/
theorem c_w98 {rv : Nat} {A : Int64} {x1 x2 : Int32} (hk : cs_k S sc = 10) (hr : cs_r S 903 sc = some rv) (hv : cs_k S rv = 21) (hn : cs_n S rv = 20) (hw : ∀ j, cs_al S rv j = cw_row j) (h : wp_X8_put (fun S25 => post x2 S25) G S sc (nI (wkl A 20)) x1 A) : ∀ r k, k + r = 20 → w_X8_scanWord_98 post G (r + 1) S sc x1 x2 A (nI (wkl A k)) (nI k) := by
  intro r
  induction r with
  | zero =>
    intro k hk2
    have : k = 20 := by omega
    subst this
    exact ⟨fun _ => ⟨hk, h⟩, fun hc => absurd (nI_le (a := 20) (b := 20) (Nat.le_refl _) (by decide)) hc⟩
  | succ r ih =>
    intro k hk2
    refine ⟨fun hc => absurd hc (nI_ge (b := 20) (by omega) (by decide)), fun _ => ⟨hk, fun r28 e28 => ⟨rv, e28.trans hr, hv, by rw [hn]; exact nI_in (by omega) (by decide), fun hc => ?_, fun hc => ?_⟩⟩⟩
    · rw [nI_clamp (by omega), hw, lg_eq] at hc
      show w_X8_scanWord_98 post G (r + 1) S sc x1 x2 A _ (nI k + 1)
      have := ih (k + 1) (by omega)
      rw [wkl, if_neg hc] at this
      rw [nI_1]; exact this
    · rw [nI_clamp (by omega), hw, lg_eq] at hc
      show w_X8_scanWord_98 post G (r + 1) S sc x1 x2 A (20 + nI k) (nI k + 1)
      have := ih (k + 1) (by omega)
      rw [wkl, if_pos hc] at this
      rw [nI_1, show (20 : Int32) + nI k = nI (20 + k) from nI_add 20 k]; exact this
theorem c_w7 (hJ : sJ S sc tp z bf) (hw : rnW bA bf z s n) (hg : al bf s n = true → n ≤ 8 → ∃ n9, w_X8_scanWord_98 post G n9 S sc (nI s) (nI (s + n)) (Int64.ofNat (dg 5 12 (lf bf s) n)) 2 0) (hb : ¬ (al bf s n = true ∧ n ≤ 8) → post (-1) S) : ∀ r j x3, j + r = n → (al bf s j = true → j ≤ 8 → x3 = Int64.ofNat (dg 5 12 (lf bf s) j)) → w_X8_scanWord_7 post G (r + 1) S sc (nI s) (nI (s + j)) x3 (fl (al bf s j && decide (j ≤ 8))) := by
  obtain ⟨k1, k2, k3, k4, k5, k6, k7, k8⟩ := id hJ
  obtain ⟨w1, w2, w3⟩ := hw
  intro r
  induction r with
  | zero =>
    intro j x3 hj hx
    have : j = n := by omega
    subst this
    have fin : w_X8_scanWord_85 post G S sc (nI s) (nI (s + j)) x3 (fl (al bf s j && decide (j ≤ 8))) := by
      refine ⟨fun hc => ?_, fun hc => ?_⟩
      · rw [fl_1, Bool.and_eq_true, decide_eq_true_eq] at hc
        rw [hx hc.1 hc.2]; exact hg hc.1 hc.2
      · refine hb (fun q => ?_)
        have : (al bf s j && decide (j ≤ 8)) = true := by rw [q.1, Bool.true_and, decide_eq_true_eq]; exact q.2
        rw [fl_t this] at hc
        exact absurd hc (by decide)
    by_cases hz : s + j < z
    · have hnb := w3 hz
      rw [bA, Bool.or_eq_false_iff] at hnb
      refine ⟨k1, fun hc => absurd hc (hJ.nle hz), fun _ r42 e42 => ⟨tp, e42.trans k3, k4, hJ.vi hz, ?_⟩⟩
      rw [hJ.oc hz]
      refine cb_L (k7 _ hz) (fun q => by rw [hnb.1] at q; cases q) (fun _ => ⟨fun hc => absurd rfl hc, fun _ => ⟨k1, fun r47 e47 => ⟨tp, e47.trans k3, k4, hJ.vi hz, ?_⟩⟩⟩)
      rw [hJ.oc hz]
      exact cb_D (k7 _ hz) (fun q => by rw [hnb.2] at q; cases q) (fun _ => ⟨fun _ => fin, fun hc => absurd rfl hc⟩)
    · exact ⟨k1, fun _ => fin, fun hc => absurd (hJ.le (by omega) (by omega)) hc⟩
  | succ r ih =>
    intro j x3 hj hx
    have hz : s + j < z := by omega
    have hA := w2 j (by omega)
    have body : w_X8_scanWord_39 post G (w_X8_scanWord_7 post G (r + 1)) S sc (nI s) (nI (s + j)) x3 (fl (al bf s j && decide (j ≤ 8))) := by
      refine ⟨k1, fun r32 e32 => ⟨tp, e32.trans k3, k4, hJ.vi hz, ?_⟩⟩
      rw [hJ.oc hz]
      have bad : (bL (bf (s + j)) = false ∨ 8 ≤ j) → w_X8_scanWord_76 post G (w_X8_scanWord_7 post G (r + 1)) S sc (nI s) (nI (s + j)) x3 := by
        intro hbad
        show w_X8_scanWord_7 post G (r + 1) S sc (nI s) (nI (s + j) + 1) x3 0
        have h9 : (al bf s (j + 1) && decide (j + 1 ≤ 8)) = false := by
          rw [al, Bool.and_eq_false_iff, Bool.and_eq_false_iff, decide_eq_false_iff_not]
          rcases hbad with h | h
          · exact Or.inl (Or.inr h)
          · exact Or.inr (by omega)
        have h8 := ih (j + 1) x3 (by omega) (fun q1 q2 => by
          rw [q1, Bool.true_and, decide_eq_false_iff_not] at h9
          exact absurd q2 h9)
        rw [fl_f h9] at h8
        rw [nI_1, show s + j + 1 = s + (j + 1) from by omega]
        exact h8
      refine cb_L (k7 _ hz) (fun hl => ⟨fun hc => absurd hc (by decide), fun _ => ⟨fun hc => ?_, fun hc => ⟨k1, fun r37 e37 => ⟨tp, e37.trans k3, k4, hJ.vi hz, ?_⟩⟩⟩⟩) (fun hl => ⟨fun _ => bad (Or.inl hl), fun hc => absurd rfl hc⟩)
      · rw [nI_sb] at hc
        exact bad (Or.inr ((nI_leI (a := 8) (b := j) (by decide) (by omega)).mp hc))
      · rw [nI_sb] at hc
        have hj8 : j < 8 := Nat.lt_of_not_le (fun q => hc (nI_le (a := 8) q (by omega)))
        show w_X8_scanWord_7 post G (r + 1) S sc (nI s) (nI (s + j) + 1) (x3 ||| (((cs_ai S tp (nI (s + j)).toNatClampNeg - 97) + 1).toInt64 <<< ((5 * (11 - (nI (s + j) - nI s))).toInt64 &&& 63))) _
        have e9 : (al bf s j && decide (j ≤ 8)) = (al bf s (j + 1) && decide (j + 1 ≤ 8)) := by
          rw [al, hl, Bool.and_true, decide_eq_true (show j ≤ 8 by omega), decide_eq_true (show j + 1 ≤ 8 by omega)]
        rw [e9, nI_1, show s + j + 1 = s + (j + 1) from by omega, hJ.oc hz, nI_sb]
        refine ih (j + 1) _ (by omega) (fun q1 q2 => ?_)
        have hl2 := bL_t.mp hl
        rw [al, Bool.and_eq_true] at q1
        rw [hx q1.1 (by omega), wl_ok (lf_lt bf s) (by omega) hl2.1 hl2.2 (by unfold lf; rw [if_pos hl2])]
    refine ⟨k1, fun hc => absurd hc (hJ.nle hz), fun _ r42 e42 => ⟨tp, e42.trans k3, k4, hJ.vi hz, ?_⟩⟩
    rw [hJ.oc hz]
    refine cb_L (k7 _ hz) (fun _ => ⟨fun _ => body, fun hc => absurd hc (by decide)⟩) (fun hl => ⟨fun hc => absurd rfl hc, fun _ => ⟨k1, fun r47 e47 => ⟨tp, e47.trans k3, k4, hJ.vi hz, ?_⟩⟩⟩)
    rw [hJ.oc hz]
    refine cb_D (k7 _ hz) (fun _ => ⟨fun hc => absurd hc (by decide), fun _ => body⟩) (fun hd => ?_)
    rw [bA, hl, hd] at hA
    cases hA
end CSC
