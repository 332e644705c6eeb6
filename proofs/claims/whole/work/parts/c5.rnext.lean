/-! ===== the reference's tokens: words, texts, signs ===== -/
def tJ (σ : rf_S) (z : Nat) (bf : Nat → Nat) : Prop := σ.1 3 = nI z ∧ z ≤ 2100 ∧ (∀ j, j < z → bf j < 256) ∧ ∀ j, j < z → σ.2.2.1 1 j &&& 255 = nI (bf j)
/-- what reading a token changes -/
def nxF (σ σ' : rf_S) : Prop := (∀ k, k ≠ 4 → k ≠ 54 → k ≠ 55 → k ≠ 56 → k ≠ 57 → σ'.1 k = σ.1 k) ∧ (∀ k, k ≠ 58 → σ'.2.1 k = σ.2.1 k) ∧ σ'.2.2 = σ.2.2
section NXF
variable {σ σ1 σ2 : rf_S} {k z : Nat} {bf : Nat → Nat} {x : Int32} {y : Int64}
theorem nxF.rfl : nxF σ σ := ⟨fun _ _ _ _ _ _ => Eq.refl _, fun _ _ => Eq.refl _, Eq.refl _⟩
theorem nxF.trans (h : nxF σ σ1) (g : nxF σ1 σ2) : nxF σ σ2 := ⟨fun k a b c d e => (g.1 k a b c d e).trans (h.1 k a b c d e), fun k a => (g.2.1 k a).trans (h.2.1 k a), g.2.2.trans h.2.2⟩
theorem nxF.ui (h : nxF σ σ1) (hk : k = 4 ∨ k = 54 ∨ k = 55 ∨ k = 56 ∨ k = 57) : nxF σ (rf_ui σ1 k x) := ⟨fun k' a b c d e => by rw [r1ui, if_neg (by omega)]; exact h.1 k' a b c d e, h.2⟩
theorem nxF.ul (h : nxF σ σ1) : nxF σ (rf_ul σ1 58 y) := ⟨h.1, fun k' a => by rw [r2ul, if_neg a]; exact h.2.1 k' a, h.2.2⟩
theorem tJ.nx (h : tJ σ z bf) (g : nxF σ σ1) : tJ σ1 z bf := ⟨(g.1 3 (by decide) (by decide) (by decide) (by decide) (by decide)).trans h.1, h.2.1, h.2.2.1, fun j hj => by rw [g.2.2]; exact h.2.2.2 j hj⟩
end NXF
section RNX
variable {σ : rf_S} {z s n b q : Nat} {bf : Nat → Nat} {post : Int32 → rf_S → Prop}
theorem tb_in (h : tJ σ z bf) (hq : q < z) (hp : post (nI (bf q)) σ) : wp_X12_byteAt post σ (nI q) := by
  refine ⟨fun hc => ?_, fun _ => ⟨nI_in (N := 2120) (by have := h.2.1; omega) (by decide), ?_⟩⟩
  · rw [h.1] at hc; exact absurd hc (nI_ge hq (by have := h.2.1; omega))
  · show post _ σ
    rw [nI_clamp (by have := h.2.1; omega), h.2.2.2 q hq]; exact hp
theorem tb_out (h : tJ σ z bf) (hq : z ≤ q) (hq2 : q < 2 ^ 31) (hp : post (-1) σ) : wp_X12_byteAt post σ (nI q) := by
  refine ⟨fun _ => hp, fun hc => absurd ?_ hc⟩
  rw [h.1]; exact nI_le hq hq2
theorem rb_L (hb : b < 256) (h1 : bL b = true → post 1 σ) (h0 : bL b = false → post 0 σ) : wp_X12_isSmall post σ (nI b) := by
  by_cases h : 97 ≤ b ∧ b ≤ 122
  · exact ⟨fun hc => absurd hc (nI_nlt (b := 97) h.1 (by omega)), fun _ => ⟨fun hc => absurd hc (nI_nlt (a := 122) (b := b) h.2 (by decide)), fun _ => ⟨rfl, h1 (bL_t.mpr h)⟩⟩⟩
  · have e : bL b = false := b_ff.mpr (fun q => h (bL_t.mp q))
    refine ⟨fun _ => ⟨rfl, h0 e⟩, fun g1 => ⟨fun _ => ⟨rfl, h0 e⟩, fun g2 => absurd ?_ h⟩⟩
    refine ⟨Nat.le_of_not_lt (fun q => g1 (nI_lt (b := 97) q (by decide))), Nat.le_of_not_lt (fun q => g2 (nI_lt (a := 122) q (by omega)))⟩
theorem rb_D (hb : b < 256) (h1 : bD b = true → post 1 σ) (h0 : bD b = false → post 0 σ) : wp_X12_isDigit post σ (nI b) := by
  by_cases h : 48 ≤ b ∧ b ≤ 57
  · exact ⟨fun hc => absurd hc (nI_nlt (b := 48) h.1 (by omega)), fun _ => ⟨fun hc => absurd hc (nI_nlt (a := 57) (b := b) h.2 (by decide)), fun _ => ⟨rfl, h1 (bD_t.mpr h)⟩⟩⟩
  · have e : bD b = false := b_ff.mpr (fun q => h (bD_t.mp q))
    refine ⟨fun _ => ⟨rfl, h0 e⟩, fun g1 => ⟨fun _ => ⟨rfl, h0 e⟩, fun g2 => absurd ?_ h⟩⟩
    refine ⟨Nat.le_of_not_lt (fun q => g1 (nI_lt (b := 48) q (by decide))), Nat.le_of_not_lt (fun q => g2 (nI_lt (a := 57) q (by omega)))⟩
theorem rb_Ln (h0 : post 0 σ) : wp_X12_isSmall post σ (-1) := ⟨fun _ => ⟨rfl, h0⟩, fun hc => absurd (by decide) hc⟩
theorem rb_Dn (h0 : post 0 σ) : wp_X12_isDigit post σ (-1) := ⟨fun _ => ⟨rfl, h0⟩, fun hc => absurd (by decide) hc⟩
theorem rf_uls {f : Nat} {y : Int64} (h : σ.2.1 f = y) : rf_ul σ f y = σ := by
  refine Prod.ext rfl (Prod.ext (funext fun k => ?_) rfl)
  show (rf_ul σ f y).2.1 k = σ.2.1 k
  rw [r2ul]
  by_cases e : k = f
  · rw [if_pos e, e, h]
  · rw [if_neg e]
/-- the code of a kind -/
def rC (K : Nat) : Int32 := if K = 0 then 6 else if K = 1 then 0 else if K = 2 ∨ 20 ≤ K then 1 else if K = 3 then 2 else if K = 4 then 3 else if K = 5 then 4 else 5
/-- the reference holds the token t that begins at s -/
def rTk (σ : rf_S) (s : Nat) (t : tkT) : Prop := σ.1 54 = rC t.1 ∧ σ.1 55 = nI s ∧ (2 ≤ t.1 → σ.1 4 = nI t.2.1 ∧ ((t.1 = 2 ∨ 20 ≤ t.1) → ∃ n l, 1 ≤ n ∧ n ≤ 8 ∧ wdR n t.2.2.1 (σ.2.1 58) l) ∧ (3 ≤ t.1 → t.1 ≤ 16 → σ.1 56 = t.2.2.2) ∧ (t.1 = 4 → σ.1 57 = nI (s + 1)))
/-- a word -/
theorem r_w9 (hw : rnW bA bf z s n) (h1n : 1 ≤ n) : ∀ r j (σ : rf_S), j + r = n → tJ σ z bf → σ.1 4 = nI (s + j) → σ.2.1 58 = Int64.ofNat (dg 8 8 (fun i => bf (s + i) % 256) (min j 8)) → ∃ σ', nxF σ σ' ∧ σ'.1 55 = σ.1 55 ∧ σ'.1 4 = nI (s + n) ∧ σ'.1 54 = (if al bf s n = true ∧ n ≤ 8 then 1 else 6) ∧ σ'.2.1 58 = Int64.ofNat (dg 8 8 (fun i => bf (s + i) % 256) (min n 8)) ∧ ∀ Q : rf_S → Prop, Q σ' → w_X12_readWord_9 Q (r + 1) σ (nI j) (fl (al bf s j)) := by
  obtain ⟨w1, w2, w3⟩ := hw
  intro r
  induction r with
  | zero =>
    intro j σ hj ht h4 h58
    have : j = n := by omega
    subst this
    have h2 := ht.2.1
    refine ⟨rf_ui σ 54 (if al bf s j = true ∧ j ≤ 8 then 1 else 6), nxF.rfl.ui (by omega), by rw [r1ui, if_neg (by decide)], by rw [r1ui, if_neg (by decide)]; exact h4, by rw [r1ui, if_pos rfl], h58, fun Q hQ => ?_⟩
    have fin : (fl (al bf s j) = 0 → w_X12_readWord_124 Q σ) ∧ (¬ fl (al bf s j) = 0 → (8 < nI j → w_X12_readWord_124 Q σ) ∧ (¬ 8 < nI j → w_X12_readWord_126 Q σ 1)) := by
      refine ⟨fun q => ?_, fun q => ⟨fun q2 => ?_, fun q2 => ?_⟩⟩
      · rw [if_neg (fun w => by rw [fl_t w.1] at q; exact absurd q (by decide))] at hQ; exact hQ
      · rw [if_neg (fun w => nI_nlt (a := 8) w.2 (by decide) q2)] at hQ; exact hQ
      · rw [if_pos ⟨fl_1.mp q, Nat.le_of_not_lt (fun w => q2 (nI_lt (a := 8) w (by omega)))⟩] at hQ; exact hQ
    show wp_X12_byteAt _ σ (σ.1 4)
    rw [h4]
    by_cases hz : s + j < z
    · have hnb := w3 hz
      rw [bA, Bool.or_eq_false_iff] at hnb
      refine tb_in ht hz (rb_L (ht.2.2.1 _ hz) (fun q => by rw [hnb.1] at q; cases q) (fun _ => ⟨fun q => absurd rfl q, fun _ => ?_⟩))
      rw [h4]
      exact tb_in ht hz (rb_D (ht.2.2.1 _ hz) (fun q => by rw [hnb.2] at q; cases q) (fun _ => ⟨fun _ => fin, fun q => absurd rfl q⟩))
    · refine tb_out ht (by omega) (by omega) (rb_Ln ⟨fun q => absurd rfl q, fun _ => ?_⟩)
      rw [h4]
      exact tb_out ht (by omega) (by omega) (rb_Dn ⟨fun _ => fin, fun q => absurd rfl q⟩)
  | succ r ih =>
    intro j σ hj ht h4 h58
    have h2 := ht.2.1
    have hz : s + j < z := by omega
    have hA := w2 j (by omega)
    have hb := ht.2.2.1 _ hz
    have hA2 := bA_t.mp hA
    have e58 : σ.2.1 58 ||| ((nI (bf (s + j))).toInt64 <<< ((56 - (8 * nI j)).toInt64 &&& 63)) = Int64.ofNat (dg 8 8 (fun i => bf (s + i) % 256) (j + 1)) ∨ 8 ≤ j := by
      by_cases h8 : 8 ≤ j
      · exact Or.inr h8
      · left
        rw [h58, show min j 8 = j from by omega]
        exact wl8_ok (fun i => Nat.mod_lt _ (by decide)) (by omega) (by omega) (Nat.mod_eq_of_lt (by omega))
    obtain ⟨σ', g1, g2, g3, g4, g5, g6⟩ := ih (j + 1) (rf_ui (rf_ul σ 58 (Int64.ofNat (dg 8 8 (fun i => bf (s + i) % 256) (min (j + 1) 8)))) 4 (nI (s + (j + 1)))) (by omega) (ht.nx (nxF.rfl.ul.ui (by omega))) (by rw [r1ui, if_pos rfl]) (by rw [r2ui, r2ul, if_pos rfl])
    refine ⟨σ', (nxF.rfl.ul.ui (by omega)).trans g1, by rw [g2, r1ui, if_neg (by decide)]; rfl, g3, g4, g5, fun Q hQ => ?_⟩
    have hq := g6 Q hQ
    have w60 : ∀ y, y = fl (al bf s (j + 1)) → w_X12_readWord_60 Q (w_X12_readWord_9 Q (r + 1)) σ (nI j) y := by
      intro y hy
      rw [hy]
      refine ⟨fun q => ?_, fun q => ?_⟩
      · have h8 := (nI_leI (a := 8) (by decide) (by omega)).mp q
        show w_X12_readWord_9 Q (r + 1) (rf_ui σ 4 (σ.1 4 + 1)) (nI j + 1) _
        rw [h4, nI_1, nI_1, show s + j + 1 = s + (j + 1) from by omega]
        rw [rf_uls (by rw [h58, show min j 8 = min (j + 1) 8 from by omega])] at hq
        exact hq
      · have h8 : ¬ 8 ≤ j := fun w => q (nI_le (a := 8) w (by omega))
        rw [h4]
        refine tb_in ht hz ?_
        show w_X12_readWord_9 Q (r + 1) (rf_ui (rf_ul σ 58 (σ.2.1 58 ||| ((nI (bf (s + j))).toInt64 <<< ((56 - (8 * nI j)).toInt64 &&& 63)))) 4 (σ.1 4 + 1)) (nI j + 1) _
        rcases e58 with e58 | e58
        · rw [e58, h4, nI_1, nI_1, show s + j + 1 = s + (j + 1) from by omega]
          rw [show min (j + 1) 8 = j + 1 from by omega] at hq
          exact hq
        · exact absurd e58 h8
    have w37 : w_X12_readWord_37 Q (w_X12_readWord_9 Q (r + 1)) σ (nI j) (fl (al bf s j)) := by
      refine ⟨fun q => w60 0 ?_, fun q => ?_⟩
      · refine (fl_f ?_).symm
        have q9 : al bf s j = false := b_ff.mpr (fun w => by rw [fl_t w] at q; exact absurd q (by decide))
        rw [al, q9, Bool.false_and]
      · rw [h4]
        have q := fl_1.mp q
        refine tb_in ht hz (rb_L hb (fun hl => ⟨fun q => absurd q (by decide), fun _ => w60 1 ?_⟩) (fun hl => ⟨fun _ => w60 0 ?_, fun q => absurd rfl q⟩))
        · rw [al, q, hl]; rfl
        · rw [al, q, hl]; rfl
    show wp_X12_byteAt _ σ (σ.1 4)
    rw [h4]
    refine tb_in ht hz (rb_L hb (fun _ => ⟨fun _ => w37, fun q => absurd q (by decide)⟩) (fun hl => ⟨fun q => absurd rfl q, fun _ => ?_⟩))
    rw [h4]
    refine tb_in ht hz (rb_D hb (fun _ => ⟨fun q => absurd q (by decide), fun _ => w37⟩) (fun hd => ?_))
    rw [bA, hl, hd] at hA
    cases hA
theorem rC_w {A : Int64} : rC (wkl A 20) = 1 := by
  have h : ∀ k, k ≤ 20 → wkl A k = 2 ∨ 20 ≤ wkl A k := by
    intro k
    induction k with
    | zero => intro _; exact Or.inl rfl
    | succ k ih =>
      intro hk
      rw [wkl]
      split
      · omega
      · exact ih (by omega)
  have := h 20 (Nat.le_refl _)
  have := wkl_ge A 20
  unfold rC
  rw [if_neg (by omega), if_neg (by omega), if_pos (by omega)]
theorem r_word (ht : tJ σ z bf) (hs : s < z) (hl : bL (bf s) = true) (h4 : σ.1 4 = nI s) (h55 : σ.1 55 = nI s) : ∃ σ', nxF σ σ' ∧ rTk σ' s (tk bf z s) ∧ ∀ Q : rf_S → Prop, Q σ' → wp_X12_readWord Q σ := by
  have hw : rnW bA bf z s (rn bA bf (z - s) s) := rn_w (z - s) s (by omega)
  have h1 : 1 ≤ rn bA bf (z - s) s := rn_1 hs (by rw [bA, hl]; rfl)
  obtain ⟨σ', g1, g2, g3, g4, g5, g6⟩ := r_w9 hw h1 (rn bA bf (z - s) s) 0 (rf_ul σ 58 0) (by omega) (ht.nx nxF.rfl.ul) h4 (by rw [r2ul, if_pos rfl]; rfl)
  have e : tk bf z s = tkW bf s (rn bA bf (z - s) s) := by rw [tk, if_pos hl]
  refine ⟨σ', nxF.rfl.ul.trans g1, ?_, fun Q hQ => ⟨_, g6 Q hQ⟩⟩
  rw [e, tkW]
  generalize hN : rn bA bf (z - s) s = N at *
  by_cases hg : al bf s N = true ∧ N ≤ 8
  · rw [if_pos hg] at g4 ⊢
    refine ⟨g4.trans rC_w.symm, g2.trans h55, fun _ => ⟨g3, fun _ => ⟨N, Int64.ofNat (dg 8 8 (fun i => bf (s + 8 + i) % 256) (N - 8)), h1, hg.2, ?_⟩, fun q1 q2 => ?_, fun q => ?_⟩⟩
    · have := wd_of bf s N (by omega) (fun i hi => bL_t.mp ((al_t N).mp hg.1 i hi))
      rw [← g5] at this
      exact this
    · have h9 := wkl_ge (Int64.ofNat (dg 5 12 (lf bf s) N)) 20
      have h8 := @rC_w (Int64.ofNat (dg 5 12 (lf bf s) N))
      have q1 : 3 ≤ wkl (Int64.ofNat (dg 5 12 (lf bf s) N)) 20 := q1
      have q2 : wkl (Int64.ofNat (dg 5 12 (lf bf s) N)) 20 ≤ 16 := q2
      unfold rC at h8
      rw [if_neg (by omega), if_neg (by omega), if_neg (by omega)] at h8
      split at h8
      · exact absurd h8 (by decide)
      · split at h8
        · exact absurd h8 (by decide)
        · split at h8 <;> exact absurd h8 (by decide)
    · have h8 := @rC_w (Int64.ofNat (dg 5 12 (lf bf s) N))
      have q : wkl (Int64.ofNat (dg 5 12 (lf bf s) N)) 20 = 4 := q
      rw [q] at h8
      exact absurd h8 (by decide)
  · rw [if_neg hg] at g4 ⊢
    exact ⟨g4, g2.trans h55, fun q => absurd q (by decide)⟩
/-- a text -/
theorem r_t18 (hw : rnW bP bf z (s + 1) n) : ∀ r j (σ : rf_S), j + r = n → tJ σ z bf → σ.1 4 = nI (s + 1 + j) → σ.1 57 = nI (s + 1) → ∃ σ', nxF σ σ' ∧ σ'.1 55 = σ.1 55 ∧ σ'.1 4 = nI (s + n + 2) ∧ σ'.1 57 = nI (s + 1) ∧ σ'.1 56 = nI n ∧ σ'.1 54 = (if s + 1 + n < z ∧ bf (s + 1 + n) = 34 ∧ n ≤ 24 then 3 else 6) ∧ ∀ Q : rf_S → Prop, Q σ' → w_X12_readText_18 Q (r + 1) σ := by
  obtain ⟨w1, w2, w3⟩ := hw
  intro r
  induction r with
  | zero =>
    intro j σ hj ht h4 h57
    have : j = n := by omega
    subst this
    have h2 := ht.2.1
    have e56 : σ.1 4 - σ.1 57 = nI j := by rw [h4, h57]; exact nI_sb (s + 1) j
    refine ⟨rf_ui (rf_ui (rf_ui σ 56 (nI j)) 54 (if s + 1 + j < z ∧ bf (s + 1 + j) = 34 ∧ j ≤ 24 then 3 else 6)) 4 (nI (s + j + 2)), ((nxF.rfl.ui (by omega)).ui (by omega)).ui (by omega), ?_, by rw [r1ui, if_pos rfl], ?_, ?_, ?_, fun Q hQ => ?_⟩
    · rw [r1ui, if_neg (by decide), r1ui, if_neg (by decide), r1ui, if_neg (by decide)]
    · rw [r1ui, if_neg (by decide), r1ui, if_neg (by decide), r1ui, if_neg (by decide)]; exact h57
    · rw [r1ui, if_neg (by decide), r1ui, if_neg (by decide), r1ui, if_pos rfl]
    · rw [r1ui, if_neg (by decide), r1ui, if_pos rfl]
    have e4 : (rf_ui σ 56 (nI j)).1 4 + 1 = nI (s + j + 2) := by rw [r1ui, if_neg (by decide), h4, nI_1]; congr 1; omega
    have e57 : (rf_ui σ 56 (nI j)).1 56 = nI j := by rw [r1ui, if_pos rfl]
    have ht5 : tJ (rf_ui σ 56 (nI j)) z bf := ht.nx (nxF.rfl.ui (by omega))
    have fin : w_X12_readText_70 Q σ := by
      show wp_X12_byteAt _ (rf_ui σ 56 (σ.1 4 - σ.1 57)) (σ.1 4)
      rw [e56, h4]
      have bad : ¬ (s + 1 + j < z ∧ bf (s + 1 + j) = 34 ∧ j ≤ 24) → w_X12_readText_110 Q (rf_ui σ 56 (nI j)) := by
        intro q
        rw [if_neg q] at hQ
        show Q (rf_ui (rf_ui (rf_ui σ 56 (nI j)) 54 6) 4 ((rf_ui σ 56 (nI j)).1 4 + 1))
        rw [e4]; exact hQ
      by_cases hz : s + 1 + j < z
      · refine tb_in ht5 hz ⟨fun q => bad (fun w => q (by rw [w.2.1]; rfl)), fun q => ⟨fun q2 => bad (fun w => ?_), fun q2 => ?_⟩⟩
        · rw [e57] at q2; exact nI_nlt (a := 24) w.2.2 (by decide) q2
        · rw [e57] at q2
          rw [if_pos ⟨hz, (nI_eq (b := 34) (by have := ht.2.2.1 _ hz; omega) (by decide)).mp q, Nat.le_of_not_lt (fun w => q2 (nI_lt (a := 24) w (by omega)))⟩] at hQ
          show Q (rf_ui (rf_ui (rf_ui σ 56 (nI j)) 54 3) 4 ((rf_ui σ 56 (nI j)).1 4 + 1))
          rw [e4]; exact hQ
      · exact tb_out ht5 (by omega) (by omega) ⟨fun _ => bad (fun w => hz w.1), fun q => absurd q (by decide)⟩
    show wp_X12_byteAt _ σ (σ.1 4)
    rw [h4]
    by_cases hz : s + 1 + j < z
    · have hb := ht.2.2.1 _ hz
      have hnp := w3 hz
      refine tb_in ht hz ⟨fun _ => fin, fun q => ?_⟩
      rw [h4]
      refine tb_in ht hz ⟨fun _ => fin, fun q2 => ?_⟩
      rw [h4]
      refine tb_in ht hz ⟨fun _ => fin, fun q3 => ?_⟩
      have : bP (bf (s + 1 + j)) = true := bP_t.mpr ⟨Nat.le_of_not_lt (fun w => q (nI_lt (b := 32) w (by decide))), Nat.le_of_not_lt (fun w => q2 (nI_le (a := 127) (by omega) (by omega))), fun w => q3 (by rw [w]; rfl)⟩
      rw [hnp] at this
      cases this
    · exact tb_out ht (by omega) (by omega) ⟨fun _ => fin, fun q => absurd (by decide) q⟩
  | succ r ih =>
    intro j σ hj ht h4 h57
    have h2 := ht.2.1
    have hz : s + 1 + j < z := by omega
    have hP := bP_t.mp (w2 j (by omega))
    obtain ⟨σ', g1, g2, g3, g4, g5, g6, g7⟩ := ih (j + 1) (rf_ui σ 4 (nI (s + 1 + (j + 1)))) (by omega) (ht.nx (nxF.rfl.ui (by omega))) (by rw [r1ui, if_pos rfl]) (by rw [r1ui, if_neg (by decide)]; exact h57)
    refine ⟨σ', (nxF.rfl.ui (by omega)).trans g1, by rw [g2, r1ui, if_neg (by decide)], g3, g4, g5, g6, fun Q hQ => ?_⟩
    have hq := g7 Q hQ
    show wp_X12_byteAt _ σ (σ.1 4)
    rw [h4]
    refine tb_in ht hz ⟨fun q => absurd q (nI_nlt (b := 32) hP.1 (by omega)), fun _ => ?_⟩
    rw [h4]
    refine tb_in ht hz ⟨fun q => absurd q (nI_ge (b := 127) (a := bf (s + 1 + j)) (by omega) (by decide)), fun _ => ?_⟩
    rw [h4]
    refine tb_in ht hz ⟨fun q => absurd ((nI_eq (b := 34) (by omega) (by decide)).mp q) hP.2.2, fun _ => ?_⟩
    rw [h4, nI_1, show s + 1 + j + 1 = s + 1 + (j + 1) from by omega]
    exact hq
theorem r_text (ht : tJ σ z bf) (hs : s < z) (hl : bL (bf s) = false) (h34 : bf s = 34) (h4 : σ.1 4 = nI s) (h55 : σ.1 55 = nI s) : ∃ σ', nxF σ σ' ∧ rTk σ' s (tk bf z s) ∧ ∀ Q : rf_S → Prop, Q σ' → wp_X12_readText Q σ := by
  have hw : rnW bP bf z (s + 1) (rn bP bf (z - (s + 1)) (s + 1)) := rn_w (z - (s + 1)) (s + 1) (by omega)
  obtain ⟨σ', g1, g2, g3, g4, g5, g6, g7⟩ := r_t18 hw _ 0 (rf_ui (rf_ui σ 4 (nI (s + 1))) 57 (nI (s + 1))) (Nat.zero_add _) (ht.nx ((nxF.rfl.ui (by omega)).ui (by omega))) (by rw [r1ui, if_neg (by decide), r1ui, if_pos rfl]) (by rw [r1ui, if_pos rfl])
  have e : tk bf z s = tkQ bf z s (rn bP bf (z - (s + 1)) (s + 1)) := by rw [tk, if_neg (by rw [hl]; decide), if_pos h34]
  refine ⟨σ', ((nxF.rfl.ui (by omega)).ui (by omega)).trans g1, ?_, fun Q hQ => ⟨rn bP bf (z - (s + 1)) (s + 1) + 1, ?_⟩⟩
  · have h55' : σ'.1 55 = nI s := by rw [g2, r1ui, if_neg (by decide), r1ui, if_neg (by decide)]; exact h55
    rw [e, tkQ]
    generalize hN : rn bP bf (z - (s + 1)) (s + 1) = N at *
    by_cases hg : s + 1 + N < z ∧ bf (s + 1 + N) = 34 ∧ N ≤ 24
    · rw [if_pos hg] at g6 ⊢
      exact ⟨g6, h55', fun _ => ⟨g3, fun q => absurd q (by show ¬ ((4 : Nat) = 2 ∨ 20 ≤ 4); decide), fun _ _ => g5, fun _ => g4⟩⟩
    · rw [if_neg hg] at g6 ⊢
      exact ⟨g6, h55', fun q => absurd q (by decide)⟩
  · rw [h4, nI_1]
    exact g7 Q hQ
/-- a sign -/
theorem r_s108 {x2 : Bool} {y1 : Int32} (h4 : σ.1 4 = nI s) {Q : rf_S → Prop} (hQ : Q (rf_ui (rf_ui (rf_ui σ 54 y1) 56 (if x2 = true then nI (256 + b) else nI b)) 4 (nI (s + (if x2 = true then 2 else 1))))) : w_X12_readSign_108 Q σ (nI b) (fl x2) y1 := by
  cases x2 with
  | false =>
    rw [if_neg (by decide), if_neg (by decide)] at hQ
    refine ⟨fun _ => ⟨fun _ => ?_, fun q => absurd rfl q⟩, fun q => absurd rfl q⟩
    show Q (rf_ui (rf_ui (rf_ui σ 54 y1) 56 (nI b)) 4 ((rf_ui σ 54 y1).1 4 + 1))
    rw [r1ui, if_neg (by decide), h4, nI_1]; exact hQ
  | true =>
    rw [if_pos rfl, if_pos rfl] at hQ
    refine ⟨fun q => absurd q (by decide), fun _ => ⟨fun q => absurd q (by decide), fun _ => ?_⟩⟩
    show Q (rf_ui (rf_ui (rf_ui σ 54 y1) 56 (256 + nI b)) 4 ((rf_ui σ 54 y1).1 4 + 2))
    rw [r1ui, if_neg (by decide), h4, show nI s + (2 : Int32) = nI (s + 2) from nI_add s 2, show (256 : Int32) + nI b = nI (256 + b) from nI_add 256 b]; exact hQ
theorem r_s38 {e : Bool} (hb : b < 256) (h4 : σ.1 4 = nI s) {Q : rf_S → Prop} (hQ : Q (rf_ui (rf_ui (rf_ui σ 54 (rC (sgK b e))) 56 (if sg2 b e = true then nI (256 + b) else nI b)) 4 (nI (s + (if sg2 b e = true then 2 else 1))))) : w_X12_readSign_38 Q σ (nI b) (fl (sg2 b e)) := by
  have w108 := r_s108 (b := b) h4 hQ
  have n : ∀ c : Nat, c < 256 → (nI b = nI c ↔ b = c) := fun c hc => nI_eq (by omega) (by omega)
  have ne : ∀ c : Nat, c < 256 → ¬ nI b = nI c → ¬ b = c := fun c hc q w => q (by rw [w])
  have w87 : (b = 40 ∨ b = 41 ∨ b = 44 ∨ b = 59 ∨ b = 47 ∨ b = 61 ∨ b = 60 ∨ b = 62) → w_X12_readSign_87 Q σ (nI b) (fl (sg2 b e)) := by
    intro hc
    have e5 : rC (sgK b e) = 5 := by
      rcases hc with rfl | rfl | rfl | rfl | rfl | rfl | rfl | rfl <;> cases e <;> decide
    rw [e5] at w108
    exact ⟨fun _ => w108, fun _ => ⟨fun q => absurd q (by decide), fun _ => w108⟩⟩
  refine ⟨fun q => w87 (Or.inl ((n 40 (by decide)).mp q)), fun q1 => ⟨fun q => w87 (Or.inr (Or.inl ((n 41 (by decide)).mp q))), fun q2 => ⟨fun q => w87 (Or.inr (Or.inr (Or.inl ((n 44 (by decide)).mp q)))), fun q3 => ⟨fun q => w87 (Or.inr (Or.inr (Or.inr (Or.inl ((n 59 (by decide)).mp q))))), fun q4 => ⟨fun q => w87 (Or.inr (Or.inr (Or.inr (Or.inr (Or.inl ((n 47 (by decide)).mp q)))))), fun q5 => ⟨fun q => w87 (Or.inr (Or.inr (Or.inr (Or.inr (Or.inr (Or.inl ((n 61 (by decide)).mp q))))))), fun q6 => ⟨fun q => w87 (Or.inr (Or.inr (Or.inr (Or.inr (Or.inr (Or.inr (Or.inl ((n 60 (by decide)).mp q)))))))), fun q7 => ⟨fun q8 => ?_, fun q => w87 (Or.inr (Or.inr (Or.inr (Or.inr (Or.inr (Or.inr (Or.inr ((n 62 (by decide)).mp q))))))))⟩⟩⟩⟩⟩⟩⟩⟩
  have q1 := ne 40 (by decide) q1
  have q2 := ne 41 (by decide) q2
  have q3 := ne 44 (by decide) q3
  have q4 := ne 59 (by decide) q4
  have q5 := ne 47 (by decide) q5
  have q6 := ne 61 (by decide) q6
  have q7 := ne 60 (by decide) q7
  have q8 := ne 62 (by decide) q8
  have eK : sgK b e = if b = 33 then (if e = true then 12 else 0) else 0 := by
    unfold sgK
    rw [if_neg q1, if_neg q2, if_neg q3, if_neg q4, if_neg q5, if_neg q6, if_neg q7, if_neg q8]
  by_cases h2 : sg2 b e = true
  · have h3 := h2
    rw [sg2, Bool.and_eq_true, decide_eq_true_eq] at h3
    have h33 : b = 33 := by omega
    rw [eK, if_pos h33, if_pos h3.1] at w108
    exact ⟨fun _ => w108, fun q => absurd q (fl_1.mpr h2)⟩
  · have h2f : sg2 b e = false := b_ff.mpr h2
    have e0 : sgK b e = 0 := by
      rw [eK]
      split
      · rename_i h33
        rw [if_neg (fun he => h2 (by rw [sg2, he, h33]; rfl))]
      · rfl
    rw [e0] at w108
    refine ⟨fun q => absurd (fl_f h2f) q, fun _ => ⟨fun _ => w108, fun q => absurd rfl q⟩⟩
theorem r_sign (ht : tJ σ z bf) (hs : s < z) (hl : bL (bf s) = false) (h34 : ¬ bf s = 34) (h45 : ¬ bf s = 45) (hd : bD (bf s) = false) (h4 : σ.1 4 = nI s) (h55 : σ.1 55 = nI s) : ∃ σ', nxF σ σ' ∧ rTk σ' s (tk bf z s) ∧ ∀ Q : rf_S → Prop, Q σ' → wp_X12_readSign Q σ (nI (bf s)) := by
  have e : tk bf z s = tkG bf z s := by rw [tk, if_neg (by rw [hl]; decide), if_neg h34, if_neg h45, if_neg (by rw [hd]; decide)]
  have hb := ht.2.2.1 _ hs
  generalize hE : decide (s + 1 < z ∧ bf (s + 1) = 61) = E
  refine ⟨rf_ui (rf_ui (rf_ui σ 54 (rC (sgK (bf s) E))) 56 (if sg2 (bf s) E = true then nI (256 + bf s) else nI (bf s))) 4 (nI (s + (if sg2 (bf s) E = true then 2 else 1))), ((nxF.rfl.ui (by omega)).ui (by omega)).ui (by omega), ?_, fun Q hQ => ?_⟩
  · rw [e, tkG, hE]
    refine ⟨?_, ?_, fun _ => ⟨by rw [r1ui, if_pos rfl], fun q => ?_, fun _ _ => ?_, fun q => ?_⟩⟩
    · rw [r1ui, if_neg (by decide), r1ui, if_neg (by decide), r1ui, if_pos rfl]
    · rw [r1ui, if_neg (by decide), r1ui, if_neg (by decide), r1ui, if_neg (by decide)]; exact h55
    · have h9 := sgK_b (bf s) E
      have q : sgK (bf s) E = 2 ∨ 20 ≤ sgK (bf s) E := q
      omega
    · rw [r1ui, if_neg (by decide), r1ui, if_pos rfl]
    · have h9 := sgK_b (bf s) E
      have q : sgK (bf s) E = 4 := q
      omega
  · have w38 := r_s38 (e := E) hb h4 hQ
    show wp_X12_byteAt _ σ (σ.1 4 + 1)
    rw [h4, nI_1]
    have w37 : sg2 (bf s) E = false → w_X12_readSign_37 Q σ (nI (bf s)) := by
      intro q
      rw [fl_f q] at w38
      exact w38
    have w33 : sg2 (bf s) E = true → w_X12_readSign_33 Q σ (nI (bf s)) := by
      intro q
      rw [fl_t q] at w38
      exact w38
    by_cases hz : s + 1 < z
    · refine tb_in ht hz ⟨fun q => w37 ?_, fun q => ?_⟩
      · rw [← hE, decide_eq_false (fun w => q (by rw [w.2]; rfl))]; rfl
      · have q := (nI_eq (b := 61) (by have := ht.2.2.1 _ hz; omega) (by decide)).mp q
        have hE : E = true := by rw [← hE]; exact decide_eq_true ⟨hz, q⟩
        refine ⟨fun w => w33 ?_, fun n33 => ⟨fun w => w33 ?_, fun n60 => ⟨fun w => w37 ?_, fun w => w33 ?_⟩⟩⟩
        · have w := (nI_eq (b := 33) (by omega) (by decide)).mp w
          rw [sg2, hE, w]; rfl
        · have w := (nI_eq (b := 60) (by omega) (by decide)).mp w
          rw [sg2, hE, w]; rfl
        · rw [sg2, hE, Bool.true_and, decide_eq_false_iff_not]
          rintro (h | h | h)
          · exact n33 (by rw [h]; rfl)
          · exact n60 (by rw [h]; rfl)
          · exact w (by rw [h]; rfl)
        · have w := (nI_eq (b := 62) (by omega) (by decide)).mp w
          rw [sg2, hE, w]; rfl
    · refine tb_out ht (by omega) (by have := ht.2.1; omega) ⟨fun _ => w37 ?_, fun q => absurd q (by decide)⟩
      rw [← hE, decide_eq_false (fun w => hz w.1)]; rfl
end RNX
