/-! ===== values in a text of rules: the class ===== -/
theorem gw.fx {S S' : cs_S} {E : Nat → Nat → Nat → Prop} (h : gw S S') : fX E S S' := fun a ha => by
  obtain ⟨h1, h2, h3, h4, h5, h6, h7, h8⟩ := h (a + 1) a ha
  exact ⟨h1, h2, fun f _ => h5 f (fun e => absurd e (by omega)), fun f _ => h3 f, fun f _ => h4 f, fun j _ => h6 j, fun j _ => h7 j, fun j _ => h8 j⟩
section TQ
variable {bf : Nat → Nat} {z s : Nat}
theorem tk_q (hs : s < z) (h : (tk bf z s).1 = 4) : ∃ n, (tk bf z s).2.2.1 = Int64.ofNat n ∧ (tk bf z s).2.2.2 = nI n ∧ n ≤ 24 ∧ s + 1 + n < z ∧ ∀ i, i < n → 32 ≤ bf (s + 1 + i) ∧ bf (s + 1 + i) ≤ 126 := by
  have num : ∀ d n, ¬ (tkN bf s d n).1 = 4 := by
    intro d n
    unfold tkN
    split
    · show ¬ (3 : Nat) = 4; decide
    · show ¬ (0 : Nat) = 4; decide
  unfold tk at h ⊢
  by_cases hl : bL (bf s) = true
  · rw [if_pos hl] at h
    unfold tkW at h
    split at h
    · have h : wkl (Int64.ofNat (dg 5 12 (lf bf s) (rn bA bf (z - s) s))) 20 = 4 := h
      have := wkl_20 (Int64.ofNat (dg 5 12 (lf bf s) (rn bA bf (z - s) s))) 20
      omega
    · have h : (0 : Nat) = 4 := h
      omega
  · rw [if_neg hl] at h ⊢
    by_cases h34 : bf s = 34
    · rw [if_pos h34] at h ⊢
      have hw : rnW bP bf z (s + 1) (rn bP bf (z - (s + 1)) (s + 1)) := rn_w (z - (s + 1)) (s + 1) (by omega)
      generalize rn bP bf (z - (s + 1)) (s + 1) = N at h hw ⊢
      unfold tkQ at h ⊢
      split at h
      · rename_i q
        rw [if_pos q]
        refine ⟨N, rfl, rfl, q.2.2, q.1, fun i hi => ?_⟩
        have := bP_t.mp (hw.2.1 i hi)
        exact ⟨this.1, this.2.1⟩
      · have h : (0 : Nat) = 4 := h
        omega
    · rw [if_neg h34] at h
      by_cases h45 : bf s = 45
      · rw [if_pos h45] at h; exact absurd h (num _ _)
      · rw [if_neg h45] at h
        by_cases hd : bD (bf s) = true
        · rw [if_pos hd] at h
          split at h
          · unfold tkA at h
            split at h
            · have h : (5 : Nat) = 4 := h
              omega
            · have h : (0 : Nat) = 4 := h
              omega
          · exact absurd h (num _ _)
        · rw [if_neg hd] at h
          have h9 := sgK_b (bf s) (decide (s + 1 < z ∧ bf (s + 1) = 61))
          have h : sgK (bf s) (decide (s + 1 < z ∧ bf (s + 1) = 61)) = 4 := h
          omega
theorem tk_32 (h1 : 3 ≤ (tk bf z s).1) (h2 : (tk bf z s).1 ≤ 5) : (tk bf z s).2.2.1.toInt32 = (tk bf z s).2.2.2 := by
  have num : ∀ d n, 3 ≤ (tkN bf s d n).1 → (tkN bf s d n).2.2.1.toInt32 = (tkN bf s d n).2.2.2 := by
    intro d n h
    unfold tkN at h ⊢
    split at h
    · rename_i q
      rw [if_pos q]
      exact Int64.toInt32_ofInt
    · have h : 3 ≤ (0 : Nat) := h
      omega
  unfold tk at h1 h2 ⊢
  by_cases hl : bL (bf s) = true
  · rw [if_pos hl] at h1 h2
    unfold tkW at h1 h2
    split at h1
    · rename_i q
      rw [if_pos q] at h2
      have h1 : 3 ≤ wkl (Int64.ofNat (dg 5 12 (lf bf s) (rn bA bf (z - s) s))) 20 := h1
      have h2 : wkl (Int64.ofNat (dg 5 12 (lf bf s) (rn bA bf (z - s) s))) 20 ≤ 5 := h2
      have := wkl_20 (Int64.ofNat (dg 5 12 (lf bf s) (rn bA bf (z - s) s))) 20
      omega
    · have h1 : 3 ≤ (0 : Nat) := h1
      omega
  · rw [if_neg hl] at h1 h2 ⊢
    by_cases h34 : bf s = 34
    · rw [if_pos h34] at h1 ⊢
      generalize rn bP bf (z - (s + 1)) (s + 1) = N at h1 ⊢
      unfold tkQ at h1 ⊢
      split at h1
      · rename_i q
        rw [if_pos q]
        exact Int64.toInt32_ofNat'
      · have h1 : 3 ≤ (0 : Nat) := h1
        omega
    · rw [if_neg h34] at h1 h2 ⊢
      by_cases h45 : bf s = 45
      · rw [if_pos h45] at h1 ⊢; exact num _ _ h1
      · rw [if_neg h45] at h1 h2 ⊢
        by_cases hd : bD (bf s) = true
        · rw [if_pos hd] at h1 ⊢
          split at h1
          · rename_i q
            rw [if_pos q]
            unfold tkA at h1 ⊢
            split at h1
            · rename_i q
              rw [if_pos q]
              exact Int32.toInt32_toInt64 _
            · have h1 : 3 ≤ (0 : Nat) := h1
              omega
          · rename_i q
            rw [if_neg q]
            exact num _ _ h1
        · rw [if_neg hd] at h1 h2
          have h9 := sgK_b (bf s) (decide (s + 1 < z ∧ bf (s + 1) = 61))
          have h1 : 3 ≤ sgK (bf s) (decide (s + 1 < z ∧ bf (s + 1) = 61)) := h1
          have h2 : sgK (bf s) (decide (s + 1 < z ∧ bf (s + 1) = 61)) ≤ 5 := h2
          omega
end TQ
section CVA
variable {G cx : Nat → Nat} {bf : Nat → Nat} {z c nr i : Nat} {ra : Nat → Nat} {nm : Nat → Int64} {S : cs_S} {post : Option Nat → cs_S → Prop} {mc ms : Nat}
def vso (w : Nat) : Int32 := if w = 4 then 1 else if w = 3 then 0 else 2
/-- behind the bytes: the step, and the value -/
theorem c_v165 (ht : tC bf z c) {S0 : cs_S} (h0 : pA G cx bf z c nr ra nm i S0) (hF : fX (fun _ _ _ => False) S0 S) {w ty L u v : Nat} (hk : kt bf z i = w) (hw1 : 3 ≤ w) (hw2 : w ≤ 5) (hty : cs_k S ty = 20) (hn : cs_n S ty = L) (hL : L ≤ 24) (hL2 : (w = 4 ∧ (at_ bf z i).2.2.2 = nI L) ∨ (¬ w = 4 ∧ L = 0)) (hu : u + 1 ≤ mc) (hv : v + 4 ≤ ms)
    (hp : ∀ S1 v, pA G cx bf z c nr ra nm (i + 1) S1 → fX (pE (cx 0)) S0 S1 → cs_k S0 v = 0 → cvW S1 v ty L → cs_i S1 1000 v = vso w → cs_i S1 1001 v = (at_ bf z i).2.2.2 → (∀ j, cs_ai S1 ty j = cs_ai S ty j) → post (some v) S1) : w_X5_readValue_165 post G mc ms S u v (cx 0) (at_ bf z i).2.2.2 (some ty) := by
  have h : pA G cx bf z c nr ra nm i S := h0.fx hF (fun _ _ _ q => q.elim)
  have hlt := ht.lt h.2.1 (by omega)
  have e6 : cs_i S 606 (cx 0) = nI w := by rw [h.2.2.2.2, hk]
  have hF' : fX (pE (cx 0)) S0 S := hF.mono (fun _ _ _ q => q.elim)
  have w190 : ∀ y, y = vso w → w_X5_readValue_190 post G mc ms S u v (cx 0) (at_ bf z i).2.2.2 (some ty) y := by
    intro y hy
    refine ⟨by omega, by omega, h.1.1.1, c_step ht h hlt (fun S39 h39 f39 => ⟨hu, hv, vn_ok (b := ty) ?_ ?_ (fun va S' hw => ?_)⟩)⟩
    · rw [(f39 ty (by rw [hty]; decide)).1]; exact hty
    · rw [(f39 ty (by rw [hty]; decide)).2.1, hn]; omega
    · obtain ⟨g1, g2, g3, g4, g5, g6, g7⟩ := hw
      have l39 : cs_k S39 ty ≠ 0 := by rw [(f39 ty (by rw [hty]; decide)).1, hty]; decide
      have ai39 : ∀ j, cs_ai S39 ty j = cs_ai S ty j := fun j => (f39 ty (by rw [hty]; decide)).2.2.2.2.2.1 j (fun q => absurd q.1 (by decide))
      have gf : fX (fun _ _ _ => False) S39 S' := g2.fx
      have ai' : ∀ j, cs_ai S' ty j = cs_ai S39 ty j := fun j => (gf ty l39).2.2.2.2.2.1 j (fun q => q)
      have kt' : cs_k S' ty = 20 := (gf ty l39).1.trans ((f39 ty (by rw [hty]; decide)).1.trans hty)
      have nt' : cs_n S' ty = L := (gf ty l39).2.1.trans ((f39 ty (by rw [hty]; decide)).2.1.trans hn)
      have hai : cs_ai S39 ty = cs_ai S' ty := funext (fun j => (ai' j).symm)
      have n39 : cs_n S39 ty = L := (f39 ty (by rw [hty]; decide)).2.1.trans hn
      refine hp S' va (h39.fx gf (fun _ _ _ q => q.elim)) ((hF'.trans f39).trans g2.fx) ((hF'.trans f39).dead g1) ⟨g3, g6, kt', nt', hL, ?_, ?_⟩ (g4.trans hy) g5 (fun j => (ai' j).trans (ai39 j))
      · rw [g7, g4, g5, hai, n39]
      · rw [g4, g5, hy]
        rcases hL2 with ⟨a, b⟩ | ⟨a, b⟩
        · left
          unfold vso
          rw [if_pos a]
          exact ⟨rfl, b⟩
        · right
          unfold vso
          rw [if_neg a]
          refine ⟨?_, b⟩
          split <;> decide
  refine ⟨by omega, by omega, h.1.1.1, fun q => ⟨fun q2 => w190 2 ?_, fun q2 => w190 0 ?_⟩, fun q => w190 1 ?_⟩
  · unfold vso
    rw [if_neg (fun e => q (by rw [e6, e]; rfl)), if_neg (fun e => q2 (by rw [e6, e]; rfl))]
  · have := (nI_eq (b := 3) (by omega) (by decide)).mp (e6.symm.trans q2)
    unfold vso
    rw [if_neg (by omega), if_pos this]
  · have := (nI_eq (b := 4) (by omega) (by decide)).mp (e6.symm.trans q)
    unfold vso
    rw [if_pos this]
theorem c_value (ht : tC bf z c) (h : pA G cx bf z c nr ra nm i S) {w : Nat} (hw : w ≤ 39) (hmc : 2 ≤ mc) (hms : 28 ≤ ms)
    (hp : kt bf z i = w → 3 ≤ w → w ≤ 5 → ∀ S1 v ty L, pA G cx bf z c nr ra nm (i + 1) S1 → fX (pE (cx 0)) S S1 → cs_k S v = 0 → cvW S1 v ty L → cs_i S1 1000 v = vso w → cs_i S1 1001 v = (at_ bf z i).2.2.2 → (w = 4 → (at_ bf z i).2.2.2 = nI L ∧ ∀ k, k < L → cs_ai S1 ty k = nI (bf (qp bf z i + 1 + k))) → post (some v) S1)
    (hb : ¬ (kt bf z i = w ∧ 3 ≤ w ∧ w ≤ 5) → ∀ S1, pQ G cx bf z c nr ra nm (fk2 bf z i) (fpl bf z i) S1 → fX (pE (cx 0)) S S1 → post none S1) : wp_X5_readValue post G mc ms S (cx 0) (nI w) := by
  have hK9 := ht.K39 h.2.1
  have hc := ht.2.2.1
  have hz := ht.1
  have e6 := h.2.2.2.2
  have kk : ∀ K : Nat, K < 40 → (cs_i S 606 (cx 0) = nI K ↔ kt bf z i = K) := fun K hK => by rw [e6]; exact nI_eq (by omega) (by omega)
  have w42 : ¬ (kt bf z i = w ∧ 3 ≤ w ∧ w ≤ 5) → w_X5_readValue_42 post G mc ms S 0 0 (cx 0) := fun q => ⟨by omega, by omega, h.1.1.1, c_fail ht h (by decide) (hb q)⟩
  -- a value
  have good : 3 ≤ kt bf z i → kt bf z i ≤ 5 → w_X5_readValue_29 post G mc ms S 0 0 (cx 0) (nI w) 1 := by
    intro k1 k2
    have hlt := ht.lt h.2.1 (by omega)
    obtain ⟨t1, t2, t3, -⟩ := ht.ti hlt
    have hin := h.1.at_ ht h.2.1 h.2.2.2.1
    refine ⟨by omega, by omega, h.1.1.1, fun q => w42 (fun e => q (by rw [(kk _ (by omega)).mpr rfl, e.1])), fun q => ⟨fun _ r64 e64 => ⟨cx 1, e64.trans h.1.1.2.1, h.1.2.1.1, fun r67 e67 => ⟨cx 4, e67.trans h.1.2.1.2.2.2.1, h.1.2.2.2.2.1.1, hin.1, fun r70 e70 => ⟨cx 1, e70.trans h.1.1.2.1, h.1.2.1.1, fun r73 e73 => ⟨cx 3, e73.trans h.1.2.1.2.2.1, h.1.2.2.2.1.1, hin.2, ?_⟩⟩⟩⟩, fun q => absurd q (by decide)⟩⟩
    have hkw : kt bf z i = w := (kk w (by omega)).mp q
    have eA : (cs_al S (cx 4) (cs_i S 605 (cx 0)).toNatClampNeg).toInt32 = (at_ bf z i).2.2.2 := by
      rw [h.am ht (by omega)]
      exact tk_32 (by show 3 ≤ (at_ bf z i).1; omega) (by show (at_ bf z i).1 ≤ 5; omega)
    have eP : cs_ai S (cx 3) (cs_i S 605 (cx 0)).toNatClampNeg + 1 = nI (qp bf z i + 1) := by
      rw [h.2.2.2.1, nI_clamp (by have := h.2.1; omega), (h.1.2.2.2.2.2.2.2.1 i (by have := h.2.1; omega)).2.1, nI_1]
      congr 1
      omega
    rw [eA, eP]
    have hG := h.1.2.2.2.2.2.2.2.2.2.2
    refine ⟨fun q4 => ⟨by omega, by omega, fun q => absurd rfl q, fun _ => ⟨by omega, by omega, 1, ?_⟩⟩, fun q4 => ?_⟩
    · have n4 : ¬ w = 4 := fun e => q4 ((kk 4 (by decide)).mpr (by omega))
      refine ⟨by omega, by omega, fun _ => c_v165 ht h fX.rfl hkw (by omega) (by omega) hG.1 hG.2 (by omega) (Or.inr ⟨n4, rfl⟩) (by omega) (by omega) (fun S1 v g1 g2 g3 g4 g5 g6 g7 => hp hkw (by omega) (by omega) S1 v (G 0) 0 g1 g2 g3 g4 g5 g6 (fun e => absurd e n4)), fun q => absurd (by decide) q⟩
    · have hw4 : w = 4 := by rw [← hkw]; exact (kk 4 (by decide)).mp q4
      obtain ⟨L, l1, l2, l3, l4, l5⟩ := tk_q (bf := bf) t2 (show (at_ bf z i).1 = 4 by omega)
      have l2 : (at_ bf z i).2.2.2 = nI L := l2
      have eL : (if (at_ bf z i).2.2.2 < 0 then 0 else (at_ bf z i).2.2.2) = nI L := by rw [l2]; exact if_neg (nI_pos (by omega))
      rw [eL]
      by_cases hL0 : L = 0
      · subst hL0
        refine ⟨by omega, by omega, fun q => absurd rfl q, fun _ => ⟨by omega, by omega, 1, by omega, by omega, fun _ => c_v165 ht h fX.rfl hkw (by omega) (by omega) hG.1 hG.2 (by omega) (Or.inl ⟨hw4, l2⟩) (by omega) (by omega) (fun S1 v g1 g2 g3 g4 g5 g6 g7 => hp hkw (by omega) (by omega) S1 v (G 0) 0 g1 g2 g3 g4 g5 g6 (fun _ => ⟨l2, fun k hk => absurd hk (Nat.not_lt_zero _)⟩)), fun q => absurd (by decide) q⟩⟩
      · have eC : (nI L).toNatClampNeg = L := nI_clamp (by omega)
        refine ⟨by omega, by omega, fun _ => ⟨nI_pos (by omega), ?_, by omega, by rw [eC]; omega, fun ty hty S62 e62 => ⟨by omega, by rw [eC]; omega, L + 1, ?_⟩⟩, fun q => absurd q (nI_ne0 (by omega) (by omega))⟩
        · rw [eC]
          show L * 4 ≤ 536870912
          omega
        · rw [eC] at e62 ⊢
          have hnt : cx 5 ≠ ty := fun e => by
            have := h.1.2.2.2.2.2.1.1
            rw [e, hty] at this
            exact absurd this (by decide)
          have loop : ∀ r k (S' : cs_S), k + r = L → fX (fun _ _ _ => False) S S' → cs_k S' ty = 20 → cs_n S' ty = L → (∀ j, j < k → cs_ai S' ty j = nI (bf (qp bf z i + 1 + j))) → w_X5_readValue_118 post G mc ms (r + 1) S' (0 + 1) (0 + L) (cx 0) (at_ bf z i).2.2.2 (nI (qp bf z i + 1)) (nI L) (some ty) (nI k) := by
            intro r
            induction r with
            | zero =>
              intro k S' hk hF hk' hn' hrow
              have : k = L := by omega
              subst this
              refine ⟨by omega, by omega, fun _ => c_v165 ht h hF hkw (by omega) (by omega) hk' hn' l3 (Or.inl ⟨hw4, l2⟩) (by omega) (by omega) (fun S1 v g1 g2 g3 g4 g5 g6 g7 => hp hkw (by omega) (by omega) S1 v ty k g1 g2 g3 g4 g5 g6 (fun _ => ⟨l2, fun j hj => by rw [g7]; exact hrow j hj⟩)), fun q => absurd (nI_le (Nat.le_refl _) (by omega)) q⟩
            | succ r ih =>
              intro k S' hk hF hk' hn' hrow
              have h' : pA G cx bf z c nr ra nm i S' := h.fx hF (fun _ _ _ q => q.elim)
              have h5 := h'.1.2.2.2.2.2.1
              refine ⟨by omega, by omega, fun q => absurd q (nI_ge (by omega) (by omega)), fun _ => ⟨h'.1.1.1, fun r46 e46 => ⟨cx 1, e46.trans h'.1.1.2.1, h'.1.2.1.1, fun r49 e49 => ⟨cx 5, e49.trans h'.1.2.1.2.2.2.2, h5.1, fun q => ?_, fun _ r52 e52 => ⟨cx 1, e52.trans h'.1.1.2.1, h'.1.2.1.1, fun r55 e55 => ⟨cx 5, e55.trans h'.1.2.1.2.2.2.2, h5.1, ?_, ty, rfl, hk', ?_, fun S60 e60 => ?_⟩⟩⟩⟩⟩⟩
              · rw [h5.2, nI_add] at q
                exact absurd q (nI_ge (b := 2100) (by omega) (by decide))
              · rw [h5.2, nI_add]
                exact nI_in (by omega) (by decide)
              · rw [hn']
                exact nI_in (by omega) (by omega)
              · rw [nI_add, nI_clamp (by omega), nI_clamp (by omega), h'.1.2.2.2.2.2.2.2.2.1 _ (by omega)] at e60
                rw [nI_1]
                have hF60 : fX (fun _ _ _ => False) S S60 := by rw [e60]; exact hF.uai (Or.inr hty)
                refine ih (k + 1) S60 (by omega) hF60 (by rw [e60]; exact hk') (by rw [e60]; exact hn') (fun j hj => ?_)
                rw [e60, aiuai]
                by_cases e : j = k
                · rw [if_pos ⟨rfl, e⟩, e]
                · rw [if_neg (fun q => e q.2)]
                  exact hrow j (by omega)
          refine loop L 0 S62 (by omega) (by rw [e62]; exact fX.rfl.newA hty) ?_ ?_ (fun j hj => absurd hj (Nat.not_lt_zero _))
          · rw [e62, knewA, if_pos rfl]
          · rw [e62, nnewA, if_pos rfl]
  refine ⟨h.1.1.1, fun q => ?_, fun q3 => ⟨fun q => ?_, fun q4 => ⟨fun q5 => ?_, fun q => ?_⟩⟩⟩
  · have := (kk 3 (by decide)).mp q
    exact ⟨by omega, by omega, good (by omega) (by omega)⟩
  · have := (kk 4 (by decide)).mp q
    exact ⟨by omega, by omega, good (by omega) (by omega)⟩
  · have n3 : ¬ kt bf z i = 3 := fun e => q3 ((kk 3 (by decide)).mpr e)
    have n4 : ¬ kt bf z i = 4 := fun e => q4 ((kk 4 (by decide)).mpr e)
    have n5 : ¬ kt bf z i = 5 := fun e => q5 ((kk 5 (by decide)).mpr e)
    have w := w42 (fun e => by omega)
    exact ⟨by omega, by omega, h.1.1.1, fun _ => w, fun _ => ⟨fun q => absurd rfl q, fun _ => w⟩⟩
  · have := (kk 5 (by decide)).mp q
    exact ⟨by omega, by omega, good (by omega) (by omega)⟩
end CVA
