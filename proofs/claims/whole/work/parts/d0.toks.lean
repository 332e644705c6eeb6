/-! ===== the row of tokens ===== -/
/-- kind, amount of token i -/
def kt (bf : Nat → Nat) (z i : Nat) : Nat := tK bf z (qp bf z i)
def at_ (bf : Nat → Nat) (z i : Nat) : tkT := tk bf z (qp bf z i)
/-- c tokens, and then the end or what is none -/
def tC (bf : Nat → Nat) (z c : Nat) : Prop := z ≤ 2100 ∧ (∀ j, j < z → bf j < 256) ∧ c ≤ 2000 ∧ kt bf z c ≤ 1 ∧ ∀ i, i < c → 2 ≤ kt bf z i
section TOK
variable {bf : Nat → Nat} {z c i s : Nat}
theorem tC.on (h : tC bf z c) (hi : i < c) (hq : qp bf z i ≤ z) : qp bf z i < 2000 ∧ qp bf z i < z ∧ kt bf z i = (at_ bf z i).1 ∧ kt bf z i ≤ 39 ∧ qp bf z i < (at_ bf z i).2.1 ∧ (at_ bf z i).2.1 ≤ qp bf z (i + 1) ∧ qp bf z (i + 1) ≤ z := by
  have h2 := h.2.2.2.2 i hi
  unfold kt at h2 ⊢
  have e : tK bf z (qp bf z i) = if 2000 ≤ qp bf z i ∧ 2000 < z then 0 else if z ≤ qp bf z i then 1 else (tk bf z (qp bf z i)).1 := rfl
  by_cases h3 : 2000 ≤ qp bf z i ∧ 2000 < z
  · rw [e, if_pos h3] at h2; omega
  · rw [e, if_neg h3] at h2
    by_cases h4 : z ≤ qp bf z i
    · rw [if_pos h4] at h2; omega
    · rw [if_neg h4] at h2
      obtain ⟨t1, t2, t3, t4⟩ := tk_ok (bf := bf) (z := z) (s := qp bf z i) (by omega) (by omega)
      have h5 := sk_le (bf := bf) (z := z) (p := (tk bf z (qp bf z i)).2.1) t4
      refine ⟨by omega, by omega, by rw [e, if_neg h3, if_neg h4]; rfl, by rw [e, if_neg h3, if_neg h4]; exact t2, t3, h5.1, h5.2⟩
theorem tC.le (h : tC bf z c) : ∀ i, i ≤ c → qp bf z i ≤ z := by
  intro i
  induction i with
  | zero => intro _; exact (sk_le (bf := bf) (z := z) (p := 0) (Nat.zero_le _)).2
  | succ i ih => intro hi; exact (h.on (i := i) (by omega) (ih (by omega))).2.2.2.2.2.2
theorem tC.ti (h : tC bf z c) (hi : i < c) : qp bf z i < 2000 ∧ qp bf z i < z ∧ kt bf z i = (at_ bf z i).1 ∧ kt bf z i ≤ 39 ∧ qp bf z i < (at_ bf z i).2.1 ∧ (at_ bf z i).2.1 ≤ qp bf z (i + 1) ∧ qp bf z (i + 1) ≤ z := h.on hi (h.le i (by omega))
theorem tC.K39 (h : tC bf z c) (hi : i ≤ c) : kt bf z i ≤ 39 := by
  by_cases e : i < c
  · exact (h.ti e).2.2.2.1
  · have : i = c := by omega
    subst this
    have := h.2.2.2.1
    omega
theorem tC.lt (h : tC bf z c) (hi : i ≤ c) (hk : 2 ≤ kt bf z i) : i < c := by
  rcases Nat.lt_or_eq_of_le hi with e | e
  · exact e
  · subst e
    have := h.2.2.2.1
    omega
theorem tC.ge (h : tC bf z c) : ∀ i, i ≤ c → i ≤ qp bf z i := by
  intro i
  induction i with
  | zero => intro _; exact Nat.zero_le _
  | succ i ih =>
    intro hi
    have h1 := ih (by omega)
    have h2 := h.ti (i := i) (by omega)
    omega
/-- the reserved words on both sides -/
def wtx : List Nat := [114,117,108,101,32,98,121,32,119,105,116,104,105,110,32,113,117,105,101,116,32,99,111,117,110,116,32,111,102,32,100,105,115,116,105,110,99,116,32,115,117,109,32,99,104,97,105,110,32,116,104,101,110,32,117,110,108,101,115,115,32,108,97,99,107,32,111,114,32,97,110,100,32,110,111,116,32,107,105,110,100,32,104,97,115,32,97,108,101,114,116,32,108,105,107,101,32,105,110,32]
def wtp : List (Nat × Nat) := [(0,4),(5,2),(8,6),(15,5),(21,5),(27,2),(30,8),(39,3),(43,5),(49,4),(54,6),(61,4),(66,2),(69,3),(73,3),(77,4),(82,3),(86,5),(92,4),(97,2)]
def wtf (p : Nat) : Nat := wtx.getD p 0
theorem wt_ok : ∀ k, k < 20 → (2 ≤ (wtp.getD k (0, 0)).2 ∧ (wtp.getD k (0, 0)).2 ≤ 8) ∧ (∀ i, i < (wtp.getD k (0, 0)).2 → 97 ≤ wtf ((wtp.getD k (0, 0)).1 + i) ∧ wtf ((wtp.getD k (0, 0)).1 + i) ≤ 122) ∧ cw_row k = Int64.ofNat (dg 5 12 (lf wtf (wtp.getD k (0, 0)).1) (wtp.getD k (0, 0)).2) ∧ rf_i0.2.2.2 59 k = Int64.ofNat (dg 8 8 (fun i => wtf ((wtp.getD k (0, 0)).1 + i) % 256) (min (wtp.getD k (0, 0)).2 8)) := by
  decide +kernel
theorem wt_wd {k : Nat} (hk : k < 20) : ∃ n l, 2 ≤ n ∧ n ≤ 8 ∧ wdR n (cw_row k) (rf_i0.2.2.2 59 k) l := by
  obtain ⟨⟨h1, h2⟩, h3, h4, h5⟩ := wt_ok k hk
  have hw := wd_of wtf (wtp.getD k (0, 0)).1 (wtp.getD k (0, 0)).2 (by omega) h3
  rw [← h4, ← h5] at hw
  exact ⟨_, _, h1, h2, hw⟩
theorem cw_uni : ∀ k, k < 20 → ∀ j, j < 20 → cw_row k = cw_row j → k = j := by decide +kernel
theorem wkl_i {A : Int64} : ∀ n, n ≤ 20 → (∀ k, k < n → (wkl A n = 20 + k ↔ cw_row k = A)) ∧ ((∀ k, k < n → ¬ cw_row k = A) → wkl A n = 2) ∧ ∀ m, wkl A n = 20 + m → m < n := by
  intro n
  induction n with
  | zero => intro _; exact ⟨fun k hk => absurd hk (Nat.not_lt_zero _), fun _ => rfl, fun m hm => by have : 2 = 20 + m := hm; omega⟩
  | succ n ih =>
    intro hn
    obtain ⟨i1, i2, i3⟩ := ih (by omega)
    rw [wkl]
    by_cases h : cw_row n = A
    · rw [if_pos h]
      refine ⟨fun k hk => ⟨fun e => ?_, fun e => ?_⟩, fun q => absurd h (q n (by omega)), fun m hm => by omega⟩
      · have : k = n := by omega
        rw [this]; exact h
      · have := cw_uni n (by omega) k (by omega) (h.trans e.symm)
        omega
    · rw [if_neg h]
      refine ⟨fun k hk => ?_, fun q => i2 (fun k hk => q k (by omega)), fun m hm => by have := i3 m hm; omega⟩
      by_cases e : k = n
      · rw [e]
        exact ⟨fun w => by have := i3 n w; omega, fun w => absurd w h⟩
      · exact i1 k (by omega)
/-- a word's kind is its own -/
theorem tk_w (h : (tk bf z s).1 = 2 ∨ 20 ≤ (tk bf z s).1) : (tk bf z s).1 = wkl (tk bf z s).2.2.1 20 := by
  have num : ∀ d n, ¬ ((tkN bf s d n).1 = 2 ∨ 20 ≤ (tkN bf s d n).1) := by
    intro d n
    unfold tkN
    split
    · show ¬ ((3 : Nat) = 2 ∨ 20 ≤ 3); omega
    · show ¬ ((0 : Nat) = 2 ∨ 20 ≤ 0); omega
  unfold tk at h ⊢
  by_cases hl : bL (bf s) = true
  · rw [if_pos hl] at h ⊢
    unfold tkW at h ⊢
    split at h
    · rename_i q
      rw [if_pos q]
    · have : (0 : Nat) = 2 ∨ 20 ≤ 0 := h
      omega
  · rw [if_neg hl] at h
    by_cases h34 : bf s = 34
    · rw [if_pos h34] at h
      unfold tkQ at h
      split at h
      · have : (4 : Nat) = 2 ∨ 20 ≤ 4 := h
        omega
      · have : (0 : Nat) = 2 ∨ 20 ≤ 0 := h
        omega
    · rw [if_neg h34] at h
      by_cases h45 : bf s = 45
      · rw [if_pos h45] at h; exact absurd h (num _ _)
      · rw [if_neg h45] at h
        by_cases hd : bD (bf s) = true
        · rw [if_pos hd] at h
          split at h
          · unfold tkA at h
            split at h
            · have : (5 : Nat) = 2 ∨ 20 ≤ 5 := h
              omega
            · have : (0 : Nat) = 2 ∨ 20 ≤ 0 := h
              omega
          · exact absurd h (num _ _)
        · rw [if_neg hd] at h
          have h9 := sgK_b (bf s) (decide (s + 1 < z ∧ bf (s + 1) = 61))
          have : sgK (bf s) (decide (s + 1 < z ∧ bf (s + 1) = 61)) = 2 ∨ 20 ≤ sgK (bf s) (decide (s + 1 < z ∧ bf (s + 1) = 61)) := h
          omega
/-- a reserved word has two letters or more -/
theorem w2_ne : ∀ k, k < 20 → ∀ f, f < 32 → ¬ cw_row k = Int64.ofNat (f * 2 ^ 55) := by decide +kernel
theorem tk_2 (hs : s < z) (h : 20 ≤ (tk bf z s).1) : s + 2 ≤ (tk bf z s).2.1 := by
  have hw := tk_w (bf := bf) (z := z) (s := s) (Or.inr h)
  obtain ⟨m, hm⟩ : ∃ m, (tk bf z s).1 = 20 + m := ⟨(tk bf z s).1 - 20, by omega⟩
  have h0 := hm
  rw [hw] at h0
  have hm2 := (wkl_i 20 (Nat.le_refl _)).2.2 m h0
  have hA := ((wkl_i 20 (Nat.le_refl _)).1 m hm2).mp h0
  obtain ⟨t1, t2, t3, t4⟩ := tk_ok hs (show ¬ (tk bf z s).1 = 0 by omega)
  have hne : ¬ (tk bf z s).2.1 = s + 1 := by
    intro he
    by_cases hl : bL (bf s) = true
    · have e : tk bf z s = tkW bf s (rn bA bf (z - s) s) := by rw [tk, if_pos hl]
      rw [e] at hA he h
      unfold tkW at hA he h
      split at hA
      · rename_i q
        rw [if_pos q] at he
        have he : s + rn bA bf (z - s) s = s + 1 := he
        have he : rn bA bf (z - s) s = 1 := by omega
        have hA : cw_row m = Int64.ofNat (dg 5 12 (lf bf s) (rn bA bf (z - s) s)) := hA
        rw [he, dg, dg, Nat.zero_add] at hA
        exact w2_ne m hm2 _ (lf_lt bf s 0) hA
      · rename_i q
        rw [if_neg q] at h
        have : 20 ≤ (0 : Nat) := h
        omega
    · have h2 := tk_w (bf := bf) (z := z) (s := s) (Or.inr h)
      -- no word begins so
      have num : ∀ d n, ¬ 20 ≤ (tkN bf s d n).1 := by
        intro d n
        unfold tkN
        split
        · show ¬ 20 ≤ 3; omega
        · show ¬ 20 ≤ 0; omega
      unfold tk at h
      rw [if_neg hl] at h
      by_cases h34 : bf s = 34
      · rw [if_pos h34] at h
        unfold tkQ at h
        split at h
        · have : 20 ≤ (4 : Nat) := h
          omega
        · have : 20 ≤ (0 : Nat) := h
          omega
      · rw [if_neg h34] at h
        by_cases h45 : bf s = 45
        · rw [if_pos h45] at h; exact num _ _ h
        · rw [if_neg h45] at h
          by_cases hd : bD (bf s) = true
          · rw [if_pos hd] at h
            split at h
            · unfold tkA at h
              split at h
              · have : 20 ≤ (5 : Nat) := h
                omega
              · have : 20 ≤ (0 : Nat) := h
                omega
            · exact num _ _ h
          · rw [if_neg hd] at h
            have h9 := sgK_b (bf s) (decide (s + 1 < z ∧ bf (s + 1) = 61))
            have : 20 ≤ sgK (bf s) (decide (s + 1 < z ∧ bf (s + 1) = 61)) := h
            omega
  omega
theorem tC.two (h : tC bf z c) (hi : i < c) (hk : 20 ≤ kt bf z i) : qp bf z i + 2 ≤ qp bf z (i + 1) := by
  obtain ⟨a1, a2, a3, a4, a5, a6, a7⟩ := h.ti hi
  rw [a3] at hk
  have := tk_2 a2 hk
  have e : (tk bf z (qp bf z i)).2.1 = (at_ bf z i).2.1 := rfl
  omega
theorem tC.one (h : tC bf z c) (hi : i < c) : qp bf z i + 1 ≤ qp bf z (i + 1) := by
  have := h.ti hi
  omega
/-- the number of a sign -/
def sgN (K : Nat) : Nat := [0, 0, 0, 0, 0, 0, 40, 41, 44, 59, 47, 61, 289, 60, 316, 62, 318].getD K 0
theorem sg_n (b : Nat) (e : Bool) (h : ¬ sgK b e = 0) : (if sg2 b e = true then 256 + b else b) = sgN (sgK b e) := by
  have hb : b = 40 ∨ b = 41 ∨ b = 44 ∨ b = 59 ∨ b = 47 ∨ b = 61 ∨ b = 33 ∨ b = 60 ∨ b = 62 := by
    unfold sgK at h
    by_cases q1 : b = 40; exact Or.inl q1
    rw [if_neg q1] at h
    by_cases q2 : b = 41; omega
    rw [if_neg q2] at h
    by_cases q3 : b = 44; omega
    rw [if_neg q3] at h
    by_cases q4 : b = 59; omega
    rw [if_neg q4] at h
    by_cases q5 : b = 47; omega
    rw [if_neg q5] at h
    by_cases q6 : b = 61; omega
    rw [if_neg q6] at h
    by_cases q7 : b = 33; omega
    rw [if_neg q7] at h
    by_cases q8 : b = 60; omega
    rw [if_neg q8] at h
    by_cases q9 : b = 62; omega
    rw [if_neg q9] at h
    exact absurd rfl h
  rcases hb with rfl | rfl | rfl | rfl | rfl | rfl | rfl | rfl | rfl <;> cases e <;> first | rfl | exact absurd rfl h
theorem tk_s (h1 : 6 ≤ (tk bf z s).1) (h2 : (tk bf z s).1 ≤ 16) : (tk bf z s).2.2.2 = nI (sgN (tk bf z s).1) := by
  have num : ∀ d n, ¬ 6 ≤ (tkN bf s d n).1 := by
    intro d n
    unfold tkN
    split
    · show ¬ 6 ≤ 3; omega
    · show ¬ 6 ≤ 0; omega
  unfold tk at h1 h2 ⊢
  by_cases hl : bL (bf s) = true
  · rw [if_pos hl] at h1 h2
    unfold tkW at h1 h2
    split at h1
    · rename_i q
      rw [if_pos q] at h2
      have h1 : 6 ≤ wkl (Int64.ofNat (dg 5 12 (lf bf s) (rn bA bf (z - s) s))) 20 := h1
      have h2 : wkl (Int64.ofNat (dg 5 12 (lf bf s) (rn bA bf (z - s) s))) 20 ≤ 16 := h2
      have hc := (rC_w (A := Int64.ofNat (dg 5 12 (lf bf s) (rn bA bf (z - s) s))))
      unfold rC at hc
      rw [if_neg (by omega), if_neg (by omega), if_neg (by omega), if_neg (by omega), if_neg (by omega), if_neg (by omega)] at hc
      exact absurd hc (by decide)
    · have : 6 ≤ (0 : Nat) := h1
      omega
  · rw [if_neg hl] at h1 h2 ⊢
    by_cases h34 : bf s = 34
    · rw [if_pos h34] at h1
      unfold tkQ at h1
      split at h1
      · have : 6 ≤ (4 : Nat) := h1
        omega
      · have : 6 ≤ (0 : Nat) := h1
        omega
    · rw [if_neg h34] at h1 h2 ⊢
      by_cases h45 : bf s = 45
      · rw [if_pos h45] at h1; exact absurd h1 (num _ _)
      · rw [if_neg h45] at h1 h2 ⊢
        by_cases hd : bD (bf s) = true
        · rw [if_pos hd] at h1
          split at h1
          · unfold tkA at h1
            split at h1
            · have : 6 ≤ (5 : Nat) := h1
              omega
            · have : 6 ≤ (0 : Nat) := h1
              omega
          · exact absurd h1 (num _ _)
        · rw [if_neg hd] at h1 h2 ⊢
          have h1 : 6 ≤ sgK (bf s) (decide (s + 1 < z ∧ bf (s + 1) = 61)) := h1
          have := sg_n (bf s) (decide (s + 1 < z ∧ bf (s + 1) = 61)) (by omega)
          show (if sg2 (bf s) (decide (s + 1 < z ∧ bf (s + 1) = 61)) = true then nI (256 + bf s) else nI (bf s)) = nI (sgN (sgK (bf s) (decide (s + 1 < z ∧ bf (s + 1) = 61))))
          rw [← this]
          split <;> rfl
theorem wkl_20 (A : Int64) : ∀ k, wkl A k = 2 ∨ 20 ≤ wkl A k := by
  intro k
  induction k with
  | zero => exact Or.inl rfl
  | succ k ih =>
    rw [wkl]
    split
    · omega
    · exact ih
theorem tk_kinds : (tk bf z s).1 ≤ 16 ∨ 20 ≤ (tk bf z s).1 := by
  have num : ∀ d n, (tkN bf s d n).1 ≤ 16 := by
    intro d n
    unfold tkN
    split
    · show 3 ≤ 16; omega
    · show 0 ≤ 16; omega
  unfold tk
  by_cases hl : bL (bf s) = true
  · rw [if_pos hl]
    unfold tkW
    split
    · have := wkl_20 (Int64.ofNat (dg 5 12 (lf bf s) (rn bA bf (z - s) s))) 20
      show wkl _ 20 ≤ 16 ∨ 20 ≤ wkl _ 20
      omega
    · exact Or.inl (Nat.zero_le _)
  · rw [if_neg hl]
    by_cases h34 : bf s = 34
    · rw [if_pos h34]
      unfold tkQ
      split
      · exact Or.inl (by show 4 ≤ 16; omega)
      · exact Or.inl (Nat.zero_le _)
    · rw [if_neg h34]
      by_cases h45 : bf s = 45
      · rw [if_pos h45]; exact Or.inl (num _ _)
      · rw [if_neg h45]
        by_cases hd : bD (bf s) = true
        · rw [if_pos hd]
          split
          · unfold tkA
            split
            · exact Or.inl (by show 5 ≤ 16; omega)
            · exact Or.inl (Nat.zero_le _)
          · exact Or.inl (num _ _)
        · rw [if_neg hd]
          have h9 := sgK_b (bf s) (decide (s + 1 < z ∧ bf (s + 1) = 61))
          left
          show sgK _ _ ≤ 16
          omega
end TOK
