/-! ===== a test of a condition: what it says, the reference alone ===== -/
def nn (x : Int32) : Nat := x.toNatClampNeg
theorem nn_nI {a : Nat} (h : a < 2 ^ 31) : nn (nI a) = a := nI_clamp h
/-- field f is as node n says -/
def tT (σ : rf_S) (n f : Nat) : Prop :=
  (σ.2.2.1 47 n = 6 ∧ sfx (fun j => σ.2.2.1 46 (nn (σ.2.2.1 48 n) + j)) (fun j => σ.2.2.1 18 (nn (σ.2.2.1 16 f) + j)) (nn (σ.2.2.1 15 f)) (nn (σ.2.2.1 50 n)) 0 0) ∨
  (σ.2.2.1 47 n = 7 ∧ (σ.2.2.1 49 n = 0 ∨ ((((σ.2.2.1 15 f) ^^^ (σ.2.2.1 50 n)).toUInt32 >>> ((32 - (σ.2.2.1 49 n)).toUInt32 &&& Int32.toUInt32 31)).toInt32) = 0)) ∨
  (σ.2.2.1 47 n = 8 ∧ σ.2.2.1 15 f = σ.2.2.1 50 n ∧ (σ.2.2.1 14 f = 1 → ∀ j, j < nn (σ.2.2.1 15 f) → σ.2.2.1 18 (nn (σ.2.2.1 16 f) + j) = σ.2.2.1 46 (nn (σ.2.2.1 48 n) + j))) ∨
  (σ.2.2.1 47 n = 9 ∧ ¬ (σ.2.2.1 15 f = σ.2.2.1 50 n ∧ (σ.2.2.1 14 f = 1 → ∀ j, j < nn (σ.2.2.1 15 f) → σ.2.2.1 18 (nn (σ.2.2.1 16 f) + j) = σ.2.2.1 46 (nn (σ.2.2.1 48 n) + j)))) ∨
  (σ.2.2.1 47 n = 10 ∧ σ.2.2.1 15 f < σ.2.2.1 50 n) ∨
  (σ.2.2.1 47 n = 11 ∧ σ.2.2.1 15 f ≤ σ.2.2.1 50 n) ∨
  (σ.2.2.1 47 n = 12 ∧ σ.2.2.1 50 n < σ.2.2.1 15 f) ∨
  (σ.2.2.1 47 n = 13 ∧ σ.2.2.1 50 n ≤ σ.2.2.1 15 f)
def lT (σ : rf_S) (n e : Nat) : Prop :=
  (σ.2.2.1 47 n = 3 ∧ σ.2.2.2 11 e = σ.2.2.2 52 n ∧ σ.2.2.2 12 e = 0) ∨
  (σ.2.2.1 47 n = 4 ∧ ∃ k, fO σ e (σ.2.2.2 52 n) = some k) ∨
  (σ.2.2.1 47 n = 5 ∧ σ.2.2.1 10 e = σ.2.2.1 48 n) ∨
  (∃ k, fO σ e (σ.2.2.2 52 n) = some k ∧ σ.2.2.1 14 (8 * e + k) = σ.2.2.1 51 n ∧ tT σ n (8 * e + k))
/-- a node that is a test -/
def nW (σ : rf_S) (n : Nat) : Prop := n < 2200 ∧ (∃ o, 3 ≤ o ∧ o ≤ 13 ∧ σ.2.2.1 47 n = nI o) ∧ (¬ σ.2.2.1 47 n = 3 → ¬ σ.2.2.1 47 n = 4 → ¬ σ.2.2.1 47 n = 5 → σ.2.2.1 51 n = 1 → ∃ fr a, σ.2.2.1 48 n = nI fr ∧ σ.2.2.1 50 n = nI a ∧ a ≤ 24 ∧ fr + a ≤ 4240) ∧ (σ.2.2.1 47 n = 6 → σ.2.2.1 51 n = 1)
section RLF
variable {σ : rf_S} {n e m te : Nat}
theorem op_ne {o o' : Nat} {x : Int32} (h : x = nI o) (ho : o < 2 ^ 31) (ho' : o' < 2 ^ 31) (hne : o ≠ o') : ¬ x = nI o' := fun q => hne ((nI_eq ho ho').mp (h.symm.trans q))
theorem ris {Q : Int32 → rf_S → Prop} {f : Nat} (hn : nW σ n) (hnl : ¬ σ.2.2.1 47 n = 3 ∧ ¬ σ.2.2.1 47 n = 4 ∧ ¬ σ.2.2.1 47 n = 5) (hf : vW σ te f) (hte : te ≤ 24000) (hs : σ.2.2.1 14 f = σ.2.2.1 51 n) (hy : (σ.2.2.1 15 f = σ.2.2.1 50 n ∧ (σ.2.2.1 14 f = 1 → ∀ j, j < nn (σ.2.2.1 15 f) → σ.2.2.1 18 (nn (σ.2.2.1 16 f) + j) = σ.2.2.1 46 (nn (σ.2.2.1 48 n) + j))) → Q 1 σ) (hno : ¬ (σ.2.2.1 15 f = σ.2.2.1 50 n ∧ (σ.2.2.1 14 f = 1 → ∀ j, j < nn (σ.2.2.1 15 f) → σ.2.2.1 18 (nn (σ.2.2.1 16 f) + j) = σ.2.2.1 46 (nn (σ.2.2.1 48 n) + j))) → Q 0 σ) : wp_X12_isValue Q σ (nI n) (nI f) := by
  have hn1 := hn.1
  have hf1 := hf.1
  have hf31 : f < 2 ^ 31 := by omega
  have hn31 : n < 2 ^ 31 := by omega
  have i15 : vp_in (nI f) (rf_n 15) := nI_in (N := 32008) hf1 (by decide)
  have i14 : vp_in (nI f) (rf_n 14) := nI_in (N := 32008) hf1 (by decide)
  have i50 : vp_in (nI n) (rf_n 50) := nI_in (N := 2200) hn1 (by decide)
  refine ⟨i15, i50, ?_⟩
  rw [nI_clamp hf31, nI_clamp hn31]
  refine ⟨fun hv => ⟨i14, fun h1 => ?_, fun h1 => hy ⟨hv, fun q => absurd q h1⟩⟩, fun hc => hno (fun q => hc q.1)⟩
  rcases hf.2 with ⟨-, L, o, a1, a2, a3, a4⟩ | a | a
  · obtain ⟨fr, a, b1, b2, b3, b4⟩ := hn.2.2.1 hnl.1 hnl.2.1 hnl.2.2 (hs.symm.trans h1)
    have hLa : L = a := by
      rw [a1, b2] at hv
      exact (nI_eq (by omega) (by omega)).mp hv
    rw [a1, a3, b1, nn_nI (by omega), nn_nI (by omega), nn_nI (by omega)] at hy hno
    have key : ∀ r k, k + r = L → ((∀ j, k ≤ j → j < L → σ.2.2.1 18 (o + j) = σ.2.2.1 46 (fr + j)) → Q 1 σ) → ((¬ ∀ j, k ≤ j → j < L → σ.2.2.1 18 (o + j) = σ.2.2.1 46 (fr + j)) → Q 0 σ) → w_X12_isValue_31 Q (r + 1) σ (nI n) (nI f) (nI k) := by
      intro r
      induction r with
      | zero =>
        intro k hk h1 h2
        refine ⟨i15, fun _ => h1 (fun j p q => absurd q (by omega)), fun hc => ?_⟩
        rw [nI_clamp hf31, a1] at hc
        exact absurd (nI_le (by omega) (by omega)) hc
      | succ r ih =>
        intro k hk h1 h2
        refine ⟨i15, fun hc => ?_, fun _ => ?_⟩
        · rw [nI_clamp hf31, a1] at hc
          exact absurd hc (nI_ge (by omega) (by omega))
        · rw [nI_clamp hf31, nI_clamp hn31, a3, b1, nI_add, nI_add, nI_clamp (by omega : o + k < 2 ^ 31), nI_clamp (by omega : fr + k < 2 ^ 31), nI_1]
          refine ⟨nI_in (N := 32008) hf1 (by decide), nI_in (N := 24000) (by omega) (by decide), nI_in (N := 2200) hn1 (by decide), nI_in (N := 4240) (by omega) (by decide), fun hc => ih (k + 1) (by omega) (fun q => h1 (fun j p1 p2 => ?_)) (fun q => h2 (fun p => q (fun j p1 p2 => p j (by omega) p2))), fun hc => h2 (fun p => hc (p k (Nat.le_refl _) (by omega)))⟩
          by_cases ej : j = k
          · rw [ej]; exact hc
          · exact q j (by omega) p2
    exact ⟨L + 1, key L 0 (by omega) (fun q => hy ⟨by rw [← a1]; exact hv, fun _ j hj => q j (Nat.zero_le _) hj⟩) (fun q => hno (fun p => q (fun j _ hj => p.2 h1 j hj)))⟩
  · rw [h1] at a; exact absurd a (by decide)
  · rw [h1] at a; exact absurd a (by decide)
theorem tT_6 {f : Nat} (h : σ.2.2.1 47 n = 6) : tT σ n f ↔ sfx (fun j => σ.2.2.1 46 (nn (σ.2.2.1 48 n) + j)) (fun j => σ.2.2.1 18 (nn (σ.2.2.1 16 f) + j)) (nn (σ.2.2.1 15 f)) (nn (σ.2.2.1 50 n)) 0 0 := by
  constructor
  · intro q
    rcases q with ⟨q, p⟩ | ⟨q, p⟩ | ⟨q, p⟩ | ⟨q, p⟩ | ⟨q, p⟩ | ⟨q, p⟩ | ⟨q, p⟩ | ⟨q, p⟩
    · exact p
    · exact absurd (h.symm.trans q) (by decide)
    · exact absurd (h.symm.trans q) (by decide)
    · exact absurd (h.symm.trans q) (by decide)
    · exact absurd (h.symm.trans q) (by decide)
    · exact absurd (h.symm.trans q) (by decide)
    · exact absurd (h.symm.trans q) (by decide)
    · exact absurd (h.symm.trans q) (by decide)
  · intro p
    exact Or.inl ⟨h, p⟩
theorem tT_7 {f : Nat} (h : σ.2.2.1 47 n = 7) : tT σ n f ↔ (σ.2.2.1 49 n = 0 ∨ ((((σ.2.2.1 15 f) ^^^ (σ.2.2.1 50 n)).toUInt32 >>> ((32 - (σ.2.2.1 49 n)).toUInt32 &&& Int32.toUInt32 31)).toInt32) = 0) := by
  constructor
  · intro q
    rcases q with ⟨q, p⟩ | ⟨q, p⟩ | ⟨q, p⟩ | ⟨q, p⟩ | ⟨q, p⟩ | ⟨q, p⟩ | ⟨q, p⟩ | ⟨q, p⟩
    · exact absurd (h.symm.trans q) (by decide)
    · exact p
    · exact absurd (h.symm.trans q) (by decide)
    · exact absurd (h.symm.trans q) (by decide)
    · exact absurd (h.symm.trans q) (by decide)
    · exact absurd (h.symm.trans q) (by decide)
    · exact absurd (h.symm.trans q) (by decide)
    · exact absurd (h.symm.trans q) (by decide)
  · intro p
    exact Or.inr (Or.inl ⟨h, p⟩)
theorem tT_8 {f : Nat} (h : σ.2.2.1 47 n = 8) : tT σ n f ↔ (σ.2.2.1 15 f = σ.2.2.1 50 n ∧ (σ.2.2.1 14 f = 1 → ∀ j, j < nn (σ.2.2.1 15 f) → σ.2.2.1 18 (nn (σ.2.2.1 16 f) + j) = σ.2.2.1 46 (nn (σ.2.2.1 48 n) + j))) := by
  constructor
  · intro q
    rcases q with ⟨q, p⟩ | ⟨q, p⟩ | ⟨q, p⟩ | ⟨q, p⟩ | ⟨q, p⟩ | ⟨q, p⟩ | ⟨q, p⟩ | ⟨q, p⟩
    · exact absurd (h.symm.trans q) (by decide)
    · exact absurd (h.symm.trans q) (by decide)
    · exact p
    · exact absurd (h.symm.trans q) (by decide)
    · exact absurd (h.symm.trans q) (by decide)
    · exact absurd (h.symm.trans q) (by decide)
    · exact absurd (h.symm.trans q) (by decide)
    · exact absurd (h.symm.trans q) (by decide)
  · intro p
    exact Or.inr (Or.inr (Or.inl ⟨h, p⟩))
theorem tT_9 {f : Nat} (h : σ.2.2.1 47 n = 9) : tT σ n f ↔ ¬ (σ.2.2.1 15 f = σ.2.2.1 50 n ∧ (σ.2.2.1 14 f = 1 → ∀ j, j < nn (σ.2.2.1 15 f) → σ.2.2.1 18 (nn (σ.2.2.1 16 f) + j) = σ.2.2.1 46 (nn (σ.2.2.1 48 n) + j))) := by
  constructor
  · intro q
    rcases q with ⟨q, p⟩ | ⟨q, p⟩ | ⟨q, p⟩ | ⟨q, p⟩ | ⟨q, p⟩ | ⟨q, p⟩ | ⟨q, p⟩ | ⟨q, p⟩
    · exact absurd (h.symm.trans q) (by decide)
    · exact absurd (h.symm.trans q) (by decide)
    · exact absurd (h.symm.trans q) (by decide)
    · exact p
    · exact absurd (h.symm.trans q) (by decide)
    · exact absurd (h.symm.trans q) (by decide)
    · exact absurd (h.symm.trans q) (by decide)
    · exact absurd (h.symm.trans q) (by decide)
  · intro p
    exact Or.inr (Or.inr (Or.inr (Or.inl ⟨h, p⟩)))
theorem tT_10 {f : Nat} (h : σ.2.2.1 47 n = 10) : tT σ n f ↔ σ.2.2.1 15 f < σ.2.2.1 50 n := by
  constructor
  · intro q
    rcases q with ⟨q, p⟩ | ⟨q, p⟩ | ⟨q, p⟩ | ⟨q, p⟩ | ⟨q, p⟩ | ⟨q, p⟩ | ⟨q, p⟩ | ⟨q, p⟩
    · exact absurd (h.symm.trans q) (by decide)
    · exact absurd (h.symm.trans q) (by decide)
    · exact absurd (h.symm.trans q) (by decide)
    · exact absurd (h.symm.trans q) (by decide)
    · exact p
    · exact absurd (h.symm.trans q) (by decide)
    · exact absurd (h.symm.trans q) (by decide)
    · exact absurd (h.symm.trans q) (by decide)
  · intro p
    exact Or.inr (Or.inr (Or.inr (Or.inr (Or.inl ⟨h, p⟩))))
theorem tT_11 {f : Nat} (h : σ.2.2.1 47 n = 11) : tT σ n f ↔ σ.2.2.1 15 f ≤ σ.2.2.1 50 n := by
  constructor
  · intro q
    rcases q with ⟨q, p⟩ | ⟨q, p⟩ | ⟨q, p⟩ | ⟨q, p⟩ | ⟨q, p⟩ | ⟨q, p⟩ | ⟨q, p⟩ | ⟨q, p⟩
    · exact absurd (h.symm.trans q) (by decide)
    · exact absurd (h.symm.trans q) (by decide)
    · exact absurd (h.symm.trans q) (by decide)
    · exact absurd (h.symm.trans q) (by decide)
    · exact absurd (h.symm.trans q) (by decide)
    · exact p
    · exact absurd (h.symm.trans q) (by decide)
    · exact absurd (h.symm.trans q) (by decide)
  · intro p
    exact Or.inr (Or.inr (Or.inr (Or.inr (Or.inr (Or.inl ⟨h, p⟩)))))
theorem tT_12 {f : Nat} (h : σ.2.2.1 47 n = 12) : tT σ n f ↔ σ.2.2.1 50 n < σ.2.2.1 15 f := by
  constructor
  · intro q
    rcases q with ⟨q, p⟩ | ⟨q, p⟩ | ⟨q, p⟩ | ⟨q, p⟩ | ⟨q, p⟩ | ⟨q, p⟩ | ⟨q, p⟩ | ⟨q, p⟩
    · exact absurd (h.symm.trans q) (by decide)
    · exact absurd (h.symm.trans q) (by decide)
    · exact absurd (h.symm.trans q) (by decide)
    · exact absurd (h.symm.trans q) (by decide)
    · exact absurd (h.symm.trans q) (by decide)
    · exact absurd (h.symm.trans q) (by decide)
    · exact p
    · exact absurd (h.symm.trans q) (by decide)
  · intro p
    exact Or.inr (Or.inr (Or.inr (Or.inr (Or.inr (Or.inr (Or.inl ⟨h, p⟩))))))
theorem tT_13 {f : Nat} (h : σ.2.2.1 47 n = 13) : tT σ n f ↔ σ.2.2.1 50 n ≤ σ.2.2.1 15 f := by
  constructor
  · intro q
    rcases q with ⟨q, p⟩ | ⟨q, p⟩ | ⟨q, p⟩ | ⟨q, p⟩ | ⟨q, p⟩ | ⟨q, p⟩ | ⟨q, p⟩ | ⟨q, p⟩
    · exact absurd (h.symm.trans q) (by decide)
    · exact absurd (h.symm.trans q) (by decide)
    · exact absurd (h.symm.trans q) (by decide)
    · exact absurd (h.symm.trans q) (by decide)
    · exact absurd (h.symm.trans q) (by decide)
    · exact absurd (h.symm.trans q) (by decide)
    · exact absurd (h.symm.trans q) (by decide)
    · exact p
  · intro p
    exact Or.inr (Or.inr (Or.inr (Or.inr (Or.inr (Or.inr (Or.inr (⟨h, p⟩)))))))
/-- a field against its node -/
theorem rft {f o : Nat} (hn : nW σ n) (hf : vW σ te f) (hte : te ≤ 24000) (ho1 : 6 ≤ o) (ho2 : o ≤ 13) (eo : σ.2.2.1 47 n = nI o) : ∃ (v : Int32) (σ' : rf_S), l62 σ σ' ∧ ((v = 1 ∧ σ.2.2.1 14 f = σ.2.2.1 51 n ∧ tT σ n f) ∨ (v = 0 ∧ ¬ (σ.2.2.1 14 f = σ.2.2.1 51 n ∧ tT σ n f))) ∧ ∀ Q : Int32 → rf_S → Prop, Q v σ' → wp_X12_fits (fun r11 σ11 => narrow .boolean (.int r11) = .int r11 ∧ Q r11 σ11) σ (nI n) (nI f) := by
  have hnl : ¬ σ.2.2.1 47 n = 3 ∧ ¬ σ.2.2.1 47 n = 4 ∧ ¬ σ.2.2.1 47 n = 5 := ⟨op_ne (o' := 3) eo (by omega) (by decide) (by omega), op_ne (o' := 4) eo (by omega) (by decide) (by omega), op_ne (o' := 5) eo (by omega) (by decide) (by omega)⟩
  have hn1 := hn.1
  have hf1 := hf.1
  have hf31 : f < 2 ^ 31 := by omega
  have hn31 : n < 2 ^ 31 := by omega
  have iF : ∀ k, k = 14 ∨ k = 15 ∨ k = 16 → vp_in (nI f) (rf_n k) := fun k hk => by rcases hk with rfl | rfl | rfl <;> exact nI_in (N := 32008) hf1 (by decide)
  have iN : ∀ k, k = 47 ∨ k = 48 ∨ k = 49 ∨ k = 50 ∨ k = 51 → vp_in (nI n) (rf_n k) := fun k hk => by rcases hk with rfl | rfl | rfl | rfl | rfl <;> exact nI_in (N := 2200) hn1 (by decide)
  have eI : (σ.2.2.1 47 n).toInt = (o : Int) := by rw [eo]; exact nI_toInt (by omega)
  by_cases hs : σ.2.2.1 14 f = σ.2.2.1 51 n
  · have hgo : ∀ (Q : Int32 → rf_S → Prop), (o = 13 → ((σ.2.2.1 15 f) < (σ.2.2.1 50 n) → Q 0 σ) ∧ (¬ (σ.2.2.1 15 f) < (σ.2.2.1 50 n) → Q 1 σ)) → (o = 6 → wp_X12_like (fun r4 σ4 => narrow .boolean (.int r4) = .int r4 ∧ narrow .boolean (.int r4) = .int r4 ∧ Q r4 σ4) σ (σ.2.2.1 48 n) ((σ.2.2.1 48 n) + (σ.2.2.1 50 n)) (σ.2.2.1 16 f) ((σ.2.2.1 16 f) + (σ.2.2.1 15 f))) → (o = 7 → ((σ.2.2.1 49 n) = 0 → Q 1 σ) ∧ (¬ (σ.2.2.1 49 n) = 0 → (¬ ((((σ.2.2.1 15 f) ^^^ (σ.2.2.1 50 n)).toUInt32 >>> ((32 - (σ.2.2.1 49 n)).toUInt32 &&& Int32.toUInt32 31)).toInt32) = 0 → Q 0 σ) ∧ (((((σ.2.2.1 15 f) ^^^ (σ.2.2.1 50 n)).toUInt32 >>> ((32 - (σ.2.2.1 49 n)).toUInt32 &&& Int32.toUInt32 31)).toInt32) = 0 → Q 1 σ))) → (o = 8 → wp_X12_isValue (fun r5 σ5 => narrow .boolean (.int r5) = .int r5 ∧ narrow .boolean (.int r5) = .int r5 ∧ Q r5 σ5) σ (nI n) (nI f)) → (o = 9 → wp_X12_isValue (fun r6 σ6 => (¬ r6 = 0 → w_X12_fits_173 (fun r11 σ11 => narrow .boolean (.int r11) = .int r11 ∧ Q r11 σ11) σ6 0) ∧ (r6 = 0 → w_X12_fits_173 (fun r11 σ11 => narrow .boolean (.int r11) = .int r11 ∧ Q r11 σ11) σ6 1)) σ (nI n) (nI f)) → (o = 10 → ((σ.2.2.1 50 n) ≤ (σ.2.2.1 15 f) → Q 0 σ) ∧ (¬ (σ.2.2.1 50 n) ≤ (σ.2.2.1 15 f) → Q 1 σ)) → (o = 11 → ((σ.2.2.1 50 n) < (σ.2.2.1 15 f) → Q 0 σ) ∧ (¬ (σ.2.2.1 50 n) < (σ.2.2.1 15 f) → Q 1 σ)) → (o = 12 → ((σ.2.2.1 15 f) ≤ (σ.2.2.1 50 n) → Q 0 σ) ∧ (¬ (σ.2.2.1 15 f) ≤ (σ.2.2.1 50 n) → Q 1 σ)) → wp_X12_fits (fun r11 σ11 => narrow .boolean (.int r11) = .int r11 ∧ Q r11 σ11) σ (nI n) (nI f) := by
      intro Q h6 h61 h7 h8 h9 h10 h11 h12
      refine ⟨fun hc => absurd hc (nI_pos hf31), fun _ => ⟨iF 14 (by omega), iN 51 (by omega), ?_⟩⟩
      rw [nI_clamp hf31, nI_clamp hn31, eI]
      refine ⟨fun _ => ⟨iN 47 (by omega), fun hc => ⟨iF 15 (by omega), iN 50 (by omega), fun hd => ⟨rfl, rfl, (h6 (by omega)).1 hd⟩, fun hd => ⟨rfl, rfl, (h6 (by omega)).2 hd⟩⟩, fun hc => ⟨iN 48 (by omega), iN 48 (by omega), iN 50 (by omega), iF 16 (by omega), iF 16 (by omega), iF 15 (by omega), h61 (by omega)⟩, fun hc => ⟨iN 49 (by omega), fun hd => ⟨rfl, rfl, (h7 (by omega)).1 hd⟩, fun hd => ⟨iF 15 (by omega), iN 50 (by omega), iN 49 (by omega), fun hz => ⟨rfl, rfl, ((h7 (by omega)).2 hd).1 hz⟩, fun hz => ⟨rfl, rfl, ((h7 (by omega)).2 hd).2 hz⟩⟩⟩, fun hc => h8 (by omega), fun hc => h9 (by omega), fun hc => ⟨iF 15 (by omega), iN 50 (by omega), fun hd => ⟨rfl, rfl, (h10 (by omega)).1 hd⟩, fun hd => ⟨rfl, rfl, (h10 (by omega)).2 hd⟩⟩, fun hc => ⟨iF 15 (by omega), iN 50 (by omega), fun hd => ⟨rfl, rfl, (h11 (by omega)).1 hd⟩, fun hd => ⟨rfl, rfl, (h11 (by omega)).2 hd⟩⟩, fun hc => ⟨iF 15 (by omega), iN 50 (by omega), fun hd => ⟨rfl, rfl, (h12 (by omega)).1 hd⟩, fun hd => ⟨rfl, rfl, (h12 (by omega)).2 hd⟩⟩⟩, fun hc => absurd hs hc⟩
    have hcase : o = 6 ∨ o = 7 ∨ o = 8 ∨ o = 9 ∨ o = 10 ∨ o = 11 ∨ o = 12 ∨ o = 13 := by omega
    have bad : ∀ {x y : Nat} {P : Prop}, x ≠ y → x = y → P := fun h1 h2 => absurd h2 h1
    rcases hcase with rfl | rfl | rfl | rfl | rfl | rfl | rfl | rfl
    · -- like
      obtain ⟨fr, a, b1, b2, b3, b4⟩ := hn.2.2.1 hnl.1 hnl.2.1 hnl.2.2 (hn.2.2.2 eo)
      rcases hf.2 with ⟨-, L, oo, a1, a2, a3, a4⟩ | c | c
      · obtain ⟨σ', v, g1, g2, g3⟩ := rlk (σ := σ) (n := L) (tf := oo) (a := a) (fr := fr) (P := fun j => σ.2.2.1 46 (nn (σ.2.2.1 48 n) + j)) (T := fun j => σ.2.2.1 18 (nn (σ.2.2.1 16 f) + j)) a2 (by omega) b4 (fun j _ => by show _ = σ.2.2.1 46 (nn (σ.2.2.1 48 n) + j); rw [b1, nn_nI (by omega)]) (fun j _ => by show _ = σ.2.2.1 18 (nn (σ.2.2.1 16 f) + j); rw [a3, nn_nI (by omega)])
        have ew : sfx (fun j => σ.2.2.1 46 (nn (σ.2.2.1 48 n) + j)) (fun j => σ.2.2.1 18 (nn (σ.2.2.1 16 f) + j)) L a 0 0 ↔ tT σ n f := by
          rw [tT_6 eo, a1, b2, nn_nI (by omega), nn_nI (by omega)]
        refine ⟨v, σ', g1, ?_, fun Q hQ => hgo Q (bad (by decide)) (fun _ => ?_) (bad (by decide)) (bad (by decide)) (bad (by decide)) (bad (by decide)) (bad (by decide)) (bad (by decide))⟩
        · rcases g2 with ⟨e1, e2⟩ | ⟨e1, e2⟩
          · exact Or.inl ⟨e1, hs, ew.mp e2⟩
          · exact Or.inr ⟨e1, fun q => e2 (ew.mpr q.2)⟩
        · rw [b1, b2, a3, a1, nI_add, nI_add]
          refine g3 _ ?_
          rcases g2 with ⟨e1, -⟩ | ⟨e1, -⟩ <;> rw [e1] at hQ ⊢ <;> exact ⟨rfl, rfl, hQ⟩
      · rw [hs, hn.2.2.2 eo] at c; exact absurd c (by decide)
      · rw [hs, hn.2.2.2 eo] at c; exact absurd c (by decide)
    · -- in
      by_cases ht : tT σ n f
      · refine ⟨1, σ, l62.rfl, Or.inl ⟨rfl, hs, ht⟩, fun Q hQ => hgo Q (bad (by decide)) (bad (by decide)) (fun _ => ⟨fun _ => hQ, fun hz => ⟨fun hq => ?_, fun _ => hQ⟩⟩) (bad (by decide)) (bad (by decide)) (bad (by decide)) (bad (by decide)) (bad (by decide))⟩
        rcases (tT_7 eo).mp ht with q | q
        · exact absurd q hz
        · exact absurd q hq
      · exact ⟨0, σ, l62.rfl, Or.inr ⟨rfl, fun q => ht q.2⟩, fun Q hQ => hgo Q (bad (by decide)) (bad (by decide)) (fun _ => ⟨fun hz => absurd ((tT_7 eo).mpr (Or.inl hz)) ht, fun hz => ⟨fun _ => hQ, fun hq => absurd ((tT_7 eo).mpr (Or.inr hq)) ht⟩⟩) (bad (by decide)) (bad (by decide)) (bad (by decide)) (bad (by decide)) (bad (by decide))⟩
    · -- =
      by_cases ht : tT σ n f
      · exact ⟨1, σ, l62.rfl, Or.inl ⟨rfl, hs, ht⟩, fun Q hQ => hgo Q (bad (by decide)) (bad (by decide)) (bad (by decide)) (fun _ => ris hn hnl hf hte hs (fun _ => ⟨rfl, rfl, hQ⟩) (fun q => absurd ((tT_8 eo).mp ht) q)) (bad (by decide)) (bad (by decide)) (bad (by decide)) (bad (by decide))⟩
      · exact ⟨0, σ, l62.rfl, Or.inr ⟨rfl, fun q => ht q.2⟩, fun Q hQ => hgo Q (bad (by decide)) (bad (by decide)) (bad (by decide)) (fun _ => ris hn hnl hf hte hs (fun q => absurd ((tT_8 eo).mpr q) ht) (fun _ => ⟨rfl, rfl, hQ⟩)) (bad (by decide)) (bad (by decide)) (bad (by decide)) (bad (by decide))⟩
    · -- !=
      by_cases ht : tT σ n f
      · exact ⟨1, σ, l62.rfl, Or.inl ⟨rfl, hs, ht⟩, fun Q hQ => hgo Q (bad (by decide)) (bad (by decide)) (bad (by decide)) (bad (by decide)) (fun _ => ris hn hnl hf hte hs (fun q => absurd q ((tT_9 eo).mp ht)) (fun _ => ⟨fun q => absurd rfl q, fun _ => ⟨rfl, rfl, hQ⟩⟩)) (bad (by decide)) (bad (by decide)) (bad (by decide))⟩
      · exact ⟨0, σ, l62.rfl, Or.inr ⟨rfl, fun q => ht q.2⟩, fun Q hQ => hgo Q (bad (by decide)) (bad (by decide)) (bad (by decide)) (bad (by decide)) (fun _ => ris hn hnl hf hte hs (fun _ => ⟨fun _ => ⟨rfl, rfl, hQ⟩, fun q => absurd q (by decide)⟩) (fun q => absurd ((tT_9 eo).mpr q) ht)) (bad (by decide)) (bad (by decide)) (bad (by decide))⟩
    · by_cases ht : tT σ n f
      · exact ⟨1, σ, l62.rfl, Or.inl ⟨rfl, hs, ht⟩, fun Q hQ => hgo Q (bad (by decide)) (bad (by decide)) (bad (by decide)) (bad (by decide)) (bad (by decide)) (fun _ => ⟨fun hc => absurd hc (Int32.not_le.mpr ((tT_10 eo).mp ht)), fun _ => hQ⟩) (bad (by decide)) (bad (by decide))⟩
      · exact ⟨0, σ, l62.rfl, Or.inr ⟨rfl, fun q => ht q.2⟩, fun Q hQ => hgo Q (bad (by decide)) (bad (by decide)) (bad (by decide)) (bad (by decide)) (bad (by decide)) (fun _ => ⟨fun _ => hQ, fun hc => absurd ((tT_10 eo).mpr (Int32.not_le.mp hc)) ht⟩) (bad (by decide)) (bad (by decide))⟩
    · by_cases ht : tT σ n f
      · exact ⟨1, σ, l62.rfl, Or.inl ⟨rfl, hs, ht⟩, fun Q hQ => hgo Q (bad (by decide)) (bad (by decide)) (bad (by decide)) (bad (by decide)) (bad (by decide)) (bad (by decide)) (fun _ => ⟨fun hc => absurd hc (Int32.not_lt.mpr ((tT_11 eo).mp ht)), fun _ => hQ⟩) (bad (by decide))⟩
      · exact ⟨0, σ, l62.rfl, Or.inr ⟨rfl, fun q => ht q.2⟩, fun Q hQ => hgo Q (bad (by decide)) (bad (by decide)) (bad (by decide)) (bad (by decide)) (bad (by decide)) (bad (by decide)) (fun _ => ⟨fun _ => hQ, fun hc => absurd ((tT_11 eo).mpr (Int32.not_lt.mp hc)) ht⟩) (bad (by decide))⟩
    · by_cases ht : tT σ n f
      · exact ⟨1, σ, l62.rfl, Or.inl ⟨rfl, hs, ht⟩, fun Q hQ => hgo Q (bad (by decide)) (bad (by decide)) (bad (by decide)) (bad (by decide)) (bad (by decide)) (bad (by decide)) (bad (by decide)) (fun _ => ⟨fun hc => absurd hc (Int32.not_le.mpr ((tT_12 eo).mp ht)), fun _ => hQ⟩)⟩
      · exact ⟨0, σ, l62.rfl, Or.inr ⟨rfl, fun q => ht q.2⟩, fun Q hQ => hgo Q (bad (by decide)) (bad (by decide)) (bad (by decide)) (bad (by decide)) (bad (by decide)) (bad (by decide)) (bad (by decide)) (fun _ => ⟨fun _ => hQ, fun hc => absurd ((tT_12 eo).mpr (Int32.not_le.mp hc)) ht⟩)⟩
    · by_cases ht : tT σ n f
      · exact ⟨1, σ, l62.rfl, Or.inl ⟨rfl, hs, ht⟩, fun Q hQ => hgo Q (fun _ => ⟨fun hc => absurd hc (Int32.not_lt.mpr ((tT_13 eo).mp ht)), fun _ => hQ⟩) (bad (by decide)) (bad (by decide)) (bad (by decide)) (bad (by decide)) (bad (by decide)) (bad (by decide)) (bad (by decide))⟩
      · exact ⟨0, σ, l62.rfl, Or.inr ⟨rfl, fun q => ht q.2⟩, fun Q hQ => hgo Q (fun _ => ⟨fun _ => hQ, fun hc => absurd ((tT_13 eo).mpr (Int32.not_lt.mp hc)) ht⟩) (bad (by decide)) (bad (by decide)) (bad (by decide)) (bad (by decide)) (bad (by decide)) (bad (by decide)) (bad (by decide))⟩
  · refine ⟨0, σ, l62.rfl, Or.inr ⟨rfl, fun q => hs q.1⟩, fun Q hQ => ⟨fun hc => absurd hc (nI_pos hf31), fun _ => ⟨iF 14 (by omega), iN 51 (by omega), fun hc => ?_, fun _ => ⟨rfl, hQ⟩⟩⟩⟩
    rw [nI_clamp hf31, nI_clamp hn31] at hc
    exact absurd hc hs
end RLF
