/-! ===== the rules at work lie in their bank ===== -/
/-- a node of the bank's own half, c of them written -/
def inB (bk c n : Nat) : Prop := 1100 * bk ≤ n ∧ n < 1100 * bk + c
/-- what a node of the bank rests on lies in the bank -/
def RN (σ : rf_S) (bk c : Nat) : Prop := ∀ n, inB bk c n → ((σ.2.2.1 47 n = 0 ∨ σ.2.2.1 47 n = 1) → ∃ a b, σ.2.2.1 48 n = nI a ∧ σ.2.2.1 49 n = nI b ∧ inB bk c a ∧ inB bk c b) ∧ (σ.2.2.1 47 n = 2 → ∃ a, σ.2.2.1 48 n = nI a ∧ inB bk c a)
/-- texts of the tests lie in the bank's half of the texts -/
def RT (σ : rf_S) (bk c : Nat) : Prop := ∀ n, inB bk c n → (∃ o, 6 ≤ o ∧ o ≤ 13 ∧ σ.2.2.1 47 n = nI o) → σ.2.2.1 51 n = 1 → ∃ fr a, σ.2.2.1 48 n = nI fr ∧ σ.2.2.1 50 n = nI a ∧ 2120 * bk ≤ fr ∧ fr + a ≤ 2120 * (bk + 1)
/-- nodes, texts and roots of the rules at work lie in their bank -/
def RK (σ : rf_S) (bk nr : Nat) (k : Nat → Nat) (c : Nat) : Prop := c ≤ 1100 ∧ RN σ bk c ∧ RT σ bk c ∧ ∀ r, r < nr → (∀ j n, j < k r → n < 2200 → σ.2.2.1 41 (6 * (12 * bk + r) + j) = nI n → inB bk c n) ∧ ∀ n, n < 2200 → σ.2.2.1 42 (12 * bk + r) = nI n → inB bk c n
/-- .. and the reserved words are there -/
def RQ (σ : rf_S) (bk nr : Nat) (k : Nat → Nat) : Prop := (∃ c, RK σ bk nr k c) ∧ ∀ j, σ.2.2.2 59 j = rf_i0.2.2.2 59 j
theorem RQ.er {σ σ' : rf_S} {bk nr : Nat} {k : Nat → Nat} (h : RQ σ bk nr k) (e : eR σ σ') : RQ σ' bk nr k := by
  obtain ⟨⟨c, h1, h2, h3, h4⟩, h5⟩ := h
  refine ⟨⟨c, h1, ?_, ?_, ?_⟩, ?_⟩
  · unfold RN at h2 ⊢
    rw [e.1 47 (by decide) (by decide), e.1 48 (by decide) (by decide), e.1 49 (by decide) (by decide)]
    exact h2
  · unfold RT at h3 ⊢
    rw [e.1 51 (by decide) (by decide), e.1 47 (by decide) (by decide), e.1 48 (by decide) (by decide), e.1 50 (by decide) (by decide)]
    exact h3
  · rw [e.1 41 (by decide) (by decide), e.1 42 (by decide) (by decide)]
    exact h4
  · rw [e.2 59 (by decide)]
    exact h5
theorem lF.er {σ σ' : rf_S} (h : lF σ σ') : eR σ σ' := ⟨fun k h1 h2 => funext fun j => h.2.2.1 k j (by omega) (by omega) (Or.inl h2) (by omega) (by omega), fun k h1 => funext fun j => h.2.2.2 k j (by omega) (by omega)⟩
theorem eR.rw {σ σ' : rf_S} (h : σ'.2 = σ.2) : eR σ σ' := ⟨fun k _ _ => by rw [h], fun k _ => by rw [h]⟩
