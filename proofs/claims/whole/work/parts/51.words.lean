/-! ===== words as numbers ===== -/
/-- digits of b bits each, N places, the first k of them -/
def dg (b N : Nat) (f : Nat → Nat) : Nat → Nat
  | 0 => 0
  | k + 1 => dg b N f k + f k * 2 ^ (b * (N - 1 - k))
theorem dg_dvd (b N : Nat) (f : Nat → Nat) : ∀ k, k ≤ N → ∃ m, dg b N f k = m * 2 ^ (b * (N - k)) := by
  intro k
  induction k with
  | zero => intro _; exact ⟨0, by simp [dg]⟩
  | succ k ih =>
    intro hk
    obtain ⟨m, hm⟩ := ih (by omega)
    have e : N - k = (N - (k + 1)) + 1 := by omega
    have e2 : N - 1 - k = N - (k + 1) := by omega
    refine ⟨m * 2 ^ b + f k, ?_⟩
    rw [dg, hm, e2, e, Nat.mul_add, Nat.mul_one, Nat.pow_add, Nat.add_mul, Nat.mul_assoc, Nat.mul_comm (2 ^ (b * (N - (k + 1))))]
theorem dg_lt (b N : Nat) (f : Nat → Nat) (hf : ∀ i, f i < 2 ^ b) : ∀ k, k ≤ N → dg b N f k + 2 ^ (b * (N - k)) ≤ 2 ^ (b * N) := by
  intro k
  induction k with
  | zero => intro _; simp [dg]
  | succ k ih =>
    intro hk
    have h := ih (by omega)
    have e : N - k = (N - (k + 1)) + 1 := by omega
    have e2 : N - 1 - k = N - (k + 1) := by omega
    rw [e, Nat.mul_add, Nat.mul_one, Nat.pow_add] at h
    have h1 : (f k + 1) * 2 ^ (b * (N - (k + 1))) ≤ 2 ^ b * 2 ^ (b * (N - (k + 1))) := Nat.mul_le_mul_right _ (hf k)
    rw [Nat.add_mul, Nat.one_mul] at h1
    rw [dg, e2]
    rw [Nat.mul_comm (2 ^ b)] at h1
    omega
theorem dg_or (b N : Nat) (f : Nat → Nat) (hf : ∀ i, f i < 2 ^ b) (k : Nat) (hk : k < N) : dg b N f k ||| (f k * 2 ^ (b * (N - 1 - k))) = dg b N f (k + 1) := by
  obtain ⟨m, hm⟩ := dg_dvd b N f k (by omega)
  have e : N - k = (N - 1 - k) + 1 := by omega
  have hlt : f k * 2 ^ (b * (N - 1 - k)) < 2 ^ (b * (N - k)) := by
    rw [e, Nat.mul_add, Nat.mul_one, Nat.pow_add, Nat.mul_comm (2 ^ (b * (N - 1 - k)))]
    exact Nat.mul_lt_mul_of_pos_right (hf k) (Nat.two_pow_pos _)
  rw [dg, hm, Nat.mul_comm m, Nat.two_pow_add_eq_or_of_lt hlt]
theorem dg_at (b N : Nat) (f : Nat → Nat) (hf : ∀ i, f i < 2 ^ b) : ∀ k, k ≤ N → ∀ i, i < N → dg b N f k / 2 ^ (b * (N - 1 - i)) % 2 ^ b = if i < k then f i else 0 := by
  intro k
  induction k with
  | zero => intro _ i _; simp [dg]
  | succ k ih =>
    intro hk i hi
    have h := ih (by omega) i hi
    by_cases h1 : i < k
    · rw [if_pos (by omega : i < k + 1)]
      rw [if_pos h1] at h
      rw [← h, dg]
      obtain ⟨m, hm⟩ := dg_dvd b N f k (by omega)
      have e : b * (N - 1 - i) = b * (N - k) + b * (k - 1 - i) := by
        rw [← Nat.mul_add]; congr 1; omega
      have hlt : f k * 2 ^ (b * (N - 1 - k)) < 2 ^ (b * (N - k)) := by
        rw [show N - k = (N - 1 - k) + 1 from by omega, Nat.mul_add, Nat.mul_one, Nat.pow_add, Nat.mul_comm (2 ^ (b * (N - 1 - k)))]
        exact Nat.mul_lt_mul_of_pos_right (hf k) (Nat.two_pow_pos _)
      rw [e, Nat.pow_add, ← Nat.div_div_eq_div_mul, ← Nat.div_div_eq_div_mul, hm, Nat.mul_comm m, Nat.mul_add_div (Nat.two_pow_pos _), Nat.div_eq_of_lt hlt, Nat.add_zero, Nat.mul_div_cancel_left _ (Nat.two_pow_pos _)]
    · by_cases h2 : i = k
      · subst h2
        rw [if_pos (by omega : i < i + 1), dg]
        obtain ⟨m, hm⟩ := dg_dvd b N f i (by omega)
        rw [hm, show N - i = (N - 1 - i) + 1 from by omega, Nat.mul_add, Nat.mul_one, Nat.pow_add, Nat.mul_comm (2 ^ (b * (N - 1 - i))) (2 ^ b), ← Nat.mul_assoc, ← Nat.add_mul, Nat.mul_div_cancel _ (Nat.two_pow_pos _), Nat.mul_comm m, Nat.mul_add_mod, Nat.mod_eq_of_lt (hf i)]
      · rw [if_neg (by omega : ¬ i < k + 1)]
        obtain ⟨m, hm⟩ := dg_dvd b N f (k + 1) hk
        have e : b * (N - (k + 1)) = b * (i - k - 1) + b + b * (N - 1 - i) := by
          rw [show b * (i - k - 1) + b = b * (i - k) from by rw [← Nat.mul_succ]; congr 1; omega, ← Nat.mul_add]; congr 1; omega
        rw [hm, e, Nat.pow_add, Nat.pow_add, ← Nat.mul_assoc, Nat.mul_div_cancel _ (Nat.two_pow_pos _), ← Nat.mul_assoc, Nat.mul_mod_left]
/-- digits that agree up to a place, and what decides -/
theorem dg_cong (b N : Nat) (f g : Nat → Nat) : ∀ k, (∀ i, i < k → f i = g i) → dg b N f k = dg b N g k := by
  intro k
  induction k with
  | zero => intro _; rfl
  | succ k ih => intro h; rw [dg, dg, ih (fun i hi => h i (by omega)), h k (by omega)]
theorem dg_inj (b N : Nat) (f g : Nat → Nat) (hf : ∀ i, f i < 2 ^ b) (hg : ∀ i, g i < 2 ^ b) (h : dg b N f N = dg b N g N) : ∀ i, i < N → f i = g i := by
  intro i hi
  have h1 := dg_at b N f hf N (Nat.le_refl _) i hi
  have h2 := dg_at b N g hg N (Nat.le_refl _) i hi
  rw [if_pos hi] at h1 h2
  rw [← h1, ← h2, h]
theorem dg_part (b N : Nat) (f : Nat → Nat) (hf : ∀ i, f i < 2 ^ b) : ∀ k, k ≤ N → dg b N f N < dg b N f k + 2 ^ (b * (N - k)) ∧ dg b N f k ≤ dg b N f N := by
  intro k hk
  have key : ∀ r k, k + r = N → dg b N f N + 1 ≤ dg b N f k + 2 ^ (b * (N - k)) ∧ dg b N f k ≤ dg b N f N := by
    intro r
    induction r with
    | zero =>
      intro k hk
      have : k = N := by omega
      subst this
      simp
    | succ r ih =>
      intro k hk
      obtain ⟨h1, h2⟩ := ih (k + 1) (by omega)
      rw [dg] at h1 h2
      have e : N - k = (N - (k + 1)) + 1 := by omega
      have e2 : N - 1 - k = N - (k + 1) := by omega
      rw [e2] at h1 h2
      have h3 : (f k + 1) * 2 ^ (b * (N - (k + 1))) ≤ 2 ^ b * 2 ^ (b * (N - (k + 1))) := Nat.mul_le_mul_right _ (hf k)
      rw [Nat.add_mul, Nat.one_mul] at h3
      rw [e, Nat.mul_add, Nat.mul_one, Nat.pow_add, Nat.mul_comm (2 ^ (b * (N - (k + 1)))) (2 ^ b)]
      omega
  have := key (N - k) k (by omega)
  omega
/-- the first place where two rows differ decides -/
theorem dg_less (b N : Nat) (f g : Nat → Nat) (hf : ∀ i, f i < 2 ^ b) (hg : ∀ i, g i < 2 ^ b) (i : Nat) (hi : i < N) (hs : ∀ j, j < i → f j = g j) (hlt : f i < g i) : dg b N f N < dg b N g N := by
  have h1 := (dg_part b N f hf (i + 1) hi).1
  have h2 := (dg_part b N g hg (i + 1) hi).2
  rw [dg] at h1 h2
  rw [dg_cong b N f g i hs] at h1
  have e2 : N - 1 - i = N - (i + 1) := by omega
  rw [e2] at h1 h2
  have h3 : (f i + 1) * 2 ^ (b * (N - (i + 1))) ≤ g i * 2 ^ (b * (N - (i + 1))) := Nat.mul_le_mul_right _ hlt
  rw [Nat.add_mul, Nat.one_mul] at h3
  omega
theorem i64_or (a b : Nat) (ha : a < 2 ^ 64) (hb : b < 2 ^ 64) : Int64.ofNat a ||| Int64.ofNat b = Int64.ofNat (a ||| b) := by
  apply Int64.toBitVec_inj.mp
  simp only [Int64.toBitVec_or, Int64.toBitVec_ofNat']
  apply BitVec.eq_of_toNat_eq
  simp only [BitVec.toNat_or, BitVec.toNat_ofNat]
  rw [Nat.mod_eq_of_lt ha, Nat.mod_eq_of_lt hb, Nat.mod_eq_of_lt (Nat.or_lt_two_pow ha hb)]
