/-! ===== the reference alone: the key of an event ===== -/
/-- event x has the fields behind by; x and y have the same values there -/
def kH (σ : rf_S) (b n x : Nat) : Prop := ∀ k, k < n → ∃ i, fO σ x (σ.2.2.2 37 (3 * b + k)) = some i
def kM (σ : rf_S) (b n x y : Nat) : Prop := ∀ k, k < n → ∃ i j, fO σ x (σ.2.2.2 37 (3 * b + k)) = some i ∧ fO σ y (σ.2.2.2 37 (3 * b + k)) = some j ∧ σ.2.2.1 17 (8 * x + i) = σ.2.2.1 17 (8 * y + j)
theorem nI_m1 (o : Nat) : nI o + (-1) = nI o - 1 := (Int32.sub_eq_add_neg ..).symm
/-- the keys of rule r, as they stand -/
def kI (σ : rf_S) (r b n ne : Nat) : Prop := (∀ o, o < ne → σ.2.2.1 63 (4000 * r + o) = -1 ∨ ∃ f, f ≤ o ∧ σ.2.2.1 63 (4000 * r + o) = nI f ∧ σ.2.2.1 63 (4000 * r + f) = nI f ∧ kH σ b n o ∧ kM σ b n f o) ∧ (∀ f g, f < ne → g < ne → σ.2.2.1 63 (4000 * r + f) = nI f → σ.2.2.1 63 (4000 * r + g) = nI g → kM σ b n f g → f = g)
section KO
variable {σ : rf_S} {post : Int32 → rf_S → Prop} {r b n e : Nat}
theorem rk_90 {k56 : rf_S → Int32 → Int32 → Int32 → Int32 → Prop} {x1 x4 : Int32} {f : Nat} (hb : b < 24) (hn : σ.2.2.1 43 b = nI n) (hn3 : n ≤ 3) (he : e ≤ 4000) (hf : f ≤ 4000) (hm : ∀ x, x = e ∨ x = f → ∃ m, m ≤ 8 ∧ σ.2.2.1 9 x = nI m) (hHe : kH σ b n e) (hHf : kH σ b n f) (hy : kM σ b n f e → post (nI f) σ) (hno : ¬ kM σ b n f e → k56 σ x1 (nI e) (nI b) (x4 + (-1))) :
    ∀ r k, k + r = n → (∀ j, j < k → ∃ i i', fO σ f (σ.2.2.2 37 (3 * b + j)) = some i ∧ fO σ e (σ.2.2.2 37 (3 * b + j)) = some i' ∧ σ.2.2.1 17 (8 * f + i) = σ.2.2.1 17 (8 * e + i')) → w_X12_keyOf_90 post k56 (r + 1) σ x1 (nI e) (nI b) x4 (nI f) 1 (nI k) := by
  have i43 : vp_in (nI b) (rf_n 43) := nI_in (N := 24) hb (by decide)
  intro r
  induction r with
  | zero =>
    intro k hk h
    have : k = n := by omega
    subst this
    refine ⟨i43, fun _ => ⟨fun hc => absurd hc (by decide), fun _ => hy h⟩, fun hc => ?_⟩
    rw [nI_clamp (by omega), hn] at hc
    exact absurd (nI_le (Nat.le_refl _) (by omega)) hc
  | succ r ih =>
    intro k hk h
    obtain ⟨i, ei⟩ := hHf k (by omega)
    obtain ⟨i', ei'⟩ := hHe k (by omega)
    obtain ⟨m1, hm1, em1⟩ := hm f (Or.inr rfl)
    obtain ⟨m2, hm2, em2⟩ := hm e (Or.inl rfl)
    have hi := fO_lt em1 hm1 ei
    have hi' := fO_lt em2 hm2 ei'
    refine ⟨i43, fun hc => ?_, fun _ => ⟨fun hc => absurd hc (by decide), fun _ => ?_⟩⟩
    · rw [nI_clamp (by omega), hn] at hc
      exact absurd hc (nI_ge (by omega) (by omega))
    · rw [n3, nI_clamp (by omega)]
      refine ⟨nI_in (N := 72) (by omega) (by decide), rfo hf em1 hm1 ?_⟩
      rw [ei]
      refine ⟨nI_in (N := 32008) (by omega) (by decide), nI_in (N := 72) (by omega) (by decide), rfo he em2 hm2 ?_⟩
      rw [ei']
      show vp_in (nI (8 * e + i')) (rf_n 17) ∧ (¬ σ.2.2.1 17 (nI (8 * f + i)).toNatClampNeg = σ.2.2.1 17 (nI (8 * e + i')).toNatClampNeg → _) ∧ (σ.2.2.1 17 (nI (8 * f + i)).toNatClampNeg = σ.2.2.1 17 (nI (8 * e + i')).toNatClampNeg → _)
      rw [nI_clamp (by omega), nI_clamp (by omega)]
      refine ⟨nI_in (N := 32008) (by omega) (by decide), fun hc => ?_, fun hc => ?_⟩
      · -- unequal: the rest is passed over
        have hnot : ¬ kM σ b n f e := fun q => by
          obtain ⟨j, j', q1, q2, q3⟩ := q k (by omega)
          rw [ei] at q1
          rw [ei'] at q2
          cases q1
          cases q2
          exact hc q3
        have h165 : w_X12_keyOf_165 post k56 σ x1 (nI e) (nI b) x4 (nI f) 0 := ⟨fun _ => hno hnot, fun q => absurd rfl q⟩
        show w_X12_keyOf_90 post k56 (r + 1) σ x1 (nI e) (nI b) x4 (nI f) 0 (nI k + 1)
        exact ⟨i43, fun _ => h165, fun _ => ⟨fun _ => h165, fun q => absurd rfl q⟩⟩
      · show w_X12_keyOf_90 post k56 (r + 1) σ x1 (nI e) (nI b) x4 (nI f) 1 (nI k + 1)
        rw [nI_1]
        refine ih (k + 1) (by omega) (fun j hj => ?_)
        by_cases ej : j = k
        · rw [ej]; exact ⟨i, i', ei, ei', hc⟩
        · exact h j (by omega)
theorem rk_56 (hr : r < 12) (hb : b < 24) (hn : σ.2.2.1 43 b = nI n) (hn3 : n ≤ 3) (he : e < 4000) (hm : ∀ x, x ≤ e → ∃ m, m ≤ 8 ∧ σ.2.2.1 9 x = nI m) (hHe : kH σ b n e) (hK : kI σ r b n e) (hy : ∀ f, f < e → σ.2.2.1 63 (4000 * r + f) = nI f → kM σ b n f e → post (nI f) σ) (hno : (∀ f, f < e → σ.2.2.1 63 (4000 * r + f) = nI f → ¬ kM σ b n f e) → post (nI e) σ) :
    ∀ t, t ≤ e → (∀ o f, t ≤ o → o < e → σ.2.2.1 63 (4000 * r + o) = nI f → f < e → ¬ kM σ b n f e) → w_X12_keyOf_56 post (t + 1) σ (nI r) (nI e) (nI b) (nI t - 1) := by
  intro t
  induction t with
  | zero =>
    intro _ h
    refine ⟨fun _ => hno (fun f hf hk => h f f (by omega) hf hk hf), fun hc => absurd (by decide) hc⟩
  | succ t ih =>
    intro ht h
    rw [nI_pred]
    refine ⟨fun hc => absurd hc (nI_pos (by omega)), fun _ => ?_⟩
    rw [n4k, nI_clamp (by omega)]
    refine ⟨nI_in (N := 48000) (by omega) (by decide), fun hc => ?_, fun hc => ?_⟩
    · rcases hK.1 t (by omega) with hk | ⟨f, hf, hk, hkf, hHt, hMt⟩
      · rw [hk] at hc; exact absurd hc (by decide)
      · rw [hk]
        have hHf : kH σ b n f := fun k hk => by obtain ⟨i, j, q1, -, -⟩ := hMt k hk; exact ⟨i, q1⟩
        refine ⟨n + 1, rk_90 hb hn hn3 (by omega) (by omega) (fun x hx => hm x (by omega)) hHe hHf (hy f (by omega) hkf) (fun hnm => ?_) n 0 (by omega) (fun j hj => absurd hj (by omega))⟩
        rw [nI_m1]
        refine ih (by omega) (fun o g h1 h2 h3 h4 => ?_)
        by_cases eo : o = t
        · rw [eo, hk] at h3
          have : f = g := (nI_eq (by omega) (by omega)).mp h3
          rw [← this]; exact hnm
        · exact h o g (by omega) h2 h3 h4
    · show w_X12_keyOf_56 post (t + 1) σ (nI r) (nI e) (nI b) (nI t + (-1))
      rw [nI_m1]
      refine ih (by omega) (fun o g h1 h2 h3 h4 => ?_)
      by_cases eo : o = t
      · rw [eo] at h3
        rw [h3] at hc
        exact absurd (nI_pos' (by omega)) hc
      · exact h o g (by omega) h2 h3 h4
theorem rk_13 (hb : b < 24) (hn : σ.2.2.1 43 b = nI n) (hn3 : n ≤ 3) (he : e ≤ 4000) (hm : ∃ m, m ≤ 8 ∧ σ.2.2.1 9 e = nI m) (hy : kH σ b n e → ∃ n9, w_X12_keyOf_56 post n9 σ (nI r) (nI e) (nI b) (nI e - 1)) (hno : ¬ kH σ b n e → post (-1) σ) : ∀ q k, k + q = n → (∀ j, j < k → ∃ i, fO σ e (σ.2.2.2 37 (3 * b + j)) = some i) → w_X12_keyOf_13 post (q + 1) σ (nI r) (nI e) (nI b) (nI k) := by
  have i43 : vp_in (nI b) (rf_n 43) := nI_in (N := 24) hb (by decide)
  obtain ⟨m, hm8, em⟩ := hm
  intro q
  induction q with
  | zero =>
    intro k hk h
    have : k = n := by omega
    subst this
    refine ⟨i43, fun _ => hy h, fun hc => ?_⟩
    rw [nI_clamp (by omega), hn] at hc
    exact absurd (nI_le (Nat.le_refl _) (by omega)) hc
  | succ q ih =>
    intro k hk h
    refine ⟨i43, fun hc => ?_, fun _ => ?_⟩
    · rw [nI_clamp (by omega), hn] at hc
      exact absurd hc (nI_ge (by omega) (by omega))
    · rw [n3, nI_clamp (by omega)]
      refine ⟨nI_in (N := 72) (by omega) (by decide), rfo he em hm8 ?_⟩
      cases hfo : fO σ e (σ.2.2.2 37 (3 * b + k)) with
      | none =>
        refine ⟨fun hc => absurd hc (by show ¬ (0 : Int32) ≤ -1; decide), fun _ => hno (fun hh => ?_)⟩
        obtain ⟨i, ei⟩ := hh k (by omega)
        rw [hfo] at ei
        cases ei
      | some i =>
        have hi := fO_lt em hm8 hfo
        refine ⟨fun _ => ?_, fun hc => absurd (nI_pos' (by omega)) hc⟩
        rw [nI_1]
        refine ih (k + 1) (by omega) (fun j hj => ?_)
        by_cases ej : j = k
        · rw [ej]; exact ⟨i, hfo⟩
        · exact h j (by omega)
theorem rko {bk : Nat} (h32 : σ.1 32 = nI bk) (hbk : bk ≤ 1) (hr : r < 12) (hbb : b = 12 * bk + r) (hn : σ.2.2.1 43 b = nI n) (hn3 : n ≤ 3) (he : e < 4000) (hm : ∀ x, x ≤ e → ∃ m, m ≤ 8 ∧ σ.2.2.1 9 x = nI m) (hK : kI σ r b n e) :
    ∃ k : Int32, (∀ Q : Int32 → rf_S → Prop, Q k σ → wp_X12_keyOf Q σ (nI r) (nI e)) ∧ ((¬ kH σ b n e ∧ k = -1) ∨ (kH σ b n e ∧ ∃ f, f < e ∧ k = nI f ∧ σ.2.2.1 63 (4000 * r + f) = nI f ∧ kM σ b n f e) ∨ (kH σ b n e ∧ k = nI e ∧ ∀ f, f < e → σ.2.2.1 63 (4000 * r + f) = nI f → ¬ kM σ b n f e)) := by
  have hstart : ∀ Q : Int32 → rf_S → Prop, w_X12_keyOf_13 Q (n + 1) σ (nI r) (nI e) (nI b) (nI 0) → wp_X12_keyOf Q σ (nI r) (nI e) := fun Q h => by
    refine ⟨n + 1, ?_⟩
    rw [h32, n12, ← hbb]
    exact h
  by_cases hH : kH σ b n e
  · by_cases hx : ∃ f, f < e ∧ σ.2.2.1 63 (4000 * r + f) = nI f ∧ kM σ b n f e
    · obtain ⟨f, hf1, hf2, hf3⟩ := hx
      refine ⟨nI f, fun Q hQ => hstart Q (rk_13 (by omega) hn hn3 (by omega) (hm e (Nat.le_refl _)) (fun _ => ⟨e + 1, rk_56 hr (by omega) hn hn3 he hm hH hK (fun g hg1 hg2 hg3 => ?_) (fun hno => absurd hf3 (hno f hf1 hf2)) e (Nat.le_refl _) (fun o g h1 h2 => absurd h2 (by omega))⟩) (fun q => absurd hH q) n 0 (by omega) (fun j hj => absurd hj (by omega))), Or.inr (Or.inl ⟨hH, f, hf1, rfl, hf2, hf3⟩)⟩
      have : g = f := hK.2 g f hg1 hf1 hg2 hf2 (fun k hk => by
        obtain ⟨i, j, q1, q2, q3⟩ := hg3 k hk
        obtain ⟨i', j', p1, p2, p3⟩ := hf3 k hk
        rw [q2] at p2
        cases p2
        exact ⟨i, i', q1, p1, q3.trans p3.symm⟩)
      rw [this]; exact hQ
    · refine ⟨nI e, fun Q hQ => hstart Q (rk_13 (by omega) hn hn3 (by omega) (hm e (Nat.le_refl _)) (fun _ => ⟨e + 1, rk_56 hr (by omega) hn hn3 he hm hH hK (fun g hg1 hg2 hg3 => absurd ⟨g, hg1, hg2, hg3⟩ hx) (fun _ => hQ) e (Nat.le_refl _) (fun o g h1 h2 => absurd h2 (by omega))⟩) (fun q => absurd hH q) n 0 (by omega) (fun j hj => absurd hj (by omega))), Or.inr (Or.inr ⟨hH, rfl, fun f h1 h2 h3 => hx ⟨f, h1, h2, h3⟩⟩)⟩
  · exact ⟨-1, fun Q hQ => hstart Q (rk_13 (by omega) hn hn3 (by omega) (hm e (Nat.le_refl _)) (fun q => absurd q hH) (fun _ => hQ) n 0 (by omega) (fun j hj => absurd hj (by omega))), Or.inl ⟨hH, rfl⟩⟩
end KO
