/-! ===== patterns: the reference's row ===== -/
/-- nothing but the row of like changes -/
def l62 (σ σ' : rf_S) : Prop := σ'.1 = σ.1 ∧ σ'.2.1 = σ.2.1 ∧ (∀ k, k ≠ 62 → σ'.2.2.1 k = σ.2.2.1 k) ∧ σ'.2.2.2 = σ.2.2.2
theorem l62.rfl {σ : rf_S} : l62 σ σ := ⟨Eq.refl _, Eq.refl _, fun _ _ => Eq.refl _, Eq.refl _⟩
theorem l62.trans {σ σ1 σ2 : rf_S} (h : l62 σ σ1) (g : l62 σ1 σ2) : l62 σ σ2 := ⟨g.1.trans h.1, g.2.1.trans h.2.1, fun k e => (g.2.2.1 k e).trans (h.2.2.1 k e), g.2.2.2.trans h.2.2.2⟩
theorem l62.ua {σ : rf_S} {j : Nat} {x : Int32} : l62 σ (rf_ua σ 62 j x) := ⟨Eq.refl _, Eq.refl _, fun k e => funext fun m => by rw [r3ua, if_neg (fun q => e q.1)], Eq.refl _⟩
theorem narb0 : vp_nar .boolean 0 = 0 := by decide
theorem narb1 : vp_nar .boolean 1 = 1 := by decide
section RLK
variable {n tf a fr : Nat} {post : Int32 → rf_S → Prop}
/-- the start -/
theorem rlk_9 (hn : n ≤ 24) : ∀ r k (σ : rf_S), k + r = n + 1 → (∀ j, j < k → σ.2.2.1 62 j = if j = 0 then 1 else 0) → ∃ σ', l62 σ σ' ∧ (∀ j, j ≤ n → σ'.2.2.1 62 j = if j = 0 then 1 else 0) ∧ ∀ (Q : Int32 → rf_S → Prop) (x1 x2 x3 : Int32), (∃ n9, w_X12_like_42 Q n9 σ' x2 x3 (nI n) x1) → w_X12_like_9 Q (r + 1) σ x1 x2 x3 (nI n) (nI k) := by
  intro r
  induction r with
  | zero =>
    intro k σ hk h
    refine ⟨σ, l62.rfl, fun j hj => h j (by omega), fun Q x1 x2 x3 hQ => ⟨fun _ => hQ, fun hc => absurd (nI_lt (by omega) (by omega)) hc⟩⟩
  | succ r ih =>
    intro k σ hk h
    obtain ⟨σ', g1, g2, g3⟩ := ih (k + 1) (rf_ua σ 62 k (if k = 0 then 1 else 0)) (by omega) (fun j hj => by
      rw [r3ua]
      by_cases e : j = k
      · rw [if_pos ⟨rfl, e⟩, e]
      · rw [if_neg (fun q => e q.2)]; exact h j (by omega))
    have hin : vp_in (nI k) (rf_n 62) := nI_in (N := 25) (by omega) (by decide)
    refine ⟨σ', l62.ua.trans g1, g2, fun Q x1 x2 x3 hQ => ⟨fun hc => absurd hc (nI_nlt (by omega) (by omega)), fun _ => ⟨fun hc => ⟨hin, ?_⟩, fun hc => ⟨hin, ?_⟩⟩⟩⟩
    · have hk0 : ¬ k = 0 := fun e => hc (by rw [e]; rfl)
      have := g3 Q x1 x2 x3 hQ
      rw [if_neg hk0] at this
      rw [nI_clamp (by omega), narb0, nI_1]
      exact this
    · have hk0 : k = 0 := (nI_eq (b := 0) (by omega) (by decide)).mp hc
      have := g3 Q x1 x2 x3 hQ
      rw [if_pos hk0] at this
      rw [nI_clamp (by omega), narb1, nI_1]
      exact this
def bo (σ : rf_S) (n : Nat) : Prop := ∀ j, j ≤ n → σ.2.2.1 62 j = 0 ∨ σ.2.2.1 62 j = 1
/-- a star -/
theorem rlk_67 {σ0 : rf_S} (hn : n ≤ 24) (h0 : bo σ0 n) : ∀ r k (σ : rf_S), k + r = n + 1 → 1 ≤ k → l62 σ0 σ → bo σ n → (∀ j, j < k → (¬ σ.2.2.1 62 j = 0 ↔ ∃ j', j' ≤ j ∧ ¬ σ0.2.2.1 62 j' = 0)) → (∀ j, k ≤ j → σ.2.2.1 62 j = σ0.2.2.1 62 j) → ∃ σ', l62 σ0 σ' ∧ bo σ' n ∧ (∀ j, j ≤ n → (¬ σ'.2.2.1 62 j = 0 ↔ ∃ j', j' ≤ j ∧ ¬ σ0.2.2.1 62 j' = 0)) ∧ ∀ (Q : Int32 → rf_S → Prop) (k42 : rf_S → Int32 → Int32 → Int32 → Int32 → Prop) (x2 x3 x6 : Int32), k42 σ' x2 x3 (nI n) (x6 + 1) → w_X12_like_67 Q k42 (r + 1) σ x2 x3 (nI n) x6 (nI k) := by
  intro r
  induction r with
  | zero =>
    intro k σ hk hk1 hl hb h1 h2
    exact ⟨σ, hl, hb, fun j hj => h1 j (by omega), fun Q k42 x2 x3 x6 hQ => ⟨fun _ => hQ, fun hc => absurd (nI_lt (by omega) (by omega)) hc⟩⟩
  | succ r ih =>
    intro k σ hk hk1 hl hb h1 h2
    have hin : ∀ j, j ≤ n → vp_in (nI j) (rf_n 62) := fun j hj => nI_in (N := 25) (by omega) (by decide)
    have ek : nI k - 1 = nI (k - 1) := by
      rw [show nI k = nI (k - 1 + 1) from by rw [show k - 1 + 1 = k from by omega]]; exact nI_pred _
    have hor : (∃ j', j' ≤ k ∧ ¬ σ0.2.2.1 62 j' = 0) ↔ (¬ σ.2.2.1 62 k = 0 ∨ ¬ σ.2.2.1 62 (k - 1) = 0) := by
      rw [h2 k (Nat.le_refl _), h1 (k - 1) (by omega)]
      constructor
      · rintro ⟨j', a1, a2⟩
        by_cases e : j' = k
        · rw [e] at a2; exact Or.inl a2
        · exact Or.inr ⟨j', by omega, a2⟩
      · intro q
        rcases q with q | ⟨j', a1, a2⟩
        · exact ⟨k, Nat.le_refl _, q⟩
        · exact ⟨j', by omega, a2⟩
    have step : ∀ y : Int32, (y = 0 ∨ y = 1) → ((¬ y = 0) ↔ (¬ σ.2.2.1 62 k = 0 ∨ ¬ σ.2.2.1 62 (k - 1) = 0)) → ∃ σ', l62 σ0 σ' ∧ bo σ' n ∧ (∀ j, j ≤ n → (¬ σ'.2.2.1 62 j = 0 ↔ ∃ j', j' ≤ j ∧ ¬ σ0.2.2.1 62 j' = 0)) ∧ ∀ (Q : Int32 → rf_S → Prop) (k42 : rf_S → Int32 → Int32 → Int32 → Int32 → Prop) (x2 x3 x6 : Int32), k42 σ' x2 x3 (nI n) (x6 + 1) → w_X12_like_67 Q k42 (r + 1) (rf_ua σ 62 k y) x2 x3 (nI n) x6 (nI (k + 1)) := by
      intro y hy01 hy
      refine ih (k + 1) (rf_ua σ 62 k y) (by omega) (by omega) (hl.trans l62.ua) (fun j hj => ?_) (fun j hj => ?_) (fun j hj => ?_)
      · rw [r3ua]
        by_cases e : j = k
        · rw [if_pos ⟨rfl, e⟩]; exact hy01
        · rw [if_neg (fun q => e q.2)]; exact hb j hj
      · rw [r3ua]
        by_cases e : j = k
        · rw [if_pos ⟨rfl, e⟩, e, hor]; exact hy
        · rw [if_neg (fun q => e q.2)]; exact h1 j (by omega)
      · rw [r3ua, if_neg (fun q => by omega)]; exact h2 j (by omega)
    by_cases c1 : σ.2.2.1 62 k = 0
    · by_cases c2 : σ.2.2.1 62 (k - 1) = 0
      · obtain ⟨σ', g1, g2, g3, g4⟩ := step 0 (Or.inl rfl) ⟨fun q => absurd rfl q, fun q => by
          rcases q with q | q
          · exact absurd c1 q
          · exact absurd c2 q⟩
        refine ⟨σ', g1, g2, g3, fun Q k42 x2 x3 x6 hQ => ⟨fun hc => absurd hc (nI_nlt (by omega) (by omega)), fun _ => ⟨hin k (by omega), fun hc => ?_, fun _ => ?_⟩⟩⟩
        · rw [nI_clamp (by omega)] at hc; exact absurd c1 hc
        · rw [ek, nI_clamp (by omega)]
          refine ⟨hin (k - 1) (by omega), fun _ => ⟨hin k (by omega), ?_⟩, fun hc => absurd c2 hc⟩
          rw [nI_clamp (by omega), narb0, nI_1]
          exact g4 Q k42 x2 x3 x6 hQ
      · obtain ⟨σ', g1, g2, g3, g4⟩ := step 1 (Or.inr rfl) ⟨fun _ => Or.inr c2, fun _ => by decide⟩
        refine ⟨σ', g1, g2, g3, fun Q k42 x2 x3 x6 hQ => ⟨fun hc => absurd hc (nI_nlt (by omega) (by omega)), fun _ => ⟨hin k (by omega), fun hc => ?_, fun _ => ?_⟩⟩⟩
        · rw [nI_clamp (by omega)] at hc; exact absurd c1 hc
        · rw [ek, nI_clamp (by omega)]
          refine ⟨hin (k - 1) (by omega), fun hc => absurd hc c2, fun _ => ⟨hin k (by omega), ?_⟩⟩
          rw [nI_clamp (by omega), narb1, nI_1]
          exact g4 Q k42 x2 x3 x6 hQ
    · obtain ⟨σ', g1, g2, g3, g4⟩ := step 1 (Or.inr rfl) ⟨fun _ => Or.inl c1, fun _ => by decide⟩
      refine ⟨σ', g1, g2, g3, fun Q k42 x2 x3 x6 hQ => ⟨fun hc => absurd hc (nI_nlt (by omega) (by omega)), fun _ => ⟨hin k (by omega), fun _ => ⟨hin k (by omega), ?_⟩, fun hc => ?_⟩⟩⟩
      · rw [nI_clamp (by omega), narb1, nI_1]
        exact g4 Q k42 x2 x3 x6 hQ
      · rw [nI_clamp (by omega)] at hc; exact absurd hc c1
/-- a letter or any byte -/
theorem rlk_121 {σ0 : rf_S} {c : Int32} (hn : n ≤ 24) (htf : tf + n ≤ 24000) (h0 : bo σ0 n) : ∀ k (σ : rf_S), k ≤ n → l62 σ0 σ → bo σ n → (∀ j, k < j → j ≤ n → (¬ σ.2.2.1 62 j = 0 ↔ ¬ σ0.2.2.1 62 (j - 1) = 0 ∧ (c = 63 ∨ σ0.2.2.1 18 (tf + (j - 1)) = c))) → (∀ j, j ≤ k → σ.2.2.1 62 j = σ0.2.2.1 62 j) → ∃ σ', l62 σ0 σ' ∧ bo σ' n ∧ σ'.2.2.1 62 0 = 0 ∧ (∀ j, 0 < j → j ≤ n → (¬ σ'.2.2.1 62 j = 0 ↔ ¬ σ0.2.2.1 62 (j - 1) = 0 ∧ (c = 63 ∨ σ0.2.2.1 18 (tf + (j - 1)) = c))) ∧ ∀ (Q : Int32 → rf_S → Prop) (k42 : rf_S → Int32 → Int32 → Int32 → Int32 → Prop) (x2 x6 : Int32), k42 σ' x2 (nI tf) (nI n) (x6 + 1) → w_X12_like_121 Q k42 (k + 1) σ x2 (nI tf) (nI n) x6 c (nI k) := by
  have hin : ∀ j, j ≤ n → vp_in (nI j) (rf_n 62) := fun j hj => nI_in (N := 25) (by omega) (by decide)
  intro k
  induction k with
  | zero =>
    intro σ hk hl hb h1 h2
    refine ⟨rf_ua σ 62 0 0, hl.trans l62.ua, fun j hj => ?_, by rw [r3ua, if_pos ⟨rfl, rfl⟩], fun j hj hj2 => ?_, fun Q k42 x2 x6 hQ => ⟨fun _ => ⟨hin 0 (by omega), ?_⟩, fun hc => absurd (by decide) hc⟩⟩
    · rw [r3ua]
      by_cases e : j = 0
      · rw [if_pos ⟨rfl, e⟩]; exact Or.inl rfl
      · rw [if_neg (fun q => e q.2)]; exact hb j hj
    · rw [r3ua, if_neg (fun q => by omega)]; exact h1 j hj hj2
    · show k42 (rf_ua σ 62 0 (vp_nar .boolean 0)) x2 (nI tf) (nI n) (x6 + 1)
      rw [narb0]; exact hQ
  | succ k ih =>
    intro σ hk hl hb h1 h2
    have e18 : ∀ j, σ.2.2.1 18 j = σ0.2.2.1 18 j := fun j => by rw [hl.2.2.1 18 (by decide)]
    have step : ∀ y : Int32, (y = 0 ∨ y = 1) → ((¬ y = 0) ↔ (¬ σ0.2.2.1 62 k = 0 ∧ (c = 63 ∨ σ0.2.2.1 18 (tf + k) = c))) → ∃ σ', l62 σ0 σ' ∧ bo σ' n ∧ σ'.2.2.1 62 0 = 0 ∧ (∀ j, 0 < j → j ≤ n → (¬ σ'.2.2.1 62 j = 0 ↔ ¬ σ0.2.2.1 62 (j - 1) = 0 ∧ (c = 63 ∨ σ0.2.2.1 18 (tf + (j - 1)) = c))) ∧ ∀ (Q : Int32 → rf_S → Prop) (k42 : rf_S → Int32 → Int32 → Int32 → Int32 → Prop) (x2 x6 : Int32), k42 σ' x2 (nI tf) (nI n) (x6 + 1) → w_X12_like_121 Q k42 (k + 1) (rf_ua σ 62 (k + 1) y) x2 (nI tf) (nI n) x6 c (nI k) := by
      intro y hy01 hy
      refine ih (rf_ua σ 62 (k + 1) y) (by omega) (hl.trans l62.ua) (fun j hj => ?_) (fun j hj hj2 => ?_) (fun j hj => ?_)
      · rw [r3ua]
        by_cases e : j = k + 1
        · rw [if_pos ⟨rfl, e⟩]; exact hy01
        · rw [if_neg (fun q => e q.2)]; exact hb j hj
      · rw [r3ua]
        by_cases e : j = k + 1
        · rw [if_pos ⟨rfl, e⟩, e, Nat.add_sub_cancel]; exact hy
        · rw [if_neg (fun q => e q.2)]; exact h1 j (by omega) hj2
      · rw [r3ua, if_neg (fun q => by omega)]; exact h2 j (by omega)
    have e2 := h2 k (by omega)
    by_cases c1 : σ0.2.2.1 62 k = 0
    · obtain ⟨σ', g1, g2, g3, g4, g5⟩ := step 0 (Or.inl rfl) ⟨fun q => absurd rfl q, fun q => absurd c1 q.1⟩
      refine ⟨σ', g1, g2, g3, g4, fun Q k42 x2 x6 hQ => ⟨fun hc => absurd hc (nI_nle (by omega) (by omega)), fun _ => ?_⟩⟩
      rw [nI_pred, nI_clamp (by omega), e2]
      refine ⟨hin k (by omega), fun _ => ⟨hin (k + 1) hk, ?_⟩, fun hc => absurd c1 hc⟩
      rw [nI_clamp (by omega), narb0, nI_m1, nI_pred]
      exact g5 Q k42 x2 x6 hQ
    · by_cases c2 : c = 63 ∨ σ0.2.2.1 18 (tf + k) = c
      · obtain ⟨σ', g1, g2, g3, g4, g5⟩ := step 1 (Or.inr rfl) ⟨fun _ => ⟨c1, c2⟩, fun _ => by decide⟩
        refine ⟨σ', g1, g2, g3, g4, fun Q k42 x2 x6 hQ => ⟨fun hc => absurd hc (nI_nle (by omega) (by omega)), fun _ => ?_⟩⟩
        rw [nI_pred, nI_clamp (by omega), e2]
        have h167 : w_X12_like_167 Q k42 (w_X12_like_121 Q k42 (k + 1)) σ x2 (nI tf) (nI n) x6 c (nI (k + 1)) (nI (k + 1)) := by
          refine ⟨hin (k + 1) hk, ?_⟩
          rw [nI_clamp (by omega), narb1, nI_m1, nI_pred]
          exact g5 Q k42 x2 x6 hQ
        refine ⟨hin k (by omega), fun hc => absurd hc c1, fun _ => ⟨fun _ => h167, fun h63 => ?_⟩⟩
        rw [nI_add, show tf + (k + 1) = tf + k + 1 from rfl, nI_pred, nI_clamp (by omega), e18]
        refine ⟨nI_in (N := 24000) (by omega) (by decide), fun hc => ?_, fun _ => h167⟩
        rcases c2 with c2 | c2
        · exact absurd c2 h63
        · exact absurd c2 hc
      · obtain ⟨σ', g1, g2, g3, g4, g5⟩ := step 0 (Or.inl rfl) ⟨fun q => absurd rfl q, fun q => absurd q.2 c2⟩
        refine ⟨σ', g1, g2, g3, g4, fun Q k42 x2 x6 hQ => ⟨fun hc => absurd hc (nI_nle (by omega) (by omega)), fun _ => ?_⟩⟩
        rw [nI_pred, nI_clamp (by omega), e2]
        have h171 : w_X12_like_171 Q k42 (w_X12_like_121 Q k42 (k + 1)) σ x2 (nI tf) (nI n) x6 c (nI (k + 1)) (nI (k + 1)) := by
          refine ⟨hin (k + 1) hk, ?_⟩
          rw [nI_clamp (by omega), narb0, nI_m1, nI_pred]
          exact g5 Q k42 x2 x6 hQ
        refine ⟨hin k (by omega), fun hc => absurd hc c1, fun _ => ⟨fun h63 => absurd (Or.inl h63) c2, fun h63 => ?_⟩⟩
        rw [nI_add, show tf + (k + 1) = tf + k + 1 from rfl, nI_pred, nI_clamp (by omega), e18]
        exact ⟨nI_in (N := 24000) (by omega) (by decide), fun _ => h171, fun hc => absurd (Or.inr hc) c2⟩
/-- the pattern, place by place -/
theorem rlk_42 {P T : Nat → Int32} {W : Prop} (hn : n ≤ 24) (htf : tf + n ≤ 24000) (hfr : fr + a ≤ 4240) : ∀ r i (σ : rf_S), i + r = a → bo σ n → (∀ j, j < a → σ.2.2.1 46 (fr + j) = P j) → (∀ j, j < n → σ.2.2.1 18 (tf + j) = T j) → (W ↔ ∃ k, k ≤ n ∧ ¬ σ.2.2.1 62 k = 0 ∧ sfx P T n r i k) → ∃ σ' v, l62 σ σ' ∧ ((v = 1 ∧ W) ∨ (v = 0 ∧ ¬ W)) ∧ ∀ Q : Int32 → rf_S → Prop, Q v σ' → w_X12_like_42 Q (r + 1) σ (nI (fr + a)) (nI tf) (nI n) (nI (fr + i)) := by
  have hin : ∀ j, j ≤ n → vp_in (nI j) (rf_n 62) := fun j hj => nI_in (N := 25) (by omega) (by decide)
  intro r
  induction r with
  | zero =>
    intro i σ hi hb h46 h18 hW
    have hW2 : W ↔ ¬ σ.2.2.1 62 n = 0 := by
      rw [hW]
      constructor
      · rintro ⟨k, k1, k2, k3⟩
        have : k = n := k3
        rw [this] at k2; exact k2
      · intro q; exact ⟨n, Nat.le_refl _, q, rfl⟩
    refine ⟨σ, σ.2.2.1 62 n, l62.rfl, ?_, fun Q hQ => ⟨fun _ => ⟨hin n (Nat.le_refl _), ?_, ?_⟩, fun hc => absurd (nI_le (by omega) (by omega)) hc⟩⟩
    · rcases hb n (Nat.le_refl _) with e | e
      · exact Or.inr ⟨e, fun q => hW2.mp q e⟩
      · exact Or.inl ⟨e, hW2.mpr (by rw [e]; decide)⟩
    · rw [nI_clamp (by omega)]
      rcases hb n (Nat.le_refl _) with e | e <;> rw [e] <;> rfl
    · rw [nI_clamp (by omega)]; exact hQ
  | succ r ih =>
    intro i σ hi hb h46 h18 hW
    have ei := h46 i (by omega)
    have h46in : vp_in (nI (fr + i)) (rf_n 46) := nI_in (N := 4240) (by omega) (by decide)
    by_cases c : P i = 42
    · obtain ⟨σ1, g1, g2, g3, g4⟩ := rlk_67 (σ0 := σ) hn hb n 1 σ (by omega) (by omega) l62.rfl hb (fun j hj => by
        have : j = 0 := by omega
        subst this
        exact ⟨fun q => ⟨0, Nat.le_refl _, q⟩, fun ⟨j', a1, a2⟩ => by
          have : j' = 0 := by omega
          rw [this] at a2; exact a2⟩) (fun j _ => rfl)
      have e46 : ∀ j, σ1.2.2.1 46 j = σ.2.2.1 46 j := fun j => by rw [g1.2.2.1 46 (by decide)]
      have e18 : ∀ j, σ1.2.2.1 18 j = σ.2.2.1 18 j := fun j => by rw [g1.2.2.1 18 (by decide)]
      obtain ⟨σ', v, d1, d2, d3⟩ := ih (i + 1) σ1 (by omega) g2 (fun j hj => by rw [e46]; exact h46 j hj) (fun j hj => by rw [e18]; exact h18 j hj) (by
        rw [hW]
        constructor
        · rintro ⟨k, k1, k2, k3⟩
          rw [sfx_star c] at k3
          obtain ⟨s, s1, s2, s3⟩ := k3
          exact ⟨s, s2, (g3 s s2).mpr ⟨k, s1, k2⟩, s3⟩
        · rintro ⟨s, s1, s2, s3⟩
          obtain ⟨k, k1, k2⟩ := (g3 s s1).mp s2
          exact ⟨k, by omega, k2, (sfx_star c).mpr ⟨s, k1, s1, s3⟩⟩)
      refine ⟨σ', v, g1.trans d1, d2, fun Q hQ => ⟨fun hc => absurd hc (nI_ge (by omega) (by omega)), fun _ => ⟨h46in, fun hc => ?_, fun _ => ⟨n + 1, g4 Q _ _ _ _ ?_⟩⟩⟩⟩
      · rw [nI_clamp (by omega), ei] at hc; exact absurd c hc
      · rw [nI_1]; exact d3 Q hQ
    · obtain ⟨σ1, g1, g2, g3, g4, g5⟩ := rlk_121 (σ0 := σ) (c := P i) (tf := tf) hn htf hb n σ (Nat.le_refl _) l62.rfl hb (fun j hj hj2 => absurd hj (by omega)) (fun j _ => rfl)
      have e46 : ∀ j, σ1.2.2.1 46 j = σ.2.2.1 46 j := fun j => by rw [g1.2.2.1 46 (by decide)]
      have e18 : ∀ j, σ1.2.2.1 18 j = σ.2.2.1 18 j := fun j => by rw [g1.2.2.1 18 (by decide)]
      obtain ⟨σ', v, d1, d2, d3⟩ := ih (i + 1) σ1 (by omega) g2 (fun j hj => by rw [e46]; exact h46 j hj) (fun j hj => by rw [e18]; exact h18 j hj) (by
        rw [hW]
        constructor
        · rintro ⟨k, k1, k2, k3⟩
          rw [sfx_chr c] at k3
          refine ⟨k + 1, k3.1, (g4 (k + 1) (by omega) k3.1).mpr ⟨by rw [Nat.add_sub_cancel]; exact k2, ?_⟩, k3.2.2⟩
          rw [Nat.add_sub_cancel, h18 k k3.1]
          rcases k3.2.1 with q | q
          · exact Or.inl q
          · exact Or.inr q.symm
        · rintro ⟨s, s1, s2, s3⟩
          have hs0 : 0 < s := Nat.pos_of_ne_zero (fun q => by rw [q] at s2; exact s2 g3)
          obtain ⟨k1, k2⟩ := (g4 s hs0 s1).mp s2
          refine ⟨s - 1, by omega, k1, (sfx_chr c).mpr ⟨by omega, ?_, by rw [show s - 1 + 1 = s from by omega]; exact s3⟩⟩
          rw [h18 (s - 1) (by omega)] at k2
          rcases k2 with q | q
          · exact Or.inl q
          · exact Or.inr q.symm)
      refine ⟨σ', v, g1.trans d1, d2, fun Q hQ => ⟨fun hc => absurd hc (nI_ge (by omega) (by omega)), fun _ => ⟨h46in, fun _ => ⟨n + 1, ?_⟩, fun hc => ?_⟩⟩⟩
      · rw [nI_clamp (by omega), ei]
        refine g5 Q _ _ _ ?_
        rw [nI_1]; exact d3 Q hQ
      · rw [nI_clamp (by omega), ei] at hc; exact absurd hc c
theorem rlk {P T : Nat → Int32} {σ : rf_S} (hn : n ≤ 24) (htf : tf + n ≤ 24000) (hfr : fr + a ≤ 4240) (h46 : ∀ j, j < a → σ.2.2.1 46 (fr + j) = P j) (h18 : ∀ j, j < n → σ.2.2.1 18 (tf + j) = T j) : ∃ σ' v, l62 σ σ' ∧ ((v = 1 ∧ sfx P T n a 0 0) ∨ (v = 0 ∧ ¬ sfx P T n a 0 0)) ∧ ∀ Q : Int32 → rf_S → Prop, Q v σ' → wp_X12_like Q σ (nI fr) (nI (fr + a)) (nI tf) (nI (tf + n)) := by
  obtain ⟨σ1, g1, g2, g3⟩ := rlk_9 (n := n) hn (n + 1) 0 σ (by omega) (fun j hj => absurd hj (by omega))
  have hb : bo σ1 n := fun j hj => by
    rw [g2 j hj]
    by_cases e : j = 0
    · rw [if_pos e]; exact Or.inr rfl
    · rw [if_neg e]; exact Or.inl rfl
  obtain ⟨σ', v, d1, d2, d3⟩ := rlk_42 (P := P) (T := T) (W := sfx P T n a 0 0) (tf := tf) (a := a) (fr := fr) hn htf hfr a 0 σ1 (by omega) hb (fun j hj => by rw [g1.2.2.1 46 (by decide)]; exact h46 j hj) (fun j hj => by rw [g1.2.2.1 18 (by decide)]; exact h18 j hj) (by
    constructor
    · intro q
      exact ⟨0, Nat.zero_le _, by rw [g2 0 (Nat.zero_le _)]; decide, q⟩
    · rintro ⟨k, k1, k2, k3⟩
      rw [g2 k k1] at k2
      have : k = 0 := by
        by_cases e : k = 0
        · exact e
        · rw [if_neg e] at k2; exact absurd rfl k2
      rw [this] at k3; exact k3)
  refine ⟨σ', v, g1.trans d1, d2, fun Q hQ => ⟨n + 2, ?_⟩⟩
  have e : nI (tf + n) - nI tf = nI n := by rw [show nI (tf + n) = nI n + nI tf from by rw [nI_add, Nat.add_comm], Int32.add_sub_cancel]
  rw [e]
  exact g3 Q _ _ _ ⟨a + 1, d3 Q hQ⟩
end RLK
