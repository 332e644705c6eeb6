/-! ===== a test of a condition, on both sides ===== -/
/-- an event of the reference by itself -/
def eW (σ : rf_S) (te e m : Nat) : Prop := e ≤ 4000 ∧ m ≤ 8 ∧ σ.2.2.1 9 e = nI m ∧ ∀ k, k < m → vW σ te (8 * e + k)
theorem vlR.w {S : cs_S} {σ : rf_S} {te va f : Nat} (h : vlR S σ te va f) (hf : f < 32008) : vW σ te f := by
  obtain ⟨a1, a2, a3, tx, L, a4, a5, a6, a7, a8, a9, a10⟩ := h
  refine ⟨hf, ?_⟩
  rcases a10 with ⟨b1, b2, o, b3, b4, -⟩ | ⟨b1, -⟩
  · exact Or.inl ⟨b1, L, o, b2, a7, b3, b4⟩
  · exact Or.inr b1
theorem evR.w {S : cs_S} {σ : rf_S} {te q e m : Nat} (h : evR S σ te q e m) (he : e ≤ 4000) : eW σ te e m := by
  obtain ⟨-, -, hm, h9, nm, vs, -, -, -, -, -, -, hfl⟩ := h
  refine ⟨he, hm, h9, fun k hk => ?_⟩
  obtain ⟨-, ⟨va, -, b⟩, -⟩ := hfl k hk
  exact b.w (by omega)
section RLF2
variable {σ : rf_S} {n e m te : Nat}
theorem rlf (hn : nW σ n) (he : eW σ te e m) (hte : te ≤ 24000) : ∃ (v : Int32) (σ' : rf_S), l62 σ σ' ∧ ((v = 1 ∧ lT σ n e) ∨ (v = 0 ∧ ¬ lT σ n e)) ∧ ∀ (Q : Int32 → rf_S → Prop) (rc0 : (Int32 → rf_S → Prop) → rf_S → Int32 → Int32 → Prop) (f : Nat), Q v σ' → w_X12_holds_2 Q rc0 (f + 1) σ (nI e) (nI n) := by
  obtain ⟨he4, hm8, h9, hv⟩ := he
  have hn1 := hn.1
  have hn31 : n < 2 ^ 31 := by omega
  have he31 : e < 2 ^ 31 := by omega
  obtain ⟨o, ho1, ho2, eo⟩ := id hn.2.1
  have i47 : vp_in (nI n) (rf_n 47) := nI_in (N := 2200) hn1 (by decide)
  have i48 : vp_in (nI n) (rf_n 48) := nI_in (N := 2200) hn1 (by decide)
  have i52 : vp_in (nI n) (rf_n 52) := nI_in (N := 2200) hn1 (by decide)
  have iE : ∀ k, k = 10 ∨ k = 11 ∨ k = 12 → vp_in (nI e) (rf_n k) := fun k hk => by rcases hk with rfl | rfl | rfl <;> exact nI_in (N := 4001) (by omega) (by decide)
  have eI : (σ.2.2.1 47 n).toInt = (o : Int) := by rw [eo]; exact nI_toInt (by omega)
  have e0 : ¬ σ.2.2.1 47 n = 0 := op_ne (o' := 0) eo (by omega) (by decide) (by omega)
  have e1 : ¬ σ.2.2.1 47 n = 1 := op_ne (o' := 1) eo (by omega) (by decide) (by omega)
  have hgo : ∀ (Q : Int32 → rf_S → Prop) (rc0 : (Int32 → rf_S → Prop) → rf_S → Int32 → Int32 → Prop) (f : Nat), (5 < o → wp_X12_fieldOf (fun r10 σ10 => wp_X12_fits (fun r11 σ11 => narrow .boolean (.int r11) = .int r11 ∧ Q r11 σ11) σ10 (nI n) r10) σ (nI e) (σ.2.2.2 52 n)) → (o = 3 → (¬ (σ.2.2.2 11 e = σ.2.2.2 52 n) → Q 0 σ) ∧ (σ.2.2.2 11 e = σ.2.2.2 52 n → (¬ σ.2.2.2 12 e = 0 → Q 0 σ) ∧ (σ.2.2.2 12 e = 0 → Q 1 σ))) → (o = 4 → wp_X12_fieldOf (fun r13 σ13 => (r13 < 0 → w_X12_holds_200 Q rc0 σ13 0) ∧ (¬ r13 < 0 → w_X12_holds_200 Q rc0 σ13 1)) σ (nI e) (σ.2.2.2 52 n)) → (o = 5 → (¬ σ.2.2.1 10 e = σ.2.2.1 48 n → Q 0 σ) ∧ (σ.2.2.1 10 e = σ.2.2.1 48 n → Q 1 σ)) → w_X12_holds_2 Q rc0 (f + 1) σ (nI e) (nI n) := by
    intro Q rc0 f h6 h3 h4 h5
    refine ⟨i47, ?_⟩
    rw [nI_clamp hn31, nI_clamp he31, eI, lg_eq, lg_eq]
    exact ⟨fun _ => ⟨i47, fun _ => ⟨i47, fun hc => ⟨i52, h6 (by omega)⟩, fun hc => absurd hc (by omega), fun hc => ⟨iE 11 (by omega), i52, fun hd => ⟨rfl, (h3 (by omega)).1 hd⟩, fun hd => ⟨iE 12 (by omega), fun hz => ⟨rfl, ((h3 (by omega)).2 hd).1 hz⟩, fun hz => ⟨rfl, ((h3 (by omega)).2 hd).2 hz⟩⟩⟩, fun hc => ⟨i52, h4 (by omega)⟩, fun hc => ⟨iE 10 (by omega), i48, fun hd => ⟨rfl, (h5 (by omega)).1 hd⟩, fun hd => ⟨rfl, (h5 (by omega)).2 hd⟩⟩⟩, fun hc => absurd hc e1⟩, fun hc => absurd hc e0⟩
  have bad : ∀ {x y : Nat} {P : Prop}, x ≠ y → x = y → P := fun h1 h2 => absurd h2 h1
  have tno : o < 6 → ∀ f, ¬ tT σ n f := by
    intro hlt f q
    have hh : ∀ o', o' ≤ 13 → 6 ≤ o' → ¬ σ.2.2.1 47 n = nI o' := fun o' h1 h2 => op_ne eo (by omega) (by omega) (by omega)
    rcases q with ⟨q, -⟩ | ⟨q, -⟩ | ⟨q, -⟩ | ⟨q, -⟩ | ⟨q, -⟩ | ⟨q, -⟩ | ⟨q, -⟩ | ⟨q, -⟩
    · exact hh 6 (by omega) (by omega) q
    · exact hh 7 (by omega) (by omega) q
    · exact hh 8 (by omega) (by omega) q
    · exact hh 9 (by omega) (by omega) q
    · exact hh 10 (by omega) (by omega) q
    · exact hh 11 (by omega) (by omega) q
    · exact hh 12 (by omega) (by omega) q
    · exact hh 13 (by omega) (by omega) q
  have hh3 : o ≠ 3 → ¬ σ.2.2.1 47 n = 3 := fun h => op_ne (o' := 3) eo (by omega) (by decide) h
  have hh4 : o ≠ 4 → ¬ σ.2.2.1 47 n = 4 := fun h => op_ne (o' := 4) eo (by omega) (by decide) h
  have hh5 : o ≠ 5 → ¬ σ.2.2.1 47 n = 5 := fun h => op_ne (o' := 5) eo (by omega) (by decide) h
  have hcase : o = 3 ∨ o = 4 ∨ o = 5 ∨ 6 ≤ o := by omega
  rcases hcase with rfl | rfl | rfl | h6
  · by_cases ht : σ.2.2.2 11 e = σ.2.2.2 52 n ∧ σ.2.2.2 12 e = 0
    · exact ⟨1, σ, l62.rfl, Or.inl ⟨rfl, Or.inl ⟨eo, ht.1, ht.2⟩⟩, fun Q rc0 f hQ => hgo Q rc0 f (fun q => absurd q (by decide)) (fun _ => ⟨fun q => absurd ht.1 q, fun _ => ⟨fun q => absurd ht.2 q, fun _ => hQ⟩⟩) (bad (by decide)) (bad (by decide))⟩
    · refine ⟨0, σ, l62.rfl, Or.inr ⟨rfl, fun q => ?_⟩, fun Q rc0 f hQ => hgo Q rc0 f (fun q => absurd q (by decide)) (fun _ => ⟨fun _ => hQ, fun h1 => ⟨fun _ => hQ, fun h2 => absurd ⟨h1, h2⟩ ht⟩⟩) (bad (by decide)) (bad (by decide))⟩
      rcases q with ⟨-, q⟩ | ⟨q, -⟩ | ⟨q, -⟩ | ⟨k, -, -, q⟩
      · exact ht q
      · exact hh4 (by decide) q
      · exact hh5 (by decide) q
      · exact tno (by decide) _ q
  · cases hfo : fO σ e (σ.2.2.2 52 n) with
    | none =>
      refine ⟨0, σ, l62.rfl, Or.inr ⟨rfl, fun q => ?_⟩, fun Q rc0 f hQ => hgo Q rc0 f (fun q => absurd q (by decide)) (bad (by decide)) (fun _ => rfo he4 h9 hm8 ?_) (bad (by decide))⟩
      · rcases q with ⟨q, -⟩ | ⟨-, k, q⟩ | ⟨q, -⟩ | ⟨k, -, -, q⟩
        · exact hh3 (by decide) q
        · rw [hfo] at q; cases q
        · exact hh5 (by decide) q
        · exact tno (by decide) _ q
      · rw [hfo]
        exact ⟨fun _ => ⟨rfl, hQ⟩, fun hc => absurd (by show (-1 : Int32) < 0; decide) hc⟩
    | some k =>
      have hk := fO_lt h9 hm8 hfo
      refine ⟨1, σ, l62.rfl, Or.inl ⟨rfl, Or.inr (Or.inl ⟨eo, k, hfo⟩)⟩, fun Q rc0 f hQ => hgo Q rc0 f (fun q => absurd q (by decide)) (bad (by decide)) (fun _ => rfo he4 h9 hm8 ?_) (bad (by decide))⟩
      rw [hfo]
      exact ⟨fun hc => absurd hc (nI_pos (n := 8 * e + k) (by omega)), fun _ => ⟨rfl, hQ⟩⟩
  · by_cases ht : σ.2.2.1 10 e = σ.2.2.1 48 n
    · exact ⟨1, σ, l62.rfl, Or.inl ⟨rfl, Or.inr (Or.inr (Or.inl ⟨eo, ht⟩))⟩, fun Q rc0 f hQ => hgo Q rc0 f (fun q => absurd q (by decide)) (bad (by decide)) (bad (by decide)) (fun _ => ⟨fun q => absurd ht q, fun _ => hQ⟩)⟩
    · refine ⟨0, σ, l62.rfl, Or.inr ⟨rfl, fun q => ?_⟩, fun Q rc0 f hQ => hgo Q rc0 f (fun q => absurd q (by decide)) (bad (by decide)) (bad (by decide)) (fun _ => ⟨fun _ => hQ, fun q => absurd q ht⟩)⟩
      rcases q with ⟨q, -⟩ | ⟨q, -⟩ | ⟨-, q⟩ | ⟨k, -, -, q⟩
      · exact hh3 (by decide) q
      · exact hh4 (by decide) q
      · exact ht q
      · exact tno (by decide) _ q
  · cases hfo : fO σ e (σ.2.2.2 52 n) with
    | none =>
      refine ⟨0, σ, l62.rfl, Or.inr ⟨rfl, fun q => ?_⟩, fun Q rc0 f hQ => hgo Q rc0 f (fun _ => rfo he4 h9 hm8 ?_) (bad (by omega)) (bad (by omega)) (bad (by omega))⟩
      · rcases q with ⟨q, -⟩ | ⟨q, -⟩ | ⟨q, -⟩ | ⟨k, q, -, -⟩
        · exact hh3 (by omega) q
        · exact hh4 (by omega) q
        · exact hh5 (by omega) q
        · rw [hfo] at q; cases q
      · rw [hfo]
        exact ⟨fun _ => ⟨rfl, hQ⟩, fun hc => absurd (by show (-1 : Int32) < 0; decide) hc⟩
    | some k =>
      have hk := fO_lt h9 hm8 hfo
      obtain ⟨v, σ', g1, g2, g3⟩ := rft hn (hv k hk.1) hte h6 ho2 eo
      refine ⟨v, σ', g1, ?_, fun Q rc0 f hQ => hgo Q rc0 f (fun _ => rfo he4 h9 hm8 ?_) (bad (by omega)) (bad (by omega)) (bad (by omega))⟩
      · rcases g2 with ⟨a, b, c⟩ | ⟨a, b⟩
        · exact Or.inl ⟨a, Or.inr (Or.inr (Or.inr ⟨k, hfo, b, c⟩))⟩
        · refine Or.inr ⟨a, fun q => ?_⟩
          rcases q with ⟨q, -⟩ | ⟨q, -⟩ | ⟨q, -⟩ | ⟨k', q, q1, q2⟩
          · exact hh3 (by omega) q
          · exact hh4 (by omega) q
          · exact hh5 (by omega) q
          · rw [hfo] at q
            cases q
            exact b ⟨q1, q2⟩
      · rw [hfo]
        exact g3 Q hQ
end RLF2
