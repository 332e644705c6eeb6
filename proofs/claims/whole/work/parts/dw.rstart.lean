/-! ===== the reference's rules(), as far as the first token ===== -/
section RST2
variable {bf : Nat → Nat} {z bk : Nat} {nm : Nat → Int64} {σ : rf_S}
def rQ (σ : rf_S) : rf_S := rf_ui (rf_ui (rf_ui (rf_ui (rf_ui (rf_ui (rf_ui (rf_ui (rf_ui σ 0 0) 3 (σ.1 2)) 2 0) 4 0) 5 0) 7 ((-1))) 32 (1 - (σ.1 32))) 34 0) 53 (1100 * (1 - (σ.1 32)))
theorem r_start (h32 : σ.1 32 = nI bk) (hbk : bk ≤ 1) (h2 : σ.1 2 = nI z) (hz : z ≤ 2100) (hb : ∀ j, j < z → bf j < 256) (ht : ∀ j, j < z → σ.2.2.1 1 j &&& 255 = nI (bf j)) (h59 : ∀ j, σ.2.2.2 59 j = rf_i0.2.2.2 59 j) : ∃ σ4, rA bf z (1 - bk) 0 nm 0 0 σ4 ∧ ((∀ k, k ≠ 0 → k ≠ 2 → k ≠ 3 → k ≠ 4 → k ≠ 5 → k ≠ 7 → k ≠ 32 → k ≠ 34 → (k < 53 ∨ 57 < k) → σ4.1 k = σ.1 k) ∧ σ4.1 0 = 0 ∧ σ4.1 2 = 0 ∧ σ4.1 7 = -1) ∧ (∀ k, k ≠ 58 → σ4.2.1 k = σ.2.1 k) ∧ (∀ k j, ¬ (k = 46 ∧ 2120 * (1 - bk) ≤ j ∧ j < 2120 * (1 - bk) + 2120) → σ4.2.2.1 k j = σ.2.2.1 k j) ∧ σ4.2.2.2 = σ.2.2.2 ∧
    ∀ Q : Int32 → rf_S → Prop, wp_X12_text (fun r5 σ5 => (¬ r5 = 0 → wp_X12_emptyLog (fun σ6 => Q (σ6.1 33) σ6) (rf_ui σ5 33 (σ5.1 34))) ∧ (r5 = 0 → Q (((-1)) - (σ5.1 6)) (rf_ui σ5 32 (1 - (σ5.1 32))))) σ4 → wp_X12_rules Q σ := by
  have e1 : (1 : Int32) - nI bk = nI (1 - bk) := by
    have : bk = 0 ∨ bk = 1 := by omega
    rcases this with e | e <;> rw [e] <;> decide
  have q32 : (rQ σ).1 32 = nI (1 - bk) := by
    show (rf_ui (rf_ui (rf_ui _ 32 _) 34 0) 53 _).1 32 = _
    rw [r1ui, if_neg (by decide), r1ui, if_neg (by decide), r1ui, if_pos rfl, h32, e1]
  have q53 : (rQ σ).1 53 = nI (1100 * (1 - bk) + 0) := by
    show (rf_ui _ 53 _).1 53 = _
    rw [r1ui, if_pos rfl, h32, e1, show (1100 : Int32) = nI 1100 from rfl, nI_mul]; rfl
  have q34 : (rQ σ).1 34 = nI 0 := by
    show (rf_ui (rf_ui _ 34 0) 53 _).1 34 = _
    rw [r1ui, if_neg (by decide), r1ui, if_pos rfl]; rfl
  have q3 : (rQ σ).1 3 = nI z := by
    unfold rQ
    rw [r1ui, if_neg (by decide), r1ui, if_neg (by decide), r1ui, if_neg (by decide), r1ui, if_neg (by decide), r1ui, if_neg (by decide), r1ui, if_neg (by decide), r1ui, if_neg (by decide), r1ui, if_pos rfl, h2]
  have q4 : (rQ σ).1 4 = nI 0 := by
    unfold rQ
    rw [r1ui, if_neg (by decide), r1ui, if_neg (by decide), r1ui, if_neg (by decide), r1ui, if_neg (by decide), r1ui, if_neg (by decide), r1ui, if_pos rfl]; rfl
  have q5 : (rQ σ).1 5 = 0 := by
    unfold rQ
    rw [r1ui, if_neg (by decide), r1ui, if_neg (by decide), r1ui, if_neg (by decide), r1ui, if_neg (by decide), r1ui, if_pos rfl]
  have q7 : (rQ σ).1 7 = -1 := by
    unfold rQ
    rw [r1ui, if_neg (by decide), r1ui, if_neg (by decide), r1ui, if_neg (by decide), r1ui, if_pos rfl]
  have q2 : (rQ σ).1 2 = 0 := by
    unfold rQ
    rw [r1ui, if_neg (by decide), r1ui, if_neg (by decide), r1ui, if_neg (by decide), r1ui, if_neg (by decide), r1ui, if_neg (by decide), r1ui, if_neg (by decide), r1ui, if_pos rfl]
  have q0 : (rQ σ).1 0 = 0 := by
    unfold rQ
    rw [r1ui, if_neg (by decide), r1ui, if_neg (by decide), r1ui, if_neg (by decide), r1ui, if_neg (by decide), r1ui, if_neg (by decide), r1ui, if_neg (by decide), r1ui, if_neg (by decide), r1ui, if_neg (by decide), r1ui, if_pos rfl]
  have qo : ∀ k, k ≠ 0 → k ≠ 2 → k ≠ 3 → k ≠ 4 → k ≠ 5 → k ≠ 7 → k ≠ 32 → k ≠ 34 → k ≠ 53 → (rQ σ).1 k = σ.1 k := fun k a b c d e f g h i => by
    unfold rQ
    rw [r1ui, if_neg i, r1ui, if_neg h, r1ui, if_neg g, r1ui, if_neg f, r1ui, if_neg e, r1ui, if_neg d, r1ui, if_neg b, r1ui, if_neg c, r1ui, if_neg a]
  have qr : (rQ σ).2 = σ.2 := rfl
  -- copying
  have loop : ∀ r x (σx : rf_S), x + r = z → σx.1 = (rQ σ).1 → σx.2.1 = σ.2.1 → σx.2.2.2 = σ.2.2.2 → (∀ k j, ¬ (k = 46 ∧ 2120 * (1 - bk) ≤ j ∧ j < 2120 * (1 - bk) + 2120) → σx.2.2.1 k j = σ.2.2.1 k j) → (∀ j, j < x → σx.2.2.1 46 (2120 * (1 - bk) + j) = vp_nar .byte (σ.2.2.1 1 j)) → ∃ σy : rf_S, σy.1 = (rQ σ).1 ∧ σy.2.1 = σ.2.1 ∧ σy.2.2.2 = σ.2.2.2 ∧ (∀ k j, ¬ (k = 46 ∧ 2120 * (1 - bk) ≤ j ∧ j < 2120 * (1 - bk) + 2120) → σy.2.2.1 k j = σ.2.2.1 k j) ∧ (∀ j, j < z → σy.2.2.1 46 (2120 * (1 - bk) + j) = vp_nar .byte (σ.2.2.1 1 j)) ∧ ∀ Q : Int32 → rf_S → Prop, wp_X12_next (fun σ4 => wp_X12_text (fun r5 σ5 => (¬ r5 = 0 → wp_X12_emptyLog (fun σ6 => Q (σ6.1 33) σ6) (rf_ui σ5 33 (σ5.1 34))) ∧ (r5 = 0 → Q (((-1)) - (σ5.1 6)) (rf_ui σ5 32 (1 - (σ5.1 32))))) σ4) σy → w_X12_rules_62 Q (r + 1) σx (nI x) := by
    intro r
    induction r with
    | zero =>
      intro x σx hx a1 a2 a3 a4 a5
      have : x = z := by omega
      subst this
      exact ⟨σx, a1, a2, a3, a4, a5, fun Q hQ => ⟨fun _ => hQ, fun q => absurd (by rw [a1, q3]; exact nI_le (Nat.le_refl _) (by omega)) q⟩⟩
    | succ r ih =>
      intro x σx hx a1 a2 a3 a4 a5
      have e46 : (2120 * (σx.1 32)) + nI x = nI (2120 * (1 - bk) + x) := by rw [a1, q32, show (2120 : Int32) = nI 2120 from rfl, nI_mul, nI_add]
      obtain ⟨σy, b1, b2, b3, b4, b5, b6⟩ := ih (x + 1) (rf_ua σx 46 (2120 * (1 - bk) + x) (vp_nar .byte (σ.2.2.1 1 x))) (by omega) a1 a2 a3 (fun k j hk => by rw [r3ua, if_neg (fun e => hk ⟨e.1, by omega, by omega⟩)]; exact a4 k j hk) (fun j hj => by
        by_cases e : j = x
        · rw [e, r3ua, if_pos ⟨rfl, rfl⟩]
        · rw [r3ua, if_neg (by omega)]; exact a5 j (by omega))
      refine ⟨σy, b1, b2, b3, b4, b5, fun Q hQ => ⟨fun q => ?_, fun _ => ⟨nI_in (N := 2120) (by omega) (by decide), ?_, ?_⟩⟩⟩
      · rw [a1, q3] at q; exact absurd q (nI_ge (by omega) (by omega))
      · rw [e46]; exact nI_in (N := 4240) (by omega) (by decide)
      · rw [e46, nI_clamp (by omega), nI_clamp (by omega), a4 1 x (by omega), nI_1]
        exact b6 Q hQ
  obtain ⟨σy, b1, b2, b3, b4, b5, b6⟩ := loop z 0 (rQ σ) (by omega) rfl rfl rfl (fun _ _ _ => rfl) (fun j hj => absurd hj (Nat.not_lt_zero _))
  have hJ : tJ σy z bf := ⟨by rw [b1]; exact q3, hz, hb, fun j hj => by rw [b4 1 j (by omega)]; exact ht j hj⟩
  obtain ⟨σ4, k1, k2, k3⟩ := r_next (p := 0) hJ (by rw [b1]; exact q4) (Nat.zero_le _)
  have er : σ4.2.2 = σy.2.2 := k1.2.2
  have i4 : ∀ k, k ≠ 4 → k ≠ 54 → k ≠ 55 → k ≠ 56 → k ≠ 57 → σ4.1 k = (rQ σ).1 k := fun k a b c d e => by rw [k1.1 k a b c d e, b1]
  refine ⟨σ4, ⟨hJ.nx k1, k2, ⟨by rw [i4 5 (by decide) (by decide) (by decide) (by decide) (by decide)]; exact q5, by rw [i4 32 (by decide) (by decide) (by decide) (by decide) (by decide)]; exact q32, by omega⟩, fun j => by rw [er, b3]; exact h59 j, ⟨by rw [i4 53 (by decide) (by decide) (by decide) (by decide) (by decide)]; exact q53, by omega, fun n hn => by have := hn.1; have := hn.2; omega, fun n hn => by have := hn.1; have := hn.2; omega⟩, ⟨by rw [i4 34 (by decide) (by decide) (by decide) (by decide) (by decide)]; exact q34, by omega, fun r hr => absurd hr (Nat.not_lt_zero _)⟩, fun j hj hb2 => ?_⟩, ⟨fun k a b c d e f g h i => ?_, ?_, ?_, ?_⟩, fun k hk => by rw [k1.2.1 k hk, b2], fun k j hk => by rw [er]; exact b4 k j hk, by rw [er, b3], fun Q hQ => ⟨z + 1, b6 Q (k3 _ hQ)⟩⟩
  · rw [er, b5 j hj]; exact nar_b (ht j hj) hb2
  · rw [i4 k d (by omega) (by omega) (by omega) (by omega)]; exact qo k a b c d e f g h (by omega)
  · rw [i4 0 (by decide) (by decide) (by decide) (by decide) (by decide)]; exact q0
  · rw [i4 2 (by decide) (by decide) (by decide) (by decide) (by decide)]; exact q2
  · rw [i4 7 (by decide) (by decide) (by decide) (by decide) (by decide)]; exact q7
end RST2
