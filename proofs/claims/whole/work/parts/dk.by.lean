/-! ===== a rule read: by ===== -/
section BYS
variable {G cx : Nat → Nat} {bf : Nat → Nat} {z c bk nr i cn b x k n R ca by0 wt : Nat} {ra : Nat → Nat} {nm : Nat → Int64} {na : Int64} {σ σ' : rf_S} {S S' S0 : cs_S} {vi : Nat → Int32} {vl : Nat → Int64} {un : Option Nat} {ce : Nat → Option Nat} {be : Nat → Int64} {fk fp : Int32}
/-- the reference: is the name there -/
theorem r_by38 {post : Int32 → rf_S → Prop} {k0 : rf_S → Int32 → Prop} (hb : b < 24) (h43 : σ.2.2.1 43 b = nI n) (hn : n < 3) : ((∀ j, j < n → ¬ σ.2.2.2 37 (3 * b + j) = σ.2.1 58) → wp_X12_next (fun σ8 => wp_X12_isSign (fun r9 σ9 => (¬ r9 = 0 → k0 σ9 (nI b)) ∧ (r9 = 0 → post 1 σ9)) σ8 44) (rf_ua (rf_ub σ 37 (3 * b + n) (σ.2.1 58)) 43 b (nI (n + 1))) → w_X12_readBy_38 post k0 (n + 1) σ (nI b) 0) ∧
    (∀ j, j < n → σ.2.2.2 37 (3 * b + j) = σ.2.1 58 → post 0 (rB σ 5 (σ.1 55)) → w_X12_readBy_38 post k0 (n + 1) σ (nI b) 0) := by
  have eC : (nI b).toNatClampNeg = b := nI_clamp (by omega)
  have i43 : vp_in (nI b) (rf_n 43) := nI_in (N := 24) hb (by decide)
  have e3 : ∀ j : Nat, (3 * nI b) + nI j = nI (3 * b + j) := fun j => by rw [show (3 : Int32) = nI 3 from rfl, nI_mul, nI_add]
  refine ⟨fun hd hk => ?_, fun j0 hj0 he hk => ?_⟩
  · have loop : ∀ d j, j + d = n → w_X12_readBy_38 post k0 (d + 1) σ (nI b) (nI j) := by
      intro d
      induction d with
      | zero =>
        intro j hj
        have : j = n := by omega
        subst this
        refine ⟨i43, fun _ => ⟨i43, ?_, i43, i43, ?_⟩, fun q => absurd ?_ q⟩
        · rw [eC, h43, e3]; exact nI_in (N := 72) (by omega) (by decide)
        · rw [eC, h43, e3, nI_clamp (by omega), nI_1]; exact hk
        · rw [eC, h43]; exact nI_le (Nat.le_refl _) (by omega)
      | succ d ih =>
        intro j hj
        refine ⟨i43, fun q => ?_, fun _ => ⟨?_, fun _ => ?_, fun q => ?_⟩⟩
        · rw [eC, h43] at q; exact absurd q (nI_ge (by omega) (by omega))
        · rw [e3]; exact nI_in (N := 72) (by omega) (by decide)
        · rw [nI_1]; exact ih (j + 1) (by omega)
        · rw [e3, nI_clamp (by omega)] at q
          exact absurd (lg_eq.mp q) (hd j (by omega))
    exact loop n 0 (by omega)
  · have loop : ∀ d j, j + d = n → j ≤ j0 → w_X12_readBy_38 post k0 (d + 1) σ (nI b) (nI j) := by
      intro d
      induction d with
      | zero => intro j hj hj2; omega
      | succ d ih =>
        intro j hj hj2
        refine ⟨i43, fun q => ?_, fun _ => ⟨?_, fun q => ?_, fun _ => ⟨rfl, hk⟩⟩⟩
        · rw [eC, h43] at q; exact absurd q (nI_ge (by omega) (by omega))
        · rw [e3]; exact nI_in (N := 72) (by omega) (by decide)
        · rw [e3, nI_clamp (by omega)] at q
          rw [nI_1]
          refine ih (j + 1) (by omega) ?_
          by_cases e : j = j0
          · rw [e] at q; exact absurd (lg_eq.mpr he) q
          · omega
    exact loop n 0 (by omega) (by omega)
/-- the class: is the name there -/
theorem c_keyed {post : Int32 → cs_S → Prop} {A : Int64} (hl : rM S R ca by0 wt vi vl un ce be) (hk : vi 809 = nI n) (hn : n ≤ 3) : ((∀ j, j < n → ¬ be j = A) → post 0 S → wp_X7_keyedBy post G S R A) ∧ (∀ j, j < n → be j = A → post 1 S → wp_X7_keyedBy post G S R A) := by
  obtain ⟨⟨h1, h2, h3, -, -, h4, -⟩, -, ⟨a1, a2, a3⟩, -⟩ := hl
  have h9 := (h2 809).trans hk
  have step : ∀ d j, j < n → (¬ be j = A → w_X7_keyedBy_2 post G d S R A (nI (j + 1))) → (be j = A → post 1 S) → w_X7_keyedBy_2 post G (d + 1) S R A (nI j) := by
    intro d j hj q1 q2
    refine ⟨h1, fun q => ?_, fun _ r9 e9 => ⟨by0, e9.trans h4, a1, fun q => ?_, fun _ r12 e12 => ⟨by0, e12.trans h4, a1, by rw [a2]; exact nI_in (by omega) (by decide), fun q => ?_, fun q => ?_⟩⟩⟩
    · rw [h9] at q; exact absurd q (nI_ge (by omega) (by omega))
    · rw [a2] at q; exact absurd q (nI_ge (b := 3) (by omega) (by decide))
    · rw [nI_clamp (by omega), a3] at q
      rw [nI_1]; exact q1 (fun e => q (lg_eq.mpr e))
    · rw [nI_clamp (by omega), a3] at q
      exact q2 (lg_eq.mp q)
  refine ⟨fun hd hp => ?_, fun j0 hj0 he hp => ?_⟩
  · have loop : ∀ d j, j + d = n → w_X7_keyedBy_2 post G (d + 1) S R A (nI j) := by
      intro d
      induction d with
      | zero =>
        intro j hj
        have : j = n := by omega
        subst this
        exact ⟨h1, fun _ => hp, fun q => absurd (by rw [h9]; exact nI_le (Nat.le_refl _) (by omega)) q⟩
      | succ d ih => intro j hj; exact step (d + 1) j (by omega) (fun _ => ih (j + 1) (by omega)) (fun e => absurd e (hd j (by omega)))
    exact ⟨_, loop n 0 (by omega)⟩
  · have loop : ∀ d j, j + d = n → j ≤ j0 → w_X7_keyedBy_2 post G (d + 1) S R A (nI j) := by
      intro d
      induction d with
      | zero => intro j hj hj2; omega
      | succ d ih =>
        intro j hj hj2
        refine step (d + 1) j (by omega) (fun q => ih (j + 1) (by omega) ?_) (fun _ => hp)
        by_cases e : j = j0
        · rw [e] at q; exact absurd he q
        · omega
    exact ⟨_, loop n 0 (by omega) (by omega)⟩
/-- behind a fault -/
theorem d_73 (h : dM G cx bf z c nr ra nm S0 R fk fp S) {post : cs_S → Prop} {k4 : cs_S → Nat → Option Nat → Int32 → Int32 → Prop} {x3 : Int32} (hp : ∀ S1, dM G cx bf z c nr ra nm S0 R fk fp S1 → k4 S1 (cx 0) (some R) 0 (x3 + 1)) : w_X5_readBy_73 post G k4 S (cx 0) (some R) x3 :=
  ⟨h.k7, d_name h.1 ⟨R, rfl, h.k9, d_addb h (fun S26 h26 => ⟨h26.k7, fun _ => hp S26 h26, fun q => absurd q (h26.k0 (x := 8) (by decide) (by decide))⟩)⟩⟩
end BYS
