/-! ===== the class: a rule as it was told; what holds of an event ===== -/
def whC (x : Nat) (v : Int32) : Prop := (x = 0 ∧ v = 24) ∨ (x = 1 ∧ v = 26) ∨ (x = 2 ∧ v = 27) ∨ (x = 3 ∧ v = 28) ∨ (x = 4 ∧ v = 31)
def ruC (S : cs_S) (σ : rf_S) (r ra b x k n w q : Nat) (dp : Nat → Nat) (tr : (c : Nat) → cT (dp c)) (ud : Nat) (ut : Option (cT ud)) : Prop :=
  cs_k S ra = 9 ∧ cs_i S 800 ra = nI r ∧ whC x (cs_i S 802 ra) ∧ cs_i S 803 ra = σ.2.2.1 39 b ∧ ((x = 1 ∨ x = 2) → ∃ n' l, n' ≤ 8 ∧ wdR n' (cs_l S 804 ra) (σ.2.2.2 36 b) l) ∧ cs_i S 806 ra = nI k ∧
  (∃ ca, cs_r S 805 ra = some ca ∧ cs_k S ca = 24 ∧ cs_n S ca = 5 ∧ ∀ c, c < k → ∃ a, cs_ar S ca c = some a ∧ cR S (dp c) a (tr c) ∧ cLv S σ (dp c) (tr c)) ∧
  ((ut = none ∧ cs_r S 807 ra = none) ∨ ∃ t a, ut = some t ∧ cs_r S 807 ra = some a ∧ cR S ud a t ∧ cLv S σ ud t) ∧ byR S σ ra b n ∧ cs_i S 810 ra = nI w ∧ cs_i S 811 ra = nI q
section RUC
variable {G : Nat → Nat} {S S' : cs_S} {σ σ' : rf_S} {r ra b x k n w q : Nat} {dp : Nat → Nat} {tr : (c : Nat) → cT (dp c)} {ud : Nat} {ut : Option (cT ud)}
theorem ruC.fx {E : Nat → Nat → Nat → Prop} {wt : Nat} (h : ruC S σ r ra b x k n w q dp tr ud ut) (hs : sh S wt E) (hF : fX E S S') (hwk : cs_k S wt = 26) : ruC S' σ r ra b x k n w q dp tr ud ut := by
  obtain ⟨h1, h2, h3, h4, h5, h6, ⟨ca, c1, c2, c3, c4⟩, h8, h9, h10, h11⟩ := h
  obtain ⟨r1, r2, r3, r4⟩ := hs.ru hF hwk h1
  have hca : ca ≠ wt := fun e => by rw [e, hwk] at c2; cases c2
  obtain ⟨a1, a2, -, -, -, -, -, a8⟩ := hs.all hF (a := ca) (by omega) hca
  refine ⟨r1, (r2 800 (by omega)).trans h2, by rw [r2 802 (by omega)]; exact h3, (r2 803 (by omega)).trans h4, fun z => by rw [r3 804 (by omega)]; exact h5 z, (r2 806 (by omega)).trans h6, ⟨ca, (r4 805 (by omega)).trans c1, a1.trans c2, a2.trans c3, fun c hc => ?_⟩, ?_, h9.fx hs hF hwk, (r2 810 (by omega)).trans h10, (r2 811 (by omega)).trans h11⟩
  · obtain ⟨a, z1, z2, z3⟩ := c4 c hc
    exact ⟨a, by rw [a8]; exact z1, hs.cr hF hwk _ _ _ z2, hs.lv hF hwk _ _ z3⟩
  · rw [r4 807 (by omega)]
    rcases h8 with z | ⟨t, a, z1, z2, z3, z4⟩
    · exact Or.inl z
    · exact Or.inr ⟨t, a, z1, z2, hs.cr hF hwk _ _ _ z3, hs.lv hF hwk _ _ z4⟩
theorem ruC.ev (h : ruC S σ r ra b x k n w q dp tr ud ut) (hE : eV σ σ') : ruC S σ' r ra b x k n w q dp tr ud ut := by
  obtain ⟨h1, h2, h3, h4, h5, h6, ⟨ca, c1, c2, c3, c4⟩, h8, h9, h10, h11⟩ := h
  refine ⟨h1, h2, h3, by rw [hE.1 39 (by decide)]; exact h4, fun z => by rw [hE.2]; exact h5 z, h6, ⟨ca, c1, c2, c3, fun c hc => ?_⟩, ?_, ?_, h10, h11⟩
  · obtain ⟨a, z1, z2, z3⟩ := c4 c hc
    exact ⟨a, z1, z2, hE.clv _ _ z3⟩
  · rcases h8 with z | ⟨t, a, z1, z2, z3, z4⟩
    · exact Or.inl z
    · exact Or.inr ⟨t, a, z1, z2, z3, hE.clv _ _ z4⟩
  · unfold byR at h9 ⊢
    rw [hE.2]; exact h9
/-- the bits -/
theorem clb {te q0 e m mc ms : Nat} {x1 : Option Nat} {post : Int32 → cs_S → Prop} (h : ruC S σ r ra b x k n w q dp tr ud ut) (hk5 : k ≤ 5) (hdp : ∀ c, c < k → dp c ≤ 14) (hev : evR S σ te q0 e m) (he : e ≤ 4000) (hte : te ≤ 24000) (hmk : cs_i S 402 q0 = σ.2.2.1 10 e)
    (hp : ∀ H, H < 32 → (∀ c, c < k → (H.testBit c = true ↔ cTr σ e (dp c) (tr c))) → (∀ c, c < 5 → k ≤ c → H.testBit c = false) → w_X7_look_52 post G mc ms S 0 0 ra x1 (some q0) (nI H)) : wp_X7_look post G mc ms S ra x1 (some q0) := by
  obtain ⟨h1, h2, h3, h4, h5, h6, ⟨ca, c1, c2, c3, c4⟩, h8, h9, h10, h11⟩ := h
  have hp2 : ∀ c, c ≤ 5 → 2 ^ c ≤ 32 := fun c hc => Nat.pow_le_pow_right (n := 2) (by decide) hc
  have key : ∀ j c B, c + j = k → B < 2 ^ c → (∀ c', c' < c → (B.testBit c' = true ↔ cTr σ e (dp c') (tr c'))) → w_X7_look_5 post G mc ms (j + 1) S 0 0 ra x1 (some q0) (nI B) (nI c) := by
    intro j
    induction j with
    | zero =>
      intro c B hc hB hbits
      have hB32 : B < 32 := Nat.lt_of_lt_of_le hB (hp2 c (by omega))
      refine ⟨by omega, by omega, h1, fun _ => ?_, fun z => ?_⟩
      · exact hp B hB32 (fun c' hc' => hbits c' (by omega)) (fun c' g1 g2 => bt_k c (by omega) B hB32 hB c' g1 (by omega))
      · rw [h6] at z
        exact absurd (nI_le (a := k) (b := c) (by omega) (by omega)) z
    | succ j ih =>
      intro c B hc hB hbits
      have hB32 : B < 32 := Nat.lt_of_lt_of_le hB (hp2 c (by omega))
      obtain ⟨a, z1, z2, z3⟩ := c4 c (by omega)
      refine ⟨by omega, by omega, h1, fun z => ?_, fun _ r57 e57 => ⟨ca, e57.trans c1, c2, fun z => ?_, fun _ r60 e60 => ⟨ca, e60.trans c1, c2, by rw [c3]; exact nI_in (by omega) (by omega), fun r63 e63 => ⟨29, by omega, ?_⟩⟩⟩⟩
      · rw [h6] at z; exact absurd z (nI_ge (by omega) (by omega))
      · rw [c3] at z; exact absurd z (nI_ge (b := 5) (by omega) (by omega))
      · rw [e63, nI_clamp (by omega), z1]
        have hd := hdp c (by omega)
        refine cEv hev he hte hmk (dp c) (tr c) a 0 29 _ z2 z3 (by omega) (by omega) (fun hy => ⟨fun z => absurd z (by decide), fun _ => ⟨by omega, by omega, ?_⟩⟩) (fun hn => ⟨fun _ => ⟨by omega, by omega, ?_⟩, fun z => absurd rfl z⟩)
        · obtain ⟨o1, o2⟩ := bt_or c (by omega) B hB32 hB
          rw [o1, nI_1]
          refine ih (c + 1) _ (by omega) o2 (fun c' hc' => ?_)
          by_cases g : c' = c
          · rw [g]
            exact ⟨fun _ => hy, fun _ => (bt_t c (by omega) B hB32 hB).1⟩
          · rw [bt_s c (by omega) B hB32 hB c' (by omega)]
            exact hbits c' (by omega)
        · rw [nI_1]
          refine ih (c + 1) B (by omega) (Nat.lt_of_lt_of_le hB (Nat.pow_le_pow_right (by decide) (by omega))) (fun c' hc' => ?_)
          by_cases g : c' = c
          · rw [g, (bt_t c (by omega) B hB32 hB).2]
            exact ⟨fun z => (nomatch z), fun z => absurd z hn⟩
          · exact hbits c' (by omega)
  exact ⟨k + 1, key k 0 0 (by omega) (by decide) (fun c' hc' => absurd hc' (by omega))⟩
end RUC
