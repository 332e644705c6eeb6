/-! ===== the reference alone: what holds of an event, as bits ===== -/
theorem bt_c : ∀ B, B < 64 → ∀ c, c < 6 → (((nI B >>> (nI c &&& 31)) &&& 1 = 0 ↔ B.testBit c = false) ∧ ((nI B >>> (nI c &&& 31)) &&& 1 = 1 ↔ B.testBit c = true)) := by decide +kernel
theorem bt_or : ∀ c, c < 5 → ∀ B, B < 32 → B < 2 ^ c → (nI B ||| (1 <<< (nI c &&& 31)) = nI (B + 2 ^ c) ∧ B + 2 ^ c < 2 ^ (c + 1)) := by decide +kernel
theorem bt_a : ∀ B, B < 64 → (nI B ||| 0 = nI B ∧ (nI B &&& 1 = 1 ↔ B.testBit 0 = true) ∧ (nI B &&& 1 ≤ 0 ↔ B.testBit 0 = false) ∧ (nI B &&& 2 ≤ 0 ↔ B.testBit 1 = false) ∧ (nI B &&& 32 ≤ 0 ↔ B.testBit 5 = false) ∧ (B < 32 → nI B ||| 32 = nI (B + 32) ∧ B.testBit 5 = false ∧ (B + 32).testBit 5 = true)) := by decide +kernel
theorem bt_t : ∀ c, c < 5 → ∀ B, B < 32 → B < 2 ^ c → ((B + 2 ^ c).testBit c = true ∧ B.testBit c = false) := by decide +kernel
theorem bt_s : ∀ c, c < 5 → ∀ B, B < 32 → B < 2 ^ c → ∀ c', c' < c → (B + 2 ^ c).testBit c' = B.testBit c' := by decide +kernel
theorem bt_5 : ∀ B, B < 32 → ∀ c, c < 5 → (B + 32).testBit c = B.testBit c := by decide +kernel
theorem bt_k : ∀ k, k < 6 → ∀ B, B < 32 → B < 2 ^ k → ∀ c, c < 5 → k ≤ c → B.testBit c = false := by decide +kernel
section BIT
variable {te e m r b k : Nat}
/-- the conditions of a rule, as trees -/
def cdW (σ : rf_S) (b k : Nat) (dp : Nat → Nat) (tr : (c : Nat) → cT (dp c)) : Prop := σ.2.2.1 40 b = nI k ∧ 1 ≤ k ∧ k ≤ 5 ∧ ∀ c, c < k → dp c ≤ 14 ∧ ∃ n, σ.2.2.1 41 (6 * b + c) = nI n ∧ rR σ (dp c) n (tr c) ∧ rLv σ (dp c) (tr c)
/-- what follows unless: a tree or nothing -/
def unW (σ : rf_S) (b : Nat) (ud : Nat) (ut : Option (cT ud)) : Prop := (ut = none ∧ σ.2.2.1 42 b = -1) ∨ ∃ t n, ut = some t ∧ ud ≤ 14 ∧ σ.2.2.1 42 b = nI n ∧ n < 2 ^ 31 ∧ rR σ ud n t ∧ rLv σ ud t
def unT (σ : rf_S) (e ud : Nat) : Option (cT ud) → Prop
  | some t => cTr σ e ud t
  | none => False
theorem rld {σ0 : rf_S} {dp : Nat → Nat} {tr : (c : Nat) → cT (dp c)} {ud : Nat} {ut : Option (cT ud)} (hte : te ≤ 24000) (hE : eW σ0 te e m) (hb : b < 24) (hC : cdW σ0 b k dp tr) (hU : unW σ0 b ud ut) :
    ∃ σ' B, l62 σ0 σ' ∧ B < 64 ∧ (∀ c, c < k → (B.testBit c = true ↔ cTr σ0 e (dp c) (tr c))) ∧ (∀ c, c < 5 → k ≤ c → B.testBit c = false) ∧ (B.testBit 5 = true ↔ unT σ0 e ud ut) ∧ ∀ (Q : rf_S → Prop) (k2 : rf_S → Int32 → Int32 → Prop) (x3 x5 : Int32), w_X12_looked_147 Q k2 σ' (nI e) x3 (nI b) x5 (nI B) → ∃ n9, w_X12_looked_63 Q k2 n9 σ0 (nI e) x3 (nI b) x5 0 0 := by
  obtain ⟨h40, hk1, hk5, hcs⟩ := id hC
  have i40 : vp_in (nI b) (rf_n 40) := nI_in (N := 24) hb (by decide)
  have i42 : vp_in (nI b) (rf_n 42) := nI_in (N := 24) hb (by decide)
  have hp2 : ∀ c, c ≤ 5 → 2 ^ c ≤ 32 := fun c hc => Nat.pow_le_pow_right (n := 2) (by decide) hc
  -- a call of holds
  have call : ∀ (d : Nat) (t : cT d) (n : Nat) (σ : rf_S), l62 σ0 σ → d ≤ 14 → rR σ0 d n t → rLv σ0 d t → ∃ (v : Int32) (σ' : rf_S), l62 σ0 σ' ∧ ((v = 1 ∧ cTr σ0 e d t) ∨ (v = 0 ∧ ¬ cTr σ0 e d t)) ∧ ∀ Q : Int32 → rf_S → Prop, Q v σ' → ∃ d9, d9 ≤ 60 ∧ wp_X12_holds d9 Q σ (nI n) (nI e) := by
    intro d t n σ hl hd hR hLv
    obtain ⟨v, σ', g1, g2, f, g3⟩ := (rEv (m := m) hte d t n (3 * d + 1) σ (hl.ew hE) (hl.rr d n t hR) (hl.lv d t hLv) (Nat.le_refl _)).1
    refine ⟨v, σ', hl.trans g1, ?_, fun Q hQ => ⟨3 * d + 1 + 1, by omega, f, g3 Q hQ⟩⟩
    rcases g2 with ⟨e1, e2⟩ | ⟨e1, e2⟩
    · exact Or.inl ⟨e1, (hl.tr d t).mp e2⟩
    · exact Or.inr ⟨e1, fun z => e2 ((hl.tr d t).mpr z)⟩
  have key : ∀ q c (σ : rf_S) (B : Nat), c + q = k → l62 σ0 σ → B < 2 ^ c → (∀ c', c' < c → (B.testBit c' = true ↔ cTr σ0 e (dp c') (tr c'))) → ∃ σ' B', l62 σ0 σ' ∧ B' < 64 ∧ (∀ c, c < k → (B'.testBit c = true ↔ cTr σ0 e (dp c) (tr c))) ∧ (∀ c, c < 5 → k ≤ c → B'.testBit c = false) ∧ (B'.testBit 5 = true ↔ unT σ0 e ud ut) ∧ ∀ (Q : rf_S → Prop) (k2 : rf_S → Int32 → Int32 → Prop) (x3 x5 : Int32), w_X12_looked_147 Q k2 σ' (nI e) x3 (nI b) x5 (nI B') → w_X12_looked_63 Q k2 (q + 1) σ (nI e) x3 (nI b) x5 (nI B) (nI c) := by
    intro q
    induction q with
    | zero =>
      intro c σ B hc hl hB hbits
      have hck : c = k := by omega
      have hB32 : B < 32 := Nat.lt_of_lt_of_le hB (hp2 c (by omega))
      have e40 : σ.2.2.1 40 b = nI k := by rw [hl.2.2.1 40 (by decide)]; exact h40
      have hhi : ∀ c', c' < 5 → k ≤ c' → B.testBit c' = false := fun c' h1 h2 => bt_k c (by omega) B hB32 hB c' h1 (by omega)
      have hend : ∀ (Q : rf_S → Prop) (k2 : rf_S → Int32 → Int32 → Prop) (x3 x5 : Int32), ((σ.2.2.1 42 b < 0 → w_X12_looked_147 Q k2 σ (nI e) x3 (nI b) x5 (nI B)) ∧ (¬ σ.2.2.1 42 b < 0 → ∃ d9, d9 ≤ 60 ∧ wp_X12_holds d9 (fun r12 σ12 => (r12 = 0 → w_X12_looked_147 Q k2 σ12 (nI e) x3 (nI b) x5 (nI B)) ∧ (¬ r12 = 0 → w_X12_looked_147 Q k2 σ12 (nI e) x3 (nI b) x5 (nI B ||| 32))) σ (σ.2.2.1 42 b) (nI e))) → w_X12_looked_63 Q k2 1 σ (nI e) x3 (nI b) x5 (nI B) (nI c) := by
        intro Q k2 x3 x5 h
        refine ⟨i40, fun _ => ⟨i42, ?_⟩, fun hq => ?_⟩
        · rw [nI_clamp (by omega)]
          exact ⟨h.1, fun z => ⟨i42, h.2 z⟩⟩
        · rw [nI_clamp (by omega), e40] at hq
          exact absurd (nI_le (by omega) (by omega)) hq
      have e42 : σ.2.2.1 42 b = σ0.2.2.1 42 b := by rw [hl.2.2.1 42 (by decide)]
      rcases hU with ⟨u1, u2⟩ | ⟨t, n, u1, u2, u3, u4, u5, u6⟩
      · refine ⟨σ, B, hl, by omega, fun c' hc' => hbits c' (by omega), hhi, ?_, fun Q k2 x3 x5 hQ => hend Q k2 x3 x5 ⟨fun _ => hQ, fun z => ?_⟩⟩
        · rw [((bt_a B (by omega)).2.2.2.2.2 hB32).2.1, u1]
          exact ⟨fun z => absurd z (by decide), fun z => absurd z (fun y => y)⟩
        · rw [e42, u2] at z; exact absurd (by decide) z
      · obtain ⟨v, σ', g1, g2, g3⟩ := call ud t n σ hl u2 u5 u6
        rcases g2 with ⟨v1, v2⟩ | ⟨v1, v2⟩
        · refine ⟨σ', B + 32, g1, by omega, fun c' hc' => by rw [bt_5 B hB32 c' (by omega)]; exact hbits c' (by omega), fun c' h1 h2 => by rw [bt_5 B hB32 c' h1]; exact hhi c' h1 h2, ?_, fun Q k2 x3 x5 hQ => hend Q k2 x3 x5 ⟨fun z => ?_, fun _ => ?_⟩⟩
          · rw [((bt_a B (by omega)).2.2.2.2.2 hB32).2.2, u1]
            exact ⟨fun _ => v2, fun _ => rfl⟩
          · rw [e42, u3] at z; exact absurd z (nI_pos u4)
          · rw [e42, u3]
            refine g3 _ ?_
            rw [v1]
            refine ⟨fun z => absurd z (by decide), fun _ => ?_⟩
            rw [((bt_a B (by omega)).2.2.2.2.2 hB32).1]; exact hQ
        · refine ⟨σ', B, g1, by omega, fun c' hc' => hbits c' (by omega), hhi, ?_, fun Q k2 x3 x5 hQ => hend Q k2 x3 x5 ⟨fun z => ?_, fun _ => ?_⟩⟩
          · rw [((bt_a B (by omega)).2.2.2.2.2 hB32).2.1, u1]
            exact ⟨fun z => absurd z (by decide), fun z => absurd z v2⟩
          · rw [e42, u3] at z; exact absurd z (nI_pos u4)
          · rw [e42, u3]
            refine g3 _ ?_
            rw [v1]
            exact ⟨fun _ => hQ, fun z => absurd rfl z⟩
    | succ q ih =>
      intro c σ B hc hl hB hbits
      obtain ⟨hd, n, en, hR, hLv⟩ := hcs c (by omega)
      have hB32 : B < 32 := Nat.lt_of_lt_of_le hB (hp2 c (by omega))
      have e40 : σ.2.2.1 40 b = nI k := by rw [hl.2.2.1 40 (by decide)]; exact h40
      obtain ⟨v, σ1, g1, g2, g3⟩ := call (dp c) (tr c) n σ hl hd hR hLv
      have hen : σ.2.2.1 41 (6 * b + c) = nI n := by rw [hl.2.2.1 41 (by decide)]; exact en
      have hstep : ∀ (Q : rf_S → Prop) (k2 : rf_S → Int32 → Int32 → Prop) (x3 x5 : Int32), (∃ d9, d9 ≤ 60 ∧ wp_X12_holds d9 (fun r13 σ13 => (r13 = 0 → w_X12_looked_63 Q k2 (q + 1) σ13 (nI e) x3 (nI b) x5 (nI B ||| 0) (nI (c + 1))) ∧ (¬ r13 = 0 → w_X12_looked_63 Q k2 (q + 1) σ13 (nI e) x3 (nI b) x5 (nI B ||| (1 <<< (nI c &&& 31))) (nI (c + 1)))) σ (nI n) (nI e)) → w_X12_looked_63 Q k2 (q + 1 + 1) σ (nI e) x3 (nI b) x5 (nI B) (nI c) := by
        intro Q k2 x3 x5 h
        refine ⟨i40, fun hq => ?_, fun _ => ?_⟩
        · rw [nI_clamp (by omega), e40] at hq
          exact absurd hq (nI_ge (by omega) (by omega))
        · rw [n6, nI_clamp (by omega), hen]
          refine ⟨nI_in (N := 144) (by omega) (by decide), ?_⟩
          rw [← nI_1] at h
          exact h
      rcases g2 with ⟨v1, v2⟩ | ⟨v1, v2⟩
      · obtain ⟨o1, o2⟩ := bt_or c (by omega) B hB32 hB
        obtain ⟨σ', B', k1, k2', k3, k4, k5, k6⟩ := ih (c + 1) σ1 (B + 2 ^ c) (by omega) g1 o2 (fun c' hc' => by
          by_cases ec : c' = c
          · rw [ec, (bt_t c (by omega) B hB32 hB).1]; exact ⟨fun _ => v2, fun _ => rfl⟩
          · rw [bt_s c (by omega) B hB32 hB c' (by omega)]; exact hbits c' (by omega))
        refine ⟨σ', B', k1, k2', k3, k4, k5, fun Q k2 x3 x5 hQ => hstep Q k2 x3 x5 (g3 _ ?_)⟩
        rw [v1]
        refine ⟨fun z => absurd z (by decide), fun _ => ?_⟩
        rw [o1]
        exact k6 Q k2 x3 x5 hQ
      · have hpc : B < 2 ^ (c + 1) := Nat.lt_of_lt_of_le hB (Nat.pow_le_pow_right (by decide) (by omega))
        obtain ⟨σ', B', k1, k2', k3, k4, k5, k6⟩ := ih (c + 1) σ1 B (by omega) g1 hpc (fun c' hc' => by
          by_cases ec : c' = c
          · rw [ec, (bt_t c (by omega) B hB32 hB).2]; exact ⟨fun z => absurd z (by decide), fun z => absurd z v2⟩
          · exact hbits c' (by omega))
        refine ⟨σ', B', k1, k2', k3, k4, k5, fun Q k2 x3 x5 hQ => hstep Q k2 x3 x5 (g3 _ ?_)⟩
        rw [v1]
        refine ⟨fun _ => ?_, fun z => absurd rfl z⟩
        rw [(bt_a B (by omega)).1]
        exact k6 Q k2 x3 x5 hQ
  obtain ⟨σ', B', k1, k2', k3, k4, k5, k6⟩ := key k 0 σ0 0 (by omega) l62.rfl (by decide) (fun c' hc' => absurd hc' (by omega))
  exact ⟨σ', B', k1, k2', k3, k4, k5, fun Q k2 x3 x5 hQ => ⟨k + 1, k6 Q k2 x3 x5 hQ⟩⟩
end BIT
