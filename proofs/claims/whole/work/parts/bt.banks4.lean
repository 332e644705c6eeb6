/-! ===== the rules at work, in their bank ===== -/
/-- all that the bank holds is as it was -/
def eJ (σ σ' : rf_S) (bk c : Nat) : Prop := eK σ σ' bk c ∧ (∀ k b, 36 ≤ k → k ≤ 45 → k ≠ 41 → 12 * bk ≤ b → b < 12 * bk + 12 → σ'.2.2.1 k b = σ.2.2.1 k b) ∧ (∀ j, 72 * bk ≤ j → j < 72 * bk + 72 → σ'.2.2.1 41 j = σ.2.2.1 41 j) ∧ (∀ k b, k = 35 ∨ k = 36 → 12 * bk ≤ b → b < 12 * bk + 12 → σ'.2.2.2 k b = σ.2.2.2 k b) ∧ ∀ j, 36 * bk ≤ j → j < 36 * bk + 36 → σ'.2.2.2 37 j = σ.2.2.2 37 j
section BN4
variable {S : cs_S} {σ σ' : rf_S} {bk c nr : Nat} {x k n w q L : Nat → Nat} {dp : Nat → Nat → Nat} {tr : (r c : Nat) → cT (dp r c)} {ud : Nat → Nat} {ut : (r : Nat) → Option (cT (ud r))}
theorem RS0_bk (h : RS0 σ bk nr x k n w q L dp tr ud ut) (hK : RK σ bk nr k c) (hE : eJ σ σ' bk c) (h32 : σ'.1 32 = σ.1 32) (h33 : σ'.1 33 = σ.1 33) : RS0 σ' bk nr x k n w q L dp tr ud ut := by
  obtain ⟨s1, s2, s3, s4, s5⟩ := h
  obtain ⟨k1, k2, k3, k4⟩ := hK
  obtain ⟨e1, e2, e3, e4, e5⟩ := hE
  refine ⟨h32.trans s1, s2, h33.trans s3, s4, fun r hr => ?_⟩
  obtain ⟨⟨g1, g2, g3, g4, g5, g6, g7, g8, g9, ⟨c1, c2, c3, c4⟩, g11, g12, g13, g14, g15⟩, gL⟩ := s5 r hr
  have i : ∀ kk, 36 ≤ kk → kk ≤ 45 → kk ≠ 41 → σ'.2.2.1 kk (12 * bk + r) = σ.2.2.1 kk (12 * bk + r) := fun kk h1 h2 h3 => e2 kk _ h1 h2 h3 (by omega) (by omega)
  refine ⟨⟨(i 38 (by omega) (by omega) (by omega)).trans g1, g2, (i 43 (by omega) (by omega) (by omega)).trans g3, g4, (i 44 (by omega) (by omega) (by omega)).trans g5, g6, g7, (i 45 (by omega) (by omega) (by omega)).trans g8, g9, ⟨(i 40 (by omega) (by omega) (by omega)).trans c1, c2, c3, fun j hj => ?_⟩, ?_, g12, g13, g14, fun z => ?_⟩, fun z => ?_⟩
  · obtain ⟨a1, m, a2, a3, a4⟩ := c4 j hj
    have hm := rR_2k _ m _ a3 a4
    have hin := (k4 r hr).1 j m hj hm a2
    exact ⟨a1, m, (e3 _ (by omega) (by omega)).trans a2, rR_bk k2 s2 k1 (fun kk n h1 h2 h3 => e1.1 kk n h1 (by omega) h3) _ m _ hin a4 a3, rLv_bk k2 s2 k1 e1 _ m _ hin a4 a3⟩
  · rcases g11 with ⟨a1, a2⟩ | ⟨t, m, a1, a2, a3, a4, a5, a6⟩
    · exact Or.inl ⟨a1, (i 42 (by omega) (by omega) (by omega)).trans a2⟩
    · have hm := rR_2k _ m _ a5 a6
      have hin := (k4 r hr).2 m hm a3
      exact Or.inr ⟨t, m, a1, a2, (i 42 (by omega) (by omega) (by omega)).trans a3, a4, rR_bk k2 s2 k1 (fun kk n h1 h2 h3 => e1.1 kk n h1 (by omega) h3) _ m _ hin a6 a5, rLv_bk k2 s2 k1 e1 _ m _ hin a6 a5⟩
  · obtain ⟨L', a1, a2, a3⟩ := g15 z
    exact ⟨L', a1, a2, (i 39 (by omega) (by omega) (by omega)).trans a3⟩
  · obtain ⟨a1, a2, a3⟩ := gL z
    exact ⟨a1, a2, (i 39 (by omega) (by omega) (by omega)).trans a3⟩
end BN4
