/-! ===== a rule of the class, in its bank ===== -/
section BN5
variable {S : cs_S} {σ σ' : rf_S} {bk c nr : Nat} {x k n w q L : Nat → Nat} {dp : Nat → Nat → Nat} {tr : (r c : Nat) → cT (dp r c)} {ud : Nat → Nat} {ut : (r : Nat) → Option (cT (ud r))}
theorem ruC_bk {r ra : Nat} (h0 : RS0 σ bk nr x k n w q L dp tr ud ut) (hK : RK σ bk nr k c) (hE : eJ σ σ' bk c) (hr : r < nr) (h : ruC S σ r ra (12 * bk + r) (x r) (k r) (n r) (w r) (q r) (dp r) (tr r) (ud r) (ut r)) : ruC S σ' r ra (12 * bk + r) (x r) (k r) (n r) (w r) (q r) (dp r) (tr r) (ud r) (ut r) := by
  obtain ⟨s1, s2, s3, s4, s5⟩ := h0
  obtain ⟨k1, k2, k3, k4⟩ := hK
  obtain ⟨e1, e2, e3, e4, e5⟩ := hE
  obtain ⟨⟨g1, g2, g3, g4, g5, g6, g7, g8, g9, ⟨c1, c2, c3, c4⟩, g11, -⟩, -⟩ := s5 r hr
  obtain ⟨h1, h2, h3, h4, h5, h6, ⟨ca, a1, a2, a3, a4⟩, h8, h9, h10, h11⟩ := h
  have i : ∀ kk, 36 ≤ kk → kk ≤ 45 → kk ≠ 41 → σ'.2.2.1 kk (12 * bk + r) = σ.2.2.1 kk (12 * bk + r) := fun kk h1 h2 h3 => e2 kk _ h1 h2 h3 (by omega) (by omega)
  have hby : byR S σ' ra (12 * bk + r) (n r) := by
    obtain ⟨y1, y2, y3, by0, y4, y5, y6, y7⟩ := h9
    exact ⟨y1, y2, y3, by0, y4, y5, y6, fun kk hk => by rw [e5 _ (by omega) (by omega)]; exact y7 kk hk⟩
  refine ⟨h1, h2, h3, h4.trans (i 39 (by omega) (by omega) (by omega)).symm, fun z => ?_, h6, ⟨ca, a1, a2, a3, fun j hj => ?_⟩, ?_, hby, h10, h11⟩
  · rw [e4 36 _ (Or.inr rfl) (by omega) (by omega)]; exact h5 z
  · obtain ⟨a, b1, b2, b3⟩ := a4 j hj
    obtain ⟨-, m, m2, m3, m4⟩ := c4 j hj
    exact ⟨a, b1, b2, cLv_bk k2 s2 k1 e1 k3 _ m _ ((k4 r hr).1 j m hj (rR_2k _ m _ m3 m4) m2) m4 m3 b3⟩
  · rcases h8 with z | ⟨t, a, z1, z2, z3, z4⟩
    · exact Or.inl z
    · refine Or.inr ⟨t, a, z1, z2, z3, ?_⟩
      rcases g11 with ⟨q1, q2⟩ | ⟨t', m, q1, q2, q3, q4, q5, q6⟩
      · rw [z1] at q1; cases q1
      · have et : t' = t := Option.some.inj (q1.symm.trans z1)
        subst et
        exact cLv_bk k2 s2 k1 e1 k3 _ m _ ((k4 r hr).2 m (rR_2k _ m _ q5 q6) q3) q6 q5 z4
end BN5
