/-! ===== take and pass, between two turns ===== -/
section TPJ
variable {G : Nat → Nat} {xo ob tp sc kd pl am rv rc pk wt z y te : Nat} {S : cs_S} {σ : rf_S} {Bc Bs : Int}
theorem jY_take (h : jY G xo ob tp sc kd pl am rv rc pk wt z y te Bc Bs S σ) (hte : te + z ≤ 20000) : ∃ (m n te' : Nat) (Bc' Bs' : Int), (m : Int) + Bc' ≤ Bc + ((58 * z + 19 : Nat) : Int) ∧ (n : Int) + Bs' ≤ Bs + ((600 * z + 247 : Nat) : Int) ∧ te' ≤ te + z ∧ (0 ≤ Bc' ∧ 0 ≤ Bs') ∧ ∀ (Cm Sm : Nat) (xs : Nat → Int32) (i : Nat) (K : cs_S → rf_S → Nat → Nat → Prop) (u v : Nat), u + m ≤ Cm → v + n ≤ Sm → (∀ S1 σ1, jY G xo ob tp sc kd pl am rv rc pk wt 0 y te' Bc' Bs' S1 σ1 → K S1 σ1 (u + m) (v + n)) → lw_take Cm Sm xs G xo ob i K S σ u v := by
  obtain ⟨hC, ht, hp, ho, ⟨b, hb⟩, hL⟩ := h
  obtain ⟨m, n, te', Bc', Bs', h1, h2, h3, h5, h4⟩ := take_call hC ht hp ho hL hte
  exact ⟨m, n, te', Bc', Bs', h1, h2, h3, h5, fun Cm Sm xs i K u v hu hv kk => h4 Cm Sm xs i K u v hu hv (fun S1 σ1 g1 g2 g3 g4 g5 g6 => kk S1 σ1 ⟨g1, g2, g3, g4, ⟨b, g5.trans hb⟩, g6⟩)⟩
theorem jY_pass (h : jY G xo ob tp sc kd pl am rv rc pk wt z y te Bc Bs S σ) (p1 : Int32) : ∃ (m n : Nat) (Bc' Bs' : Int), (m : Int) + Bc' ≤ Bc ∧ (n : Int) + Bs' ≤ Bs ∧ (0 ≤ Bc' ∧ 0 ≤ Bs') ∧ ∀ (Cm Sm : Nat) (xs : Nat → Int32) (i : Nat) (K : cs_S → rf_S → Nat → Nat → Prop) (u v : Nat), xs (i + 1) = p1 → u + m ≤ Cm → v + n ≤ Sm → (∀ S1 σ1, jY G xo ob tp sc kd pl am rv rc pk wt z y te Bc' Bs' S1 σ1 → K S1 σ1 (u + m) (v + n)) → lw_pass Cm Sm xs G xo ob i K S σ u v := by
  obtain ⟨hC, ht, hp, ho, ⟨b, hb⟩, hL⟩ := h
  obtain ⟨m, n, Bc', Bs', h1, h2, h5, h4⟩ := pass_call hC ht hp ho hL p1
  exact ⟨m, n, Bc', Bs', h1, h2, h5, fun Cm Sm xs i K u v e hu hv kk => h4 Cm Sm xs i K u v e hu hv (fun S1 σ1 g1 g2 g3 g4 g5 g6 => kk S1 σ1 ⟨g1, g2, g3, g4, ⟨b, g5.trans hb⟩, g6⟩)⟩
end TPJ
