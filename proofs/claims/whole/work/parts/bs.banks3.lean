/-! ===== the tests of class and reference, in their bank ===== -/
section BN3
variable {S : cs_S} {σ σ' : rf_S} {bk c : Nat}
theorem pvR_bk (hE : eK σ σ' bk c) (hT : RT σ bk c) (hbk : bk ≤ 1) {n pv : Nat} (hn : inB bk c n) (ho : ∃ o, 6 ≤ o ∧ o ≤ 13 ∧ σ.2.2.1 47 n = nI o) (h : pvR S σ pv n) : pvR S σ' pv n := by
  obtain ⟨ty, a, h1, h2, h3, h4⟩ := h
  have e := fun k h1 h2 => hE.1 k n h1 h2 hn
  refine ⟨ty, a, h1, by rw [e 51 (by omega) (by omega)]; exact h2, by rw [e 50 (by omega) (by omega)]; exact h3, fun z => ?_⟩
  rw [e 51 (by omega) (by omega)] at z
  obtain ⟨fr, g1, g2, g3⟩ := h4 z
  obtain ⟨fr', a', r1, r2, r3, r4⟩ := hT n hn ho z
  have ef : fr = fr' := (nI_eq (by omega) (by omega)).mp (g1.symm.trans r1)
  subst ef
  have hcv : cs_i S 1000 pv = 1 ∧ cs_i S 1001 pv = nI a := by
    rcases h1.2.2.2.2.2.2 with q | q
    · exact q
    · exact absurd (h2.trans z) q.1
  have ha := h1.2.2.2.2.1
  have ea : a = a' := (nI_eq (by omega) (by omega)).mp ((hcv.2.symm.trans h3).trans r2)
  subst ea
  refine ⟨fr, (e 48 (by omega) (by omega)).trans g1, g2, fun k hk => ?_⟩
  rw [hE.2.2 (fr + k) (by omega) (by omega)]
  exact g3 k hk
theorem lfR_bk (hE : eK σ σ' bk c) (hT : RT σ bk c) (hbk : bk ≤ 1) {n a : Nat} (hn : inB bk c n) (h : lfR S σ a n) : lfR S σ' a n := by
  obtain ⟨h1, h2, h3⟩ := h
  have e := fun k h1 h2 => hE.1 k n h1 h2 hn
  have e2 := hE.2.1 n hn
  refine ⟨h1, nW_bk hE hn h2, ?_⟩
  rw [e 47 (by omega) (by omega), e 48 (by omega) (by omega), e 49 (by omega) (by omega), e2]
  rcases h3 with h3 | h3 | h3 | ⟨s, o, g1, g2, g3, g4, pv, g5, g6, g7⟩
  · exact Or.inl h3
  · exact Or.inr (Or.inl h3)
  · exact Or.inr (Or.inr (Or.inl h3))
  · exact Or.inr (Or.inr (Or.inr ⟨s, o, g1, g2, g3, g4, pv, g5, pvR_bk hE hT hbk hn ⟨o, by unfold opR at g1; omega, by unfold opR at g1; omega, g3⟩ g6, g7⟩))
theorem cLv_bk (hN : RN σ bk c) (hbk : bk ≤ 1) (hc : c ≤ 1100) (hE : eK σ σ' bk c) (hT : RT σ bk c) : ∀ d n (t : cT d), inB bk c n → rLv σ d t → rR σ d n t → cLv S σ d t → cLv S σ' d t :=
  rR_all (A := fun x => lfR S σ x.1 x.2 → lfR S σ' x.1 x.2) (T := fun d t => cLv S σ d t → cLv S σ' d t) hN hbk hc (fun _ h => h) (fun _ _ h => h) (fun _ _ h => h) (fun _ _ h hl g hg t ht => h g hg t ht (hl g hg t ht)) (fun _ hx _ => lfR_bk hE hT hbk hx)
end BN3
