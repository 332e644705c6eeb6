/-! ===== the tests of the trees, in their bank ===== -/
/-- the reference's rows of one bank are as they were -/
def eK (σ σ' : rf_S) (bk c : Nat) : Prop := (∀ k n, 47 ≤ k → k ≤ 52 → inB bk c n → σ'.2.2.1 k n = σ.2.2.1 k n) ∧ (∀ n, inB bk c n → σ'.2.2.2 52 n = σ.2.2.2 52 n) ∧ ∀ j, 2120 * bk ≤ j → j < 2120 * (bk + 1) → σ'.2.2.1 46 j = σ.2.2.1 46 j
section BN2
variable {S : cs_S} {σ σ' : rf_S} {bk c : Nat}
theorem nW_bk (hE : eK σ σ' bk c) {n : Nat} (hn : inB bk c n) (h : nW σ n) : nW σ' n := by
  obtain ⟨h1, ⟨o, h2, h3, h4⟩, h5, h6⟩ := h
  have e := fun k h1 h2 => hE.1 k n h1 h2 hn
  refine ⟨h1, ⟨o, h2, h3, (e 47 (by omega) (by omega)).trans h4⟩, fun y3 y4 y5 z => ?_, fun z => ?_⟩
  · rw [e 51 (by omega) (by omega)] at z
    rw [e 47 (by omega) (by omega)] at y3 y4 y5
    rw [e 48 (by omega) (by omega), e 50 (by omega) (by omega)]
    exact h5 y3 y4 y5 z
  · rw [e 47 (by omega) (by omega)] at z
    rw [e 51 (by omega) (by omega)]
    exact h6 z
theorem lnL_mem {α : Type} {op : Int32} {R : Nat → α → Prop} (hop : op = 0 ∨ op = 1) (hN : RN σ bk c) (hbk : bk ≤ 1) (hc : c ≤ 1100) : ∀ (l : List α) n, (∀ n t, t ∈ l → R n t → n < 2200) → inB bk c n → lnL σ op R n l → ∀ t, t ∈ l → ∃ b, inB bk c b ∧ R b t := by
  intro l
  induction l with
  | nil => intro n _ _ h; exact h.elim
  | cons t l ih =>
    intro n hlt hn h
    cases l with
    | nil =>
      intro t' ht'
      rcases List.mem_cons.mp ht' with z | z
      · rw [z]; exact ⟨n, hn, h⟩
      · cases z
    | cons t2 l =>
      obtain ⟨h1, h2, a, b, h3, h4, h5, h6⟩ := h
      have hb := hlt b t (List.mem_cons_self ..) h5
      have ha := lnL_lt _ a (fun n t ht => hlt n t (List.mem_cons_of_mem _ ht)) h6
      obtain ⟨a', b', g1, g2, g3, g4⟩ := (hN n hn).1 (by rw [h2]; exact hop)
      have ea : a = a' := (nI_eq (by omega) (by have := g3.2; omega)).mp (h3.symm.trans g1)
      have eb : b = b' := (nI_eq (by omega) (by have := g4.2; omega)).mp (h4.symm.trans g2)
      subst ea
      subst eb
      intro t' ht'
      rcases List.mem_cons.mp ht' with z | z
      · rw [z]; exact ⟨b, g4, h5⟩
      · exact ih a (fun n t ht => hlt n t (List.mem_cons_of_mem _ ht)) g3 h6 t' z
/-- what holds of the tests in the bank holds of all tests of a tree in it -/
theorem rR_all {A : Nat × Nat → Prop} {T : (d : Nat) → cT d → Prop} (hN : RN σ bk c) (hbk : bk ≤ 1) (hc : c ≤ 1100) (t0 : ∀ x : Nat × Nat, A x → T 0 x) (t1 : ∀ d (x : Nat × Nat), A x → T (d + 1) (.inl x)) (t2 : ∀ d (t : cT d), T d t → T (d + 1) (.inr (.inl t))) (t3 : ∀ d (ls : List (List (cT d))), (∀ g, g ∈ ls → ∀ t, t ∈ g → T d t) → T (d + 1) (.inr (.inr ls))) (hA : ∀ x : Nat × Nat, inB bk c x.2 → nW σ x.2 → A x) : ∀ d n (t : cT d), inB bk c n → rLv σ d t → rR σ d n t → T d t := by
  intro d
  induction d with
  | zero =>
    intro n t hn hL h
    have e : n = t.2 := h
    have hw : nW σ t.2 := hL
    exact t0 t (hA t (by rw [← e]; exact hn) hw)
  | succ d ih =>
    intro n t hn hL h
    match t, h, hL with
    | .inl x, h, hL =>
      have e : n = x.2 := h
      have hw : nW σ x.2 := hL
      exact t1 d x (hA x (by rw [← e]; exact hn) hw)
    | .inr (.inl t), h, hL =>
      obtain ⟨h1, h2, a, h3, h4⟩ := h
      have ha := rR_2k d a t h4 hL
      obtain ⟨a', g1, g2⟩ := (hN n hn).2 h2
      have ea : a = a' := (nI_eq (by omega) (by have := g2.2; omega)).mp (h3.symm.trans g1)
      subst ea
      exact t2 d t (ih a t g2 hL h4)
    | .inr (.inr ls), h, hL =>
      refine t3 d ls (fun g hg t ht => ?_)
      have hl : ∀ g, g ∈ ls → ∀ t, t ∈ g → rLv σ d t := hL
      obtain ⟨b, b1, b2⟩ := lnL_mem (Or.inl rfl) hN hbk hc ls.reverse n (fun b g hg hh => lnL_lt g.reverse b (fun a t ht h9 => rR_2k d a t h9 (hl g (List.mem_reverse.mp hg) t (List.mem_reverse.mp ht))) hh) hn h g (List.mem_reverse.mpr hg)
      obtain ⟨a, a1, a2⟩ := lnL_mem (Or.inr rfl) hN hbk hc g.reverse b (fun a t ht h9 => rR_2k d a t h9 (hl g hg t (List.mem_reverse.mp ht))) b1 b2 t (List.mem_reverse.mpr ht)
      exact ih a t a1 (hl g hg t ht) a2
theorem rLv_bk (hN : RN σ bk c) (hbk : bk ≤ 1) (hc : c ≤ 1100) (hE : eK σ σ' bk c) : ∀ d n (t : cT d), inB bk c n → rLv σ d t → rR σ d n t → rLv σ' d t :=
  rR_all (A := fun x => nW σ' x.2) (T := fun d t => rLv σ' d t) hN hbk hc (fun _ h => h) (fun _ _ h => h) (fun _ _ h => h) (fun _ _ h => h) (fun _ hx hw => nW_bk hE hx hw)
end BN2
