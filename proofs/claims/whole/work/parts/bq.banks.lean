/-! ===== the two banks of rules of the reference ===== -/
section BNK
variable {σ σ' : rf_S} {bk c : Nat}
theorem lnL_lt {α : Type} {op : Int32} {R : Nat → α → Prop} : ∀ (l : List α) n, (∀ n t, t ∈ l → R n t → n < 2200) → lnL σ op R n l → n < 2200 := by
  intro l n hR h
  cases l with
  | nil => exact h.elim
  | cons t l =>
    cases l with
    | nil => exact hR n t (List.mem_cons_self ..) h
    | cons t2 l => exact h.1
theorem rR_2k : ∀ d n (t : cT d), rR σ d n t → rLv σ d t → n < 2200 := by
  intro d
  induction d with
  | zero =>
    intro n t h hL
    have e : n = t.2 := h
    have hw : nW σ t.2 := hL
    rw [e]; exact hw.1
  | succ d ih =>
    intro n t h hL
    match t, h, hL with
    | .inl x, h, hL =>
      have e : n = x.2 := h
      have hw : nW σ x.2 := hL
      rw [e]; exact hw.1
    | .inr (.inl t), h, hL => exact h.1
    | .inr (.inr ls), h, hL =>
      refine lnL_lt ls.reverse n (fun b g hg hb => lnL_lt g.reverse b (fun a t ht ha => ih a t ha ?_) hb) h
      exact hL g (List.mem_reverse.mp hg) t (List.mem_reverse.mp ht)
theorem lnL_bk {α : Type} {op : Int32} {R R' : Nat → α → Prop} (hop : op = 0 ∨ op = 1) (hN : RN σ bk c) (hbk : bk ≤ 1) (hc : c ≤ 1100) (he : ∀ k n, 47 ≤ k → k ≤ 49 → inB bk c n → σ'.2.2.1 k n = σ.2.2.1 k n) : ∀ (l : List α) n, (∀ n t, t ∈ l → inB bk c n → R n t → R' n t) → (∀ n t, t ∈ l → R n t → n < 2200) → inB bk c n → lnL σ op R n l → lnL σ' op R' n l := by
  intro l
  induction l with
  | nil => intro n _ _ _ h; exact h.elim
  | cons t l ih =>
    intro n hR hlt hn h
    cases l with
    | nil => exact hR n t (List.mem_cons_self ..) hn h
    | cons t2 l =>
      obtain ⟨h1, h2, a, b, h3, h4, h5, h6⟩ := h
      have hb := hlt b t (List.mem_cons_self ..) h5
      have ha := lnL_lt _ a (fun n t ht => hlt n t (List.mem_cons_of_mem _ ht)) h6
      obtain ⟨a', b', g1, g2, g3, g4⟩ := (hN n hn).1 (by rw [h2]; exact hop)
      have ea : a = a' := (nI_eq (by omega) (by have := g3.2; omega)).mp (h3.symm.trans g1)
      have eb : b = b' := (nI_eq (by omega) (by have := g4.2; omega)).mp (h4.symm.trans g2)
      subst ea
      subst eb
      exact ⟨h1, (he 47 n (by omega) (by omega) hn).trans h2, a, b, (he 48 n (by omega) (by omega) hn).trans h3, (he 49 n (by omega) (by omega) hn).trans h4, hR b t (List.mem_cons_self ..) g4 h5, ih a (fun n t ht => hR n t (List.mem_cons_of_mem _ ht)) (fun n t ht => hlt n t (List.mem_cons_of_mem _ ht)) g3 h6⟩
/-- a tree of the bank stays, whatever comes into the other one -/
theorem rR_bk (hN : RN σ bk c) (hbk : bk ≤ 1) (hc : c ≤ 1100) (he : ∀ k n, 47 ≤ k → k ≤ 49 → inB bk c n → σ'.2.2.1 k n = σ.2.2.1 k n) : ∀ d n (t : cT d), inB bk c n → rLv σ d t → rR σ d n t → rR σ' d n t := by
  intro d
  induction d with
  | zero => intro n t _ _ h; exact h
  | succ d ih =>
    intro n t hn hL h
    match t, h, hL with
    | .inl x, h, hL => exact h
    | .inr (.inl t), h, hL =>
      obtain ⟨h1, h2, a, h3, h4⟩ := h
      have ha := rR_2k d a t h4 hL
      obtain ⟨a', g1, g2⟩ := (hN n hn).2 h2
      have ea : a = a' := (nI_eq (by omega) (by have := g2.2; omega)).mp (h3.symm.trans g1)
      subst ea
      exact ⟨h1, (he 47 n (by omega) (by omega) hn).trans h2, a, (he 48 n (by omega) (by omega) hn).trans h3, ih a t g2 hL h4⟩
    | .inr (.inr ls), h, hL =>
      refine lnL_bk (Or.inl rfl) hN hbk hc he ls.reverse n (fun b g hg hb hh => lnL_bk (Or.inr rfl) hN hbk hc he g.reverse b (fun a t ht ha h9 => ih a t ha ?_ h9) (fun a t ht h9 => rR_2k d a t h9 ?_) hb hh) (fun b g hg hh => lnL_lt g.reverse b (fun a t ht h9 => rR_2k d a t h9 ?_) hh) hn h
      · exact hL g (List.mem_reverse.mp hg) t (List.mem_reverse.mp ht)
      · exact hL g (List.mem_reverse.mp hg) t (List.mem_reverse.mp ht)
      · exact hL g (List.mem_reverse.mp hg) t (List.mem_reverse.mp ht)
end BNK
