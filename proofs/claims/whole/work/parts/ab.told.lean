/-! ===== what rules share, where an alert is told ===== -/
theorem chn_snoc {S S' : cs_S} {fi z q : Nat} (hz : cs_r S' fi z = some q) (hq : cs_r S' fi q = none) : ∀ (l : List Nat) x, chn S fi (l ++ [z]) x → (∀ a, a ∈ l → cs_r S' fi a = cs_r S fi a) → chn S' fi (l ++ [z] ++ [q]) x := by
  intro l
  induction l with
  | nil =>
    intro x h _
    obtain ⟨h1, -⟩ := h
    exact ⟨h1, by rw [hz]; exact ⟨rfl, hq⟩⟩
  | cons a l ih =>
    intro x h hh
    obtain ⟨h1, h2⟩ := h
    refine ⟨h1, ?_⟩
    rw [hh a (by simp)]
    exact ih _ h2 (fun b hb => hh b (by simp [hb]))
section SHD
variable {G : Nat → Nat} {S S2 : cs_S} {σ : rf_S} {wa rr lt tl bk nr te ne na ns ks now ed : Nat} {ra n pr tm ev al : Nat → Nat} {ko : Nat → Nat → Nat} {Ow : Nat → Nat → Prop} {wl : List Nat}
/-- told, and no event is made yet: all but the queue -/
theorem SHR.told0 {wt1 r e f0 kk hh s t : Nat} (h : SHR G S σ wa rr lt tl bk nr ra n te ne na ns ks now pr tm ev ko Ow al ed wl) (hwk : cs_k S wt1 = 26) (hne : ∀ vs, (∀ r, r < nr → ¬ Ow r vs) → vs ≠ wt1) (hra : cs_k S (ra r) = 9) (h800 : cs_i S 800 (ra r) = nI r) (hr : r < nr) (hf : KfO σ r (pr r) f0) (he : e < pr r) (hene : e < ne) (h63 : σ.2.2.1 63 (4000 * r + e) = nI f0) (ha : cs_k S (ko r f0) = 6) (h504 : cs_i S 504 (ko r f0) = nI hh) (htd : tdD G S S2 wa (ra r) (ko r f0) tl ed na al (nI t) (nI s) (ev e)) :
    sh S wt1 (fun s f x => (s = 0 ∧ ((x = ra r ∧ f = 812) ∨ (x = ko r f0 ∧ (f = 503 ∨ f = 504)) ∨ (x = wa ∧ f = 1106))) ∨ x = tl ∨ (s = 5 ∧ x = ed ∧ 0 < na)) ∧
    ∃ al' ed', SHR0 S2 σ wa rr lt tl bk nr ra n te ne na ns ks now pr tm ev ko Ow al wl ∧ cs_i S2 1106 wa = nI (na + 1) ∧ cs_i S2 1107 wa = σ.1 79 ∧ tlW G S2 tl ed' (min (na + 1) 500) al' ∧ chn S2 406 wl (cs_r S2 1110 wa) ∧ (∀ q, wl.getLast? = some q → cs_r S2 1111 wa = some q) ∧ (∀ i, i < min (na + 1) 500 → AL S2 (fnA σ r e t s kk hh na ns) nr ko al' pr i) := by
  obtain ⟨g1, ⟨i1, i2, i3, i4, i5, i6⟩, g11, g12, ⟨g13, g14⟩, g15, g16, g17, g18, g19, g20, g21⟩ := id h
  obtain ⟨hF, t1, t2, t3, t4, t5⟩ := id htd
  have hwa : cs_k S wa = 12 := g1.1
  have ktl : cs_k S tl = 1 := g13.1
  have ked : cs_k S ed = 27 := g13.2.2.1
  have hs : sh S wt1 (fun s f x => (s = 0 ∧ ((x = ra r ∧ f = 812) ∨ (x = ko r f0 ∧ (f = 503 ∨ f = 504)) ∨ (x = wa ∧ f = 1106))) ∨ x = tl ∨ (s = 5 ∧ x = ed ∧ 0 < na)) := fun s f x _ z => by
    refine Or.inr ?_
    rcases z with ⟨-, z⟩ | rfl | ⟨-, rfl, -⟩
    · rcases z with ⟨rfl, rfl⟩ | ⟨rfl, z⟩ | ⟨rfl, rfl⟩
      · exact ⟨by omega, by omega, by omega, by omega, by omega, by omega, fun y => by omega, fun y => by omega, fun y => by omega⟩
      · exact ⟨by omega, by omega, by omega, by omega, by omega, by omega, fun y => by omega, fun y => by omega, fun y => by omega⟩
      · exact ⟨by omega, by omega, by omega, by omega, by omega, by omega, fun y => by omega, fun y => by omega, fun y => by omega⟩
    · exact ⟨by omega, by omega, by omega, by omega, by omega, by omega, fun y => by omega, fun y => by omega, fun y => by omega⟩
    · exact ⟨by omega, by omega, by omega, by omega, by omega, by omega, fun y => by omega, fun y => by omega, fun y => by omega⟩
  refine ⟨hs, ?_⟩
  have h0 : SHR0 S2 σ wa rr lt tl bk nr ra n te ne na ns ks now pr tm ev ko Ow al wl := h.z.fx hs hwk hF (fun s f x z => by
    rcases z with ⟨-, z⟩ | rfl | ⟨-, rfl, -⟩
    · rcases z with ⟨rfl, rfl⟩ | ⟨rfl, z⟩ | ⟨rfl, rfl⟩
      · exact Or.inr (Or.inr (Or.inl hra))
      · exact Or.inr (Or.inl ha)
      · exact Or.inr (Or.inr (Or.inr (Or.inr (Or.inr (Or.inr (Or.inl ⟨rfl, by omega⟩))))))
    · exact Or.inr (Or.inr (Or.inr (Or.inr (Or.inr (Or.inr (Or.inr (Or.inl ktl)))))))
    · exact Or.inr (Or.inr (Or.inr (Or.inr (Or.inr (Or.inr (Or.inr (Or.inr (Or.inl ked))))))))) hne
  have ntl : wa ≠ tl := fun y => by rw [y, ktl] at hwa; cases hwa
  have rwa : ∀ f, cs_r S2 f wa = cs_r S f wa := fun f => (hF wa (by omega)).2.2.2.2.1 f (fun z => by
    rcases z with ⟨z, -⟩ | z | ⟨z, -⟩
    · exact absurd z (by decide)
    · exact ntl z
    · exact absurd z (by decide))
  have e1107 : cs_i S2 1107 wa = σ.1 79 := by
    rw [(hF wa (by omega)).2.2.1 1107 (fun z => ?_)]
    · exact i4
    · rcases z with ⟨-, z⟩ | z | ⟨z, -⟩
      · rcases z with z | z | z
        · exact absurd z.2 (by decide)
        · rcases z.2 with y | y <;> exact absurd y (by decide)
        · exact absurd z.2 (by decide)
      · exact ntl z
      · exact absurd z (by decide)
  have e1106 : cs_i S2 1106 wa = nI (na + 1) := by rw [t4, i3, nI_1]
  have ch : chn S2 406 wl (cs_r S2 1110 wa) := by
    rw [rwa]
    refine chn.fx _ _ g16 (fun x hx => ?_)
    obtain ⟨i, hi, rfl⟩ := List.getElem_of_mem hx
    have hlen : i < (stL σ ks (ns - ks)).length := by rw [← g17]; exact hi
    have k5 := (g18 i wl[i] (stL σ ks (ns - ks))[i] (List.getElem?_eq_getElem hi) (List.getElem?_eq_getElem hlen)).1
    refine (hF _ (by omega)).2.2.2.2.1 406 (fun z => ?_)
    rcases z with ⟨z, -⟩ | z | ⟨z, -⟩
    · exact absurd z (by decide)
    · rw [z, ktl] at k5; cases k5
    · exact absurd z (by decide)
  obtain ⟨a1, a2, a3, a4, a5, a6, a7, a8, a9, a10, a11⟩ := fnA_r (σ := σ) (r := r) (e := e) (t := t) (s := s) (kk := kk) (h := hh) (na := na) (ns := ns)
  have e63 : ∀ j, (fnA σ r e t s kk hh na ns).2.2.1 63 j = σ.2.2.1 63 j := fun j => by rw [a1 63 (by decide) (by decide) (by decide) (by decide)]
  have oldAL : ∀ i, i < na → i < 500 → ∀ al', al' i = al i → AL S2 (fnA σ r e t s kk hh na ns) nr ko al' pr i := fun i hi hi5 al' hal => by
    obtain ⟨-, r', e', f', z1, z2, z3, z4, z5, z6, z7, z8, z9, z10, z11, z12⟩ := h0.2.2.2.2.1 i (by omega)
    have c : i ≠ na := by omega
    rw [← hal] at z7 z8 z9 z10 z11 z12
    exact ⟨r', e', f', z1, by rw [a10 73 i (by omega) (by omega) c]; exact z2, z3, by rw [a10 75 i (by omega) (by omega) c]; exact z4, by rw [e63]; exact z5, ⟨z6.1, by rw [e63]; exact z6.2⟩, z7, by rw [a10 77 i (by omega) (by omega) c]; exact z8, by rw [a10 74 i (by omega) (by omega) c]; exact z9, z10, by rw [a10 76 i (by omega) (by omega) c]; exact z11, z12⟩
  rcases t5 with ⟨z1, z2⟩ | ⟨z1, ed', qa, z2, z3, z4, z5, z6, z7, z8, z9, z10⟩
  · refine ⟨al, ed, h0, e1106, e1107, by rw [Nat.min_eq_right (by omega)]; exact z2, ch, fun q hq => by rw [rwa]; exact g20 q hq, fun i hi => oldAL i (by omega) (by omega) al rfl⟩
  · refine ⟨prU al na qa, ed', h0, e1106, e1107, by rw [Nat.min_eq_left (by omega)]; exact z4, ch, fun q hq => by rw [rwa]; exact g20 q hq, fun i hi => ?_⟩
    by_cases c : i = na
    · subst c
      obtain ⟨b1, b2, b3, b4, b5⟩ := a11 z1
      refine ⟨r, e, f0, hr, b1, he, b4, by rw [e63]; exact h63, ⟨hf.1, by rw [e63]; exact hf.2⟩, ?_, ?_, ?_, ?_, ?_, ?_⟩
      · rw [prU_r, z5]; exact h800
      · rw [prU_r, z6, b2]
      · rw [prU_r, z7, b3]
      · rw [prU_r, z8]; exact (g11 e hene).2.2.1
      · rw [prU_r, z9, b5]; exact h504
      · rw [prU_r]; exact z10
    · exact oldAL i (by omega) (by omega) _ (prU_o c)
end SHD
