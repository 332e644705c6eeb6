/-! ===== what rules share, where an alert is told ===== -/
theorem chn_snoc {S S' : cs_S} {fi z q : Nat} (hz : cs_r S' fi z = some q) (hq : cs_r S' fi q = none) : ∀ (l : List Nat) x, chn S fi (l ++ [z]) x → (∀ a, a ∈ l → cs_r S' fi a = cs_r S fi a) → chn S' fi (l ++ [z] ++ [q]) x := by
  intro l
  induction l with
  | nil =>
    intro x h _
    obtain ⟨h1, -⟩ := h
    exact ⟨h1, by rw [hz]; exact ⟨rfl, hq⟩⟩
  | cons a l ih =>
    intro x h hh
    obtain ⟨h1, h2⟩ := h
    refine ⟨h1, ?_⟩
    rw [hh a (by simp)]
    exact ih _ h2 (fun b hb => hh b (by simp [hb]))
section SHD
variable {G : Nat → Nat} {S S2 : cs_S} {σ : rf_S} {wa rr lt tl bk nr te ne na ns ks now ed : Nat} {ra n pr tm ev al : Nat → Nat} {ko : Nat → Nat → Nat} {Ow : Nat → Nat → Prop} {wl : List Nat}
/-- told, and no event is made yet: all but the queue -/
theorem SHR.told0 {wt1 r e f0 kk hh s t : Nat} (h : SHR G S σ wa rr lt tl bk nr ra n te ne na ns ks now pr tm ev ko Ow al ed wl) (hwk : cs_k S wt1 = 26) (hne : ∀ vs, (∀ r, r < nr → ¬ Ow r vs) → vs ≠ wt1) (hra : cs_k S (ra r) = 9) (h800 : cs_i S 800 (ra r) = nI r) (hr : r < nr) (hf : KfO σ r (pr r) f0) (he : e < pr r) (hene : e < ne) (h63 : σ.2.2.1 63 (4000 * r + e) = nI f0) (ha : cs_k S (ko r f0) = 6) (h504 : cs_i S 504 (ko r f0) = nI hh) (htd : tdD G S S2 wa (ra r) (ko r f0) tl ed na al (nI t) (nI s) (ev e)) :
    sh S wt1 (fun s f x => (s = 0 ∧ ((x = ra r ∧ f = 812) ∨ (x = ko r f0 ∧ (f = 503 ∨ f = 504)) ∨ (x = wa ∧ f = 1106))) ∨ x = tl ∨ (s = 5 ∧ x = ed ∧ 0 < na)) ∧
    ∃ al' ed', SHR0 S2 σ wa rr lt tl bk nr ra n te ne na ns ks now pr tm ev ko Ow al wl ∧ cs_i S2 1106 wa = nI (na + 1) ∧ cs_i S2 1107 wa = σ.1 79 ∧ tlW G S2 tl ed' (min (na + 1) 500) al' ∧ chn S2 406 wl (cs_r S2 1110 wa) ∧ (∀ q, wl.getLast? = some q → cs_r S2 1111 wa = some q) ∧ (∀ i, i < min (na + 1) 500 → AL S2 (fnA σ r e t s kk hh na ns) nr ko al' pr i) := by
  obtain ⟨g1, ⟨i1, i2, i3, i4, i5, i6⟩, g11, g12, ⟨g13, g14⟩, g15, g16, g17, g18, g19, g20, g21⟩ := id h
  obtain ⟨hF, t1, t2, t3, t4, t5⟩ := id htd
  have hwa : cs_k S wa = 12 := g1.1
  have ktl : cs_k S tl = 1 := g13.1
  have ked : cs_k S ed = 27 := g13.2.2.1
  have hs : sh S wt1 (fun s f x => (s = 0 ∧ ((x = ra r ∧ f = 812) ∨ (x = ko r f0 ∧ (f = 503 ∨ f = 504)) ∨ (x = wa ∧ f = 1106))) ∨ x = tl ∨ (s = 5 ∧ x = ed ∧ 0 < na)) := fun s f x _ z => by
    refine Or.inr ?_
    rcases z with ⟨-, z⟩ | rfl | ⟨-, rfl, -⟩
    · rcases z with ⟨rfl, rfl⟩ | ⟨rfl, z⟩ | ⟨rfl, rfl⟩
      · exact ⟨by omega, by omega, by omega, by omega, by omega, by omega, fun y => by omega, fun y => by omega, fun y => by omega⟩
      · exact ⟨by omega, by omega, by omega, by omega, by omega, by omega, fun y => by omega, fun y => by omega, fun y => by omega⟩
      · exact ⟨by omega, by omega, by omega, by omega, by omega, by omega, fun y => by omega, fun y => by omega, fun y => by omega⟩
    · exact ⟨by omega, by omega, by omega, by omega, by omega, by omega, fun y => by omega, fun y => by omega, fun y => by omega⟩
    · exact ⟨by omega, by omega, by omega, by omega, by omega, by omega, fun y => by omega, fun y => by omega, fun y => by omega⟩
  refine ⟨hs, ?_⟩
  have h0 : SHR0 S2 σ wa rr lt tl bk nr ra n te ne na ns ks now pr tm ev ko Ow al wl := h.z.fx hs hwk hF (fun s f x z => by
    rcases z with ⟨-, z⟩ | rfl | ⟨-, rfl, -⟩
    · rcases z with ⟨rfl, rfl⟩ | ⟨rfl, z⟩ | ⟨rfl, rfl⟩
      · exact Or.inr (Or.inr (Or.inl hra))
      · exact Or.inr (Or.inl ha)
      · exact Or.inr (Or.inr (Or.inr (Or.inr (Or.inr (Or.inr (Or.inl ⟨rfl, by omega⟩))))))
    · exact Or.inr (Or.inr (Or.inr (Or.inr (Or.inr (Or.inr (Or.inr (Or.inl ktl)))))))
    · exact Or.inr (Or.inr (Or.inr (Or.inr (Or.inr (Or.inr (Or.inr (Or.inr (Or.inl ked))))))))) hne
  have ntl : wa ≠ tl := fun y => by rw [y, ktl] at hwa; cases hwa
  have rwa : ∀ f, cs_r S2 f wa = cs_r S f wa := fun f => (hF wa (by omega)).2.2.2.2.1 f (fun z => by
    rcases z with ⟨z, -⟩ | z | ⟨z, -⟩
    · exact absurd z (by decide)
    · exact ntl z
    · exact absurd z (by decide))
  have e1107 : cs_i S2 1107 wa = σ.1 79 := by
    rw [(hF wa (by omega)).2.2.1 1107 (fun z => ?_)]
    · exact i4
    · rcases z with ⟨-, z⟩ | z | ⟨z, -⟩
      · rcases z with z | z | z
        · exact absurd z.2 (by decide)
        · rcases z.2 with y | y <;> exact absurd y (by decide)
        · exact absurd z.2 (by decide)
      · exact ntl z
      · exact absurd z (by decide)
  have e1106 : cs_i S2 1106 wa = nI (na + 1) := by rw [t4, i3, nI_1]
  have ch : chn S2 406 wl (cs_r S2 1110 wa) := by
    rw [rwa]
    refine chn.fx _ _ g16 (fun x hx => ?_)
    obtain ⟨i, hi, rfl⟩ := List.getElem_of_mem hx
    have hlen : i < (stL σ ks (ns - ks)).length := by rw [← g17]; exact hi
    have k5 := (g18 i wl[i] (stL σ ks (ns - ks))[i] (List.getElem?_eq_getElem hi) (List.getElem?_eq_getElem hlen)).1
    refine (hF _ (by omega)).2.2.2.2.1 406 (fun z => ?_)
    rcases z with ⟨z, -⟩ | z | ⟨z, -⟩
    · exact absurd z (by decide)
    · rw [z, ktl] at k5; cases k5
    · exact absurd z (by decide)
  obtain ⟨a1, a2, a3, a4, a5, a6, a7, a8, a9, a10, a11⟩ := fnA_r (σ := σ) (r := r) (e := e) (t := t) (s := s) (kk := kk) (h := hh) (na := na) (ns := ns)
  have e63 : ∀ j, (fnA σ r e t s kk hh na ns).2.2.1 63 j = σ.2.2.1 63 j := fun j => by rw [a1 63 (by decide) (by decide) (by decide) (by decide)]
  have oldAL : ∀ i, i < na → i < 500 → ∀ al', al' i = al i → AL S2 (fnA σ r e t s kk hh na ns) nr ko al' pr i := fun i hi hi5 al' hal => by
    obtain ⟨-, r', e', f', z1, z2, z3, z4, z5, z6, z7, z8, z9, z10, z11, z12⟩ := h0.2.2.2.2.1 i (by omega)
    have c : i ≠ na := by omega
    rw [← hal] at z7 z8 z9 z10 z11 z12
    exact ⟨r', e', f', z1, by rw [a10 73 i (by omega) (by omega) c]; exact z2, z3, by rw [a10 75 i (by omega) (by omega) c]; exact z4, by rw [e63]; exact z5, ⟨z6.1, by rw [e63]; exact z6.2⟩, z7, by rw [a10 77 i (by omega) (by omega) c]; exact z8, by rw [a10 74 i (by omega) (by omega) c]; exact z9, z10, by rw [a10 76 i (by omega) (by omega) c]; exact z11, z12⟩
  rcases t5 with ⟨z1, z2⟩ | ⟨z1, ed', qa, z2, z3, z4, z5, z6, z7, z8, z9, z10⟩
  · refine ⟨al, ed, h0, e1106, e1107, by rw [Nat.min_eq_right (by omega)]; exact z2, ch, fun q hq => by rw [rwa]; exact g20 q hq, fun i hi => oldAL i (by omega) (by omega) al rfl⟩
  · refine ⟨prU al na qa, ed', h0, e1106, e1107, by rw [Nat.min_eq_left (by omega)]; exact z4, ch, fun q hq => by rw [rwa]; exact g20 q hq, fun i hi => ?_⟩
    by_cases c : i = na
    · subst c
      obtain ⟨b1, b2, b3, b4, b5⟩ := a11 z1
      refine ⟨r, e, f0, hr, b1, he, b4, by rw [e63]; exact h63, ⟨hf.1, by rw [e63]; exact hf.2⟩, ?_, ?_, ?_, ?_, ?_, ?_⟩
      · rw [prU_r, z5]; exact h800
      · rw [prU_r, z6, b2]
      · rw [prU_r, z7, b3]
      · rw [prU_r, z8]; exact (g11 e hene).2.2.1
      · rw [prU_r, z9, b5]; exact h504
      · rw [prU_r]; exact z10
    · exact oldAL i (by omega) (by omega) _ (prU_o c)
theorem fnA_ev {r e t s kk hh : Nat} : eV σ (fnA σ r e t s kk hh na ns) := by
  obtain ⟨a1, -⟩ := fnA_r (σ := σ) (r := r) (e := e) (t := t) (s := s) (kk := kk) (h := hh) (na := na) (ns := ns)
  refine ⟨fun k hk => a1 k (by omega) (by omega) (by omega) (by omega), ?_⟩
  unfold fnA fnK
  split <;> rfl
/-- the steps, one more -/
theorem fnA_st {r e t s kk hh : Nat} (hks : ks ≤ ns) (hr : r < 12) (he : e < 4000) : stL (fnA σ r e t s kk hh na ns) ks (ns + 1 - ks) = stL σ ks (ns - ks) ++ (if σ.2.2.1 10 e = -1 then [(r, e)] else []) := by
  obtain ⟨a1, a2, a3, a4, a5, a6, a7, a8, a9, a10, a11⟩ := fnA_r (σ := σ) (r := r) (e := e) (t := t) (s := s) (kk := kk) (h := hh) (na := na) (ns := ns)
  rw [show ns + 1 - ks = (ns - ks) + 1 from by omega, stL_snoc, show ks + (ns - ks) = ns from by omega, a8, a9, if_pos rfl, if_pos rfl, nI_clamp (by omega), nI_clamp (by omega), a1 10 (by decide) (by decide) (by decide) (by decide)]
  rw [stL_cong (σ := σ) (a1 10 (by decide) (by decide) (by decide) (by decide)) _ _ (fun j z1 z2 => ⟨by rw [a8, if_neg (by omega)], by rw [a9, if_neg (by omega)]⟩)]
theorem SHR.told1 {r e t s kk hh ed' : Nat} {al' : Nat → Nat} (h0 : SHR0 S2 σ wa rr lt tl bk nr ra n te ne na ns ks now pr tm ev ko Ow al wl) (hks : ks ≤ ns) (hr : r < 12) (he : e < 4000) (hmk : ¬ σ.2.2.1 10 e = -1) (e1106 : cs_i S2 1106 wa = nI (na + 1)) (e1107 : cs_i S2 1107 wa = σ.1 79) (ht : tlW G S2 tl ed' (min (na + 1) 500) al') (hc : chn S2 406 wl (cs_r S2 1110 wa)) (hl : ∀ q, wl.getLast? = some q → cs_r S2 1111 wa = some q) (hA : ∀ i, i < min (na + 1) 500 → AL S2 (fnA σ r e t s kk hh na ns) nr ko al' pr i) : SHR G S2 (fnA σ r e t s kk hh na ns) wa rr lt tl bk nr ra n te ne (na + 1) (ns + 1) ks now pr tm ev ko Ow al' ed' wl := by
  obtain ⟨h1, ⟨i1, i2, i5, i6⟩, h11, h12, h14, h15, h17, h18, h19, h21⟩ := h0
  obtain ⟨a1, a2, a3, a4, a5, -⟩ := fnA_r (σ := σ) (r := r) (e := e) (t := t) (s := s) (kk := kk) (h := hh) (na := na) (ns := ns)
  have hE : eV σ (fnA σ r e t s kk hh na ns) := fnA_ev
  have es := fnA_st (σ := σ) (t := t) (s := s) (kk := kk) (hh := hh) (na := na) hks hr he
  rw [if_neg hmk, List.append_nil] at es
  exact ⟨h1, ⟨i1, by rw [a5 23 (by decide) (by decide)]; exact i2, e1106, by rw [a5 79 (by decide) (by decide)]; exact e1107, i5, by rw [a5 22 (by decide) (by decide)]; exact i6⟩, fun o ho => (h11 o ho).on hE (fun _ _ _ _ z => z), h12, ⟨ht, hA⟩, h15, hc, by rw [es]; exact h17, fun i q re z1 z2 => (h18 i q re z1 (by rw [← es]; exact z2)).on hE (fun _ _ _ _ z => z), h19, hl, h21⟩
/-- told, and an event is made -/
theorem SHR.told2 {S' : cs_S} {wt1 r e t s kk hh ed' q nm vs by0 kv : Nat} {al' π : Nat → Nat} (h0 : SHR0 S2 σ wa rr lt tl bk nr ra n te ne na ns ks now pr tm ev ko Ow al wl) (hwk : cs_k S2 wt1 = 26) (hne : ∀ vs, (∀ r, r < nr → ¬ Ow r vs) → vs ≠ wt1) (hlive : ∀ r a, r < nr → Ow r a → cs_k S2 a ≠ 0) (hks : ks ≤ ns) (hr : r < nr) (hr12 : nr ≤ 12) (he : e < 4000) (hmk : σ.2.2.1 10 e = -1) (ht0 : t = now) (h800 : cs_i S2 800 (ra r) = nI r) (e1106 : cs_i S2 1106 wa = nI (na + 1)) (e1107 : cs_i S2 1107 wa = σ.1 79) (ht : tlW G S2 tl ed' (min (na + 1) 500) al') (hc : chn S2 406 wl (cs_r S2 1110 wa)) (hl : ∀ q, wl.getLast? = some q → cs_r S2 1111 wa = some q) (hA : ∀ i, i < min (na + 1) 500 → AL S2 (fnA σ r e t s kk hh na ns) nr ko al' pr i)
    (hfd : ∀ k, k < n r → ∃ va i n' l, cs_ar S2 kv k = some va ∧ fO σ e (σ.2.2.2 37 (3 * (12 * bk + r) + k)) = some i ∧ vlR S2 σ te va (8 * e + i) ∧ 1 ≤ n' ∧ n' ≤ 8 ∧ wdR n' (cs_al S2 by0 k) (σ.2.2.2 37 (3 * (12 * bk + r) + k)) l) (hmD : mkD S2 S' wa (ra r) q nm vs (n r) by0 kv (nI t) π) :
    (fX (fun s f x => s = 2 ∧ ((x = wa ∧ (f = 1110 ∨ f = 1111)) ∨ (f = 406 ∧ cs_k S2 x = 5))) S2 S' ∧ sh S2 wt1 (fun s f x => s = 2 ∧ ((x = wa ∧ (f = 1110 ∨ f = 1111)) ∨ (f = 406 ∧ cs_k S2 x = 5)))) ∧ SHR G S' (fnA σ r e t s kk hh na ns) wa rr lt tl bk nr ra n te ne (na + 1) (ns + 1) ks now pr tm ev ko Ow al' ed' (wl ++ [q]) := by
  obtain ⟨hF0, ⟨d1, d2, d3⟩, ⟨q1, q2, q3, q4, q5, q6, q7⟩, ⟨p1, p2, p3, p4, p5, p6⟩, m1, m2, m3⟩ := hmD
  have hwa : cs_k S2 wa = 12 := h0.1.1
  have wlk : ∀ x, x ∈ wl → cs_k S2 x = 5 := fun x hx => by
    obtain ⟨i, hi, rfl⟩ := List.getElem_of_mem hx
    have hlen : i < (stL σ ks (ns - ks)).length := by rw [← h0.2.2.2.2.2.2.1]; exact hi
    exact (h0.2.2.2.2.2.2.2.1 i wl[i] (stL σ ks (ns - ks))[i] (List.getElem?_eq_getElem hi) (List.getElem?_eq_getElem hlen)).1
  have hcase : wl = [] ∨ ∃ l z, wl = l ++ [z] := by
    rcases List.eq_nil_or_concat wl with w | ⟨l, z, w⟩
    · exact Or.inl w
    · exact Or.inr ⟨l, z, by rw [w, List.concat_eq_append]⟩
  have hF : fX (fun s f x => s = 2 ∧ ((x = wa ∧ (f = 1110 ∨ f = 1111)) ∨ (f = 406 ∧ cs_k S2 x = 5))) S2 S' := fun x hx => by
    obtain ⟨b1, b2, b3, b4, b5, b6, b7, b8⟩ := hF0 x hx
    refine ⟨b1, b2, fun g _ => b3 g (fun z => absurd z.1 (by decide)), fun g _ => b4 g (fun z => absurd z.1 (by decide)), fun g hg => ?_, fun g _ => b6 g (fun z => absurd z.1 (by decide)), fun g _ => b7 g (fun z => absurd z.1 (by decide)), fun g _ => b8 g (fun z => absurd z.1 (by decide))⟩
    by_cases c : g = 406 ∧ cs_r S2 1111 wa = some x
    · rw [c.1]
      rcases hcase with hw | ⟨l, z, hw⟩
      · rw [hw] at hc
        exact (m2 (Or.inl hc)).2 x hx
      · exfalso
        have h9 := hl z (by rw [hw]; simp)
        rw [c.2] at h9
        cases h9
        exact hg ⟨rfl, Or.inr ⟨c.1, wlk x (by rw [hw]; simp)⟩⟩
    · refine b5 g (fun z => ?_)
      rcases z.2 with y | y
      · exact hg ⟨rfl, Or.inl y⟩
      · exact c y
  have hs : sh S2 wt1 (fun s f x => s = 2 ∧ ((x = wa ∧ (f = 1110 ∨ f = 1111)) ∨ (f = 406 ∧ cs_k S2 x = 5))) := fun s f x _ z => by
    refine Or.inr ?_
    rcases z.2 with ⟨rfl, y⟩ | ⟨rfl, y⟩
    · exact ⟨by omega, by omega, by omega, by omega, by omega, by omega, fun y => by omega, fun y => by omega, fun y => by omega⟩
    · exact ⟨by omega, by omega, by omega, by omega, by omega, by omega, fun y => by omega, fun y => by omega, fun y => by omega⟩
  refine ⟨⟨hF, hs⟩, ?_⟩
  have h1 : SHR0 S' σ wa rr lt tl bk nr ra n te ne na ns ks now pr tm ev ko Ow al wl := h0.fx hs hwk hF (fun s f x z => by
    rcases z.2 with ⟨rfl, y⟩ | ⟨rfl, y⟩
    · exact Or.inr (Or.inr (Or.inr (Or.inr (Or.inr (Or.inr (Or.inl ⟨rfl, by omega⟩))))))
    · exact Or.inr (Or.inr (Or.inr (Or.inr (Or.inr (Or.inr (Or.inr (Or.inr (Or.inr ⟨y, rfl⟩))))))))) hne
  obtain ⟨g1, ⟨i1, i2, i5, i6⟩, g11, g12, g14, g15, g17, g18, g19, g21⟩ := h1
  obtain ⟨a1, a2, a3, a4, a5, -⟩ := fnA_r (σ := σ) (r := r) (e := e) (t := t) (s := s) (kk := kk) (h := hh) (na := na) (ns := ns)
  have hE : eV σ (fnA σ r e t s kk hh na ns) := fnA_ev
  have es := fnA_st (σ := σ) (t := t) (s := s) (kk := kk) (hh := hh) (na := na) hks (show r < 12 by omega) he
  rw [if_pos hmk] at es
  have iS : ∀ f x, cs_k S2 x ≠ 0 → cs_i S' f x = cs_i S2 f x := fun f x hx => (hF x hx).2.2.1 f (fun z => absurd z.1 (by decide))
  have qn : ∀ x, cs_k S2 x ≠ 0 → x ≠ q := fun x hx e => hx (by rw [e]; exact d1)
  have nqw : ¬ q ∈ wl := fun z => by have := wlk q z; rw [d1] at this; cases this
  have ht' : tlW G S' tl ed' (min (na + 1) 500) al' := ht.fx hF (fun s f x z => ⟨fun y => (by
    have k1 := ht.1
    rcases z.2 with ⟨w, -⟩ | ⟨-, w⟩
    · rw [← y, w, hwa] at k1; cases k1
    · rw [← y, w] at k1; cases k1), fun _ y => (by rw [z.1] at y; cases y)⟩)
  have new : WV S' σ te bk nr now n Ow q r e := by
    have k21 : cs_k S' nm = 21 := p1
    refine ⟨q1, by rw [q2, ht0], q3, by rw [q4]; exact h800, hr, nm, vs, π, q5, p1, p2, q6, p3, p4, fun r' hr' z => hlive r' vs hr' z d3, p5.1, p5.2.1, fun j hj => ?_⟩
    obtain ⟨va, i, n', l, f1, f2, f3, f4, f5, f6⟩ := hfd (π j) (p5.1 j hj)
    obtain ⟨r1, r2⟩ := p6 j hj
    refine ⟨⟨n', l, f4, f5, by rw [r1]; exact f6⟩, fun hj0 => ?_, va, i, r2.trans f1, f2, hs.vl hF hwk f3⟩
    rw [r1, (p6 (j - 1) (by omega)).1]
    exact lg_pos.mpr (p5.2.2 (j - 1) j (by omega) hj)
  refine ⟨g1, ⟨i1, by rw [a5 23 (by decide) (by decide)]; exact i2, by rw [iS 1106 wa (by omega)]; exact e1106, by rw [a5 79 (by decide) (by decide), iS 1107 wa (by omega)]; exact e1107, i5, by rw [a5 22 (by decide) (by decide)]; exact i6⟩, fun o ho => (g11 o ho).on hE (fun _ _ _ _ z => z), g12, ⟨ht', fun i hi => ?_⟩, g15, ?_, by rw [es, List.length_append, List.length_append, g17]; rfl, fun i q' re z1 z2 => ?_, fun i j q' z1 z2 => ?_, fun q' hq' => ?_, fun o ho z => ?_⟩
  · obtain ⟨r', e', f', z1, z2, z3, z4, z5, z6, z7, z8, z9, z10, z11, z12⟩ := hA i hi
    have ka := (ht.2.2.2.2.2.2 i hi).2
    have r105 : cs_r S' 105 (al' i) = cs_r S2 105 (al' i) := (hF _ (by omega)).2.2.2.2.1 105 (fun z => by
      rcases z.2 with ⟨-, y⟩ | ⟨y, -⟩
      · rcases y with y | y <;> exact absurd y (by decide)
      · exact absurd y (by decide))
    exact ⟨r', e', f', z1, z2, z3, z4, z5, z6, by rw [iS _ _ (by omega)]; exact z7, by rw [iS _ _ (by omega)]; exact z8, by rw [iS _ _ (by omega)]; exact z9, by rw [iS _ _ (by omega)]; exact z10, by rw [iS _ _ (by omega)]; exact z11, by rw [r105]; exact z12⟩
  · rcases hcase with hw | ⟨l, z, hw⟩
    · rw [hw] at hc
      rw [hw, (m2 (Or.inl hc)).1]
      exact ⟨rfl, q7⟩
    · have hlast := hl z (by rw [hw]; simp)
      have hne0 : cs_r S2 1110 wa ≠ none := fun y => by
        rw [hw, y] at hc
        cases l with
        | nil => exact nomatch hc.1
        | cons a l' => exact nomatch hc.1
      obtain ⟨y1, y2⟩ := m3 z hne0 hlast
      rw [hw, y1]
      refine chn_snoc y2 q7 l _ (by rw [← hw]; exact hc) (fun x hx => ?_)
      have hxl : x ∈ wl := by rw [hw]; simp [hx]
      have hxz : x ≠ z := fun e => by
        obtain ⟨i, hi, hie⟩ := List.getElem_of_mem hx
        have q1' : wl[i]? = some z := by
          rw [hw, List.getElem?_append_left hi, List.getElem?_eq_getElem hi, hie, e]
        have q2' : wl[l.length]? = some z := by rw [hw]; simp
        have := h0.2.2.2.2.2.2.2.2.1 i l.length z q1' q2'
        omega
      have kx := wlk x hxl
      refine (hF0 x (by omega)).2.2.2.2.1 406 (fun w => ?_)
      rcases w.2 with ⟨-, w⟩ | ⟨-, w⟩
      · rcases w with w | w <;> exact absurd w (by decide)
      · rw [hlast] at w
        exact hxz (Option.some.inj w).symm
  · rw [es] at z2
    by_cases c : i < wl.length
    · rw [List.getElem?_append_left c] at z1
      rw [List.getElem?_append_left (by rw [← g17]; exact c)] at z2
      exact (g18 i q' re z1 z2).on hE (fun _ _ _ _ z => z)
    · have hi : i = wl.length := by
        have := (List.getElem?_eq_some_iff.mp z1).1
        rw [List.length_append] at this
        simp at this
        omega
      rw [hi] at z1 z2
      rw [List.getElem?_append_right (Nat.le_refl _), Nat.sub_self] at z1
      rw [g17, List.getElem?_append_right (Nat.le_refl _), Nat.sub_self] at z2
      have e1 : q = q' := Option.some.inj z1
      have e2 : (r, e) = re := Option.some.inj z2
      rw [← e1, ← e2]
      exact new.on hE (fun _ _ _ _ z => z)
  · have key : ∀ i q', (wl ++ [q])[i]? = some q' → (i < wl.length ∧ wl[i]? = some q') ∨ (i = wl.length ∧ q' = q) := fun i q' z => by
      by_cases c : i < wl.length
      · rw [List.getElem?_append_left c] at z; exact Or.inl ⟨c, z⟩
      · have hi : i = wl.length := by
          have := (List.getElem?_eq_some_iff.mp z).1
          rw [List.length_append] at this
          simp at this
          omega
        rw [hi, List.getElem?_append_right (Nat.le_refl _), Nat.sub_self] at z
        exact Or.inr ⟨hi, (Option.some.inj z).symm⟩
    rcases key i q' z1 with ⟨c1, c2⟩ | ⟨c1, c2⟩
    · rcases key j q' z2 with ⟨c3, c4⟩ | ⟨c3, c4⟩
      · exact g19 i j q' c2 c4
      · rw [c4] at c2
        exact absurd (List.mem_of_getElem? c2) nqw
    · rcases key j q' z2 with ⟨c3, c4⟩ | ⟨c3, c4⟩
      · rw [c2] at c4
        exact absurd (List.mem_of_getElem? c4) nqw
      · omega
  · have : q' = q := by
      rw [List.getLast?_concat] at hq'
      exact (Option.some.inj hq').symm
    rw [this]; exact m1
  · rcases List.mem_append.mp z with y | y
    · exact g21 o ho y
    · have hy : ev o = q := by simpa using y
      obtain ⟨m, k5⟩ := (h0.2.2.1 o ho).1
      have := k5.1
      rw [hy, d1] at this; cases this
end SHD
