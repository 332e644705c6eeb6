/-! ===== the class: what rules share ===== -/
theorem vlR.same {S : cs_S} {σ : rf_S} {te va va' g : Nat} (h : vlR S σ te va' g) (hte : te ≤ 24000) (hk : vK S va) (hx : vX S va = vC σ g) : vlR S σ te va g := by
  obtain ⟨hk', hx'⟩ := h.x hte
  obtain ⟨g1, g2, g3, tx', L', g4, g5, g6, g7, g8, g9, g10⟩ := h
  obtain ⟨tx, L, c1, c2, c3, c4, c5, c6, c7⟩ := hk
  have e0 : cs_i S 1000 va = σ.2.2.1 14 g := congrArg Prod.fst hx
  have e1 : cs_i S 1001 va = σ.2.2.1 15 g := congrArg (fun c => c.2.1) hx
  have e2 : vX S va = vX S va' := hx.trans hx'.symm
  have e3 : ∀ k, (if cs_i S 1000 va = 1 ∧ k < (cs_i S 1001 va).toNatClampNeg then cs_ai S ((cs_r S 1002 va).getD 0) k else 0) = (if cs_i S 1000 va' = 1 ∧ k < (cs_i S 1001 va').toNatClampNeg then cs_ai S ((cs_r S 1002 va').getD 0) k else 0) := fun k => congrFun (congrArg (fun c => c.2.2) e2) k
  have hL : L = L' ∧ ∀ k, k < L → cs_ai S tx k = cs_ai S tx' k := by
    rcases c7 with ⟨z1, z2⟩ | ⟨z1, z2⟩
    · rcases g10 with ⟨y1, y2, -⟩ | ⟨y1, -⟩
      · have hLL : L = L' := by
          rw [e1, y2] at z2
          exact ((nI_eq (by omega) (by omega)).mp z2).symm
        refine ⟨hLL, fun k hk => ?_⟩
        have := e3 k
        rw [g2, g3, e0, e1, y1, y2, c2, g4, nI_clamp (by omega), if_pos ⟨rfl, by omega⟩, if_pos ⟨rfl, by omega⟩] at this
        exact this
      · rw [e0] at z1
        rcases y1 with y1 | y1 <;> rw [y1] at z1 <;> exact absurd z1 (by decide)
    · rcases g10 with ⟨y1, -⟩ | ⟨-, y2⟩
      · rw [e0] at z1; exact absurd y1 z1
      · exact ⟨by omega, fun k hk => by omega⟩
  obtain ⟨hLL, htx⟩ := hL
  refine ⟨c1, e0, e1, tx, L, c2, c3, c4, c5, by rw [c6, e0, e1], fun k hk => ?_, ?_⟩
  · rw [htx k hk]; exact g9 k (by omega)
  · rcases g10 with ⟨y1, y2, o, y3, y4, y5⟩ | ⟨y1, y2⟩
    · exact Or.inl ⟨y1, by rw [hLL]; exact y2, o, y3, by omega, fun k hk => by rw [y5 k (by omega), htx k hk]⟩
    · exact Or.inr ⟨y1, by omega⟩
/-- event o of the log -/
def EV (S : cs_S) (σ : rf_S) (te : Nat) (tm ev : Nat → Nat) (nr : Nat) (Ow : Nat → Nat → Prop) (o : Nat) : Prop := (∃ m, evR S σ te (ev o) o m) ∧ cs_i S 400 (ev o) = nI (tm o) ∧ cs_i S 405 (ev o) = nI o ∧ cs_i S 402 (ev o) = σ.2.2.1 10 o ∧ ∀ vs r, cs_r S 404 (ev o) = some vs → r < nr → ¬ Ow r vs
/-- alert i -/
def AL (S : cs_S) (σ : rf_S) (nr : Nat) (ko : Nat → Nat → Nat) (al pr : Nat → Nat) (i : Nat) : Prop := ∃ r e f, r < nr ∧ σ.2.2.1 73 i = nI r ∧ e < pr r ∧ σ.2.2.1 75 i = nI e ∧ σ.2.2.1 63 (4000 * r + e) = nI f ∧ KfO σ r (pr r) f ∧ cs_i S 100 (al i) = nI r ∧ cs_i S 101 (al i) = σ.2.2.1 77 i ∧ cs_i S 102 (al i) = σ.2.2.1 74 i ∧ cs_i S 103 (al i) = nI e ∧ cs_i S 104 (al i) = σ.2.2.1 76 i ∧ cs_r S 105 (al i) = some (ko r f)
/-- an event that waits: made by rule r of event e -/
def WV (S : cs_S) (σ : rf_S) (te bk nr now : Nat) (n : Nat → Nat) (Ow : Nat → Nat → Prop) (q r e : Nat) : Prop := cs_k S q = 5 ∧ cs_i S 400 q = nI now ∧ cs_l S 401 q = 49735996165586944 ∧ cs_i S 402 q = nI r ∧ r < nr ∧ ∃ (nm vs : Nat) (π : Nat → Nat), cs_r S 403 q = some nm ∧ cs_k S nm = 21 ∧ cs_n S nm = n r ∧ cs_r S 404 q = some vs ∧ cs_k S vs = 26 ∧ cs_n S vs = n r ∧ (∀ r', r' < nr → ¬ Ow r' vs) ∧ (∀ j, j < n r → π j < n r) ∧ (∀ i j, i < n r → j < n r → π i = π j → i = j) ∧
  (∀ j, j < n r → (∃ n' l, 1 ≤ n' ∧ n' ≤ 8 ∧ wdR n' (cs_al S nm j) (σ.2.2.2 37 (3 * (12 * bk + r) + π j)) l) ∧ (0 < j → 0 < lg_cmp (cs_al S nm j) (cs_al S nm (j - 1))) ∧ ∃ va i, cs_ar S vs j = some va ∧ fO σ e (σ.2.2.2 37 (3 * (12 * bk + r) + π j)) = some i ∧ vlR S σ te va (8 * e + i))
/-- the steps from k on that make an event -/
noncomputable def stL (σ : rf_S) : Nat → Nat → List (Nat × Nat)
  | _, 0 => []
  | k, d + 1 => if σ.2.2.1 10 (σ.2.2.1 82 k).toNatClampNeg = -1 then ((σ.2.2.1 81 k).toNatClampNeg, (σ.2.2.1 82 k).toNatClampNeg) :: stL σ (k + 1) d else stL σ (k + 1) d
/-- what rules share; ks: the steps below it are done -/
def SHR (G : Nat → Nat) (S : cs_S) (σ : rf_S) (wa rr lt tl bk nr : Nat) (ra n : Nat → Nat) (te ne na ns ks now : Nat) (pr tm : Nat → Nat) (ev : Nat → Nat) (ko : Nat → Nat → Nat) (Ow : Nat → Nat → Prop) (al : Nat → Nat) (ed : Nat) (wl : List Nat) : Prop :=
  (cs_k S wa = 12 ∧ cs_r S 1100 wa = some rr ∧ cs_k S rr = 22 ∧ (nr ≤ cs_n S rr ∧ cs_n S rr ≤ 12) ∧ cs_i S 1101 wa = nI nr ∧ cs_r S 1102 wa = some lt ∧ cs_k S lt = 23 ∧ cs_n S lt = 64 ∧ cs_r S 1103 wa = some tl ∧ ∀ r, r < nr → cs_ar S rr r = some (ra r)) ∧
  (cs_i S 1104 wa = nI ne ∧ cs_i S 1105 wa = σ.1 23 ∧ cs_i S 1106 wa = nI na ∧ cs_i S 1107 wa = σ.1 79 ∧ cs_i S 1108 wa = nI now ∧ cs_i S 1109 wa = σ.1 22) ∧
  (∀ o, o < ne → EV S σ te tm ev nr Ow o) ∧ (∀ o, o < ne → ne ≤ o + 64 → cs_ar S lt (o % 64) = some (ev o)) ∧
  (tlW G S tl ed (min na 500) al ∧ ∀ i, i < min na 500 → AL S σ nr ko al pr i) ∧ (∀ r, r < nr → ¬ Ow r lt) ∧
  (chn S 406 wl (cs_r S 1110 wa) ∧ wl.length = (stL σ ks (ns - ks)).length ∧ (∀ (i q : Nat) (re : Nat × Nat), wl[i]? = some q → (stL σ ks (ns - ks))[i]? = some re → WV S σ te bk nr now n Ow q re.1 re.2) ∧ (∀ i j q : Nat, wl[i]? = some q → wl[j]? = some q → i = j) ∧ (∀ q, wl.getLast? = some q → cs_r S 1111 wa = some q) ∧ ∀ o, o < ne → ¬ ev o ∈ wl)
section SHX
variable {G : Nat → Nat} {S S' : cs_S} {σ : rf_S} {wa rr lt tl bk nr te ne na ns ks now ed : Nat} {ra n pr tm ev al : Nat → Nat} {ko : Nat → Nat → Nat} {Ow : Nat → Nat → Prop} {wl : List Nat}
theorem WV.fx {E : Nat → Nat → Nat → Prop} {wt1 q r e : Nat} (h : WV S σ te bk nr now n Ow q r e) (hs : sh S wt1 E) (hwk : cs_k S wt1 = 26) (hF : fX E S S') (h21 : ∀ s f a, E s f a → cs_k S a ≠ 21) (hne : ∀ vs, (∀ r, r < nr → ¬ Ow r vs) → vs ≠ wt1) : WV S' σ te bk nr now n Ow q r e := by
  obtain ⟨h1, h2, h3, h4, h5, nm, vs, π, h6, h7, h8, h9, h10, h11, h12, h13, h14, h15⟩ := h
  obtain ⟨a1, a2, a3, a4⟩ := hs.ev hF hwk h1
  have nnm : nm ≠ wt1 := fun z => by rw [z, hwk] at h7; cases h7
  obtain ⟨b1, b2, -, -, -, -, b7', -⟩ := hF nm (by omega)
  have b7 : ∀ j, cs_al S' nm j = cs_al S nm j := fun j => b7' j (fun z => h21 _ _ _ z h7)
  obtain ⟨c1, c2, -, -, -, -, -, c8⟩ := hs.all hF (a := vs) (by omega) (hne vs h12)
  refine ⟨a1, (a2 400 (by omega)).trans h2, (a3 401 (by omega)).trans h3, (a2 402 (by omega)).trans h4, h5, nm, vs, π, (a4 403 (by omega)).trans h6, b1.trans h7, b2.trans h8, (a4 404 (by omega)).trans h9, c1.trans h10, c2.trans h11, h12, h13, h14, fun j hj => ?_⟩
  obtain ⟨z1, z2, va, i, z3, z4, z5⟩ := h15 j hj
  exact ⟨by rw [b7]; exact z1, fun y => by rw [b7, b7]; exact z2 y, va, i, by rw [c8]; exact z3, z4, hs.vl hF hwk z5⟩
theorem EV.fx {E : Nat → Nat → Nat → Prop} {wt1 o : Nat} (h : EV S σ te tm ev nr Ow o) (hs : sh S wt1 E) (hwk : cs_k S wt1 = 26) (hF : fX E S S') (hE5 : ∀ s f a, E s f a → cs_k S a = 5 → f ≠ 405) (hne : ∀ vs, (∀ r, r < nr → ¬ Ow r vs) → vs ≠ wt1) : EV S' σ te tm ev nr Ow o := by
  obtain ⟨⟨m, h1⟩, h2, h3, h4, h5⟩ := h
  have k5 := h1.1
  obtain ⟨a1, a2, a3, a4⟩ := hs.ev hF hwk k5
  refine ⟨⟨m, hs.evr hF hwk (fun vs hv => hne vs (fun r hr => h5 vs r hv hr)) h1⟩, (a2 400 (by omega)).trans h2, ?_, (a2 402 (by omega)).trans h4, fun vs r hv hr => h5 vs r (by rw [← a4 404 (by omega)]; exact hv) hr⟩
  rw [(hF _ (by omega)).2.2.1 405 (fun z => hE5 _ _ _ z k5 rfl)]; exact h3
/-- a rule goes on: what is shared stays -/
theorem SHR.fx {E : Nat → Nat → Nat → Prop} {wt1 : Nat} (h : SHR G S σ wa rr lt tl bk nr ra n te ne na ns ks now pr tm ev ko Ow al ed wl) (hs : sh S wt1 E) (hwk : cs_k S wt1 = 26) (hF : fX E S S') (hE : ∀ s f a, E s f a → cs_k S a = 4 ∨ cs_k S a = 6 ∨ cs_k S a = 9 ∨ cs_k S a = 25 ∨ a = wt1 ∨ (cs_k S a = 23 ∧ a ≠ lt)) (hne : ∀ vs, (∀ r, r < nr → ¬ Ow r vs) → vs ≠ wt1) : SHR G S' σ wa rr lt tl bk nr ra n te ne na ns ks now pr tm ev ko Ow al ed wl := by
  obtain ⟨⟨h1, h2, h3, h4, h5, h6, h7, h8, h9, h10⟩, ⟨i1, i2, i3, i4, i5, i6⟩, h11, h12, ⟨h13, h14⟩, h15, h16, h17, h18, h19, h20, h21⟩ := h
  have hno : ∀ a, (cs_k S a = 12 ∨ cs_k S a = 22 ∨ cs_k S a = 5 ∨ cs_k S a = 2 ∨ a = lt) → ∀ s f, ¬ E s f a := fun a ha s f z => by
    have z' := hE s f a z
    rcases ha with y | y | y | y | y
    · rcases z' with w | w | w | w | w | w <;> first | omega | (rw [w, hwk] at y; cases y)
    · rcases z' with w | w | w | w | w | w <;> first | omega | (rw [w, hwk] at y; cases y)
    · rcases z' with w | w | w | w | w | w <;> first | omega | (rw [w, hwk] at y; cases y)
    · rcases z' with w | w | w | w | w | w <;> first | omega | (rw [w, hwk] at y; cases y)
    · rw [y] at z'
      rcases z' with w | w | w | w | w | w
      · omega
      · omega
      · omega
      · omega
      · rw [← w, h7] at hwk; cases hwk
      · exact w.2 rfl
  have keep : ∀ a, (cs_k S a = 12 ∨ cs_k S a = 22 ∨ cs_k S a = 5 ∨ cs_k S a = 2 ∨ a = lt) → cs_k S' a = cs_k S a ∧ cs_n S' a = cs_n S a ∧ (∀ f, cs_i S' f a = cs_i S f a) ∧ (∀ f, cs_r S' f a = cs_r S f a) ∧ ∀ j, cs_ar S' a j = cs_ar S a j := fun a ha => by
    have hl : cs_k S a ≠ 0 := by
      rcases ha with y | y | y | y | y
      · omega
      · omega
      · omega
      · omega
      · rw [y]; omega
    obtain ⟨a1, a2, a3, -, a5, -, -, a8⟩ := hF a hl
    exact ⟨a1, a2, fun f => a3 f (hno a ha _ _), fun f => a5 f (hno a ha _ _), fun j => a8 j (hno a ha _ _)⟩
  obtain ⟨w1, w2, w3, w4, w5⟩ := keep wa (Or.inl h1)
  obtain ⟨r1, r2, -, -, r5⟩ := keep rr (Or.inr (Or.inl h3))
  obtain ⟨l1, l2, -, -, l5⟩ := keep lt (Or.inr (Or.inr (Or.inr (Or.inr rfl))))
  have h13' : tlW G S' tl ed (min na 500) al := h13.fx hF (fun s f a z => ⟨fun y => by
    have z' := hE s f a z
    have k1 := h13.1
    rw [y] at z'
    rcases z' with w | w | w | w | w | w <;> first | omega | (rw [← w, k1] at hwk; cases hwk), fun y => by
    have z' := hE s f a z
    have k1 := h13.2.2.1
    rw [y] at z'
    exfalso
    rcases z' with w | w | w | w | w | w <;> first | omega | (rw [← w, k1] at hwk; cases hwk)⟩)
  refine ⟨⟨w1.trans h1, (w4 _).trans h2, r1.trans h3, by rw [r2]; exact h4, (w3 _).trans h5, (w4 _).trans h6, l1.trans h7, l2.trans h8, (w4 _).trans h9, fun r hr => by rw [r5]; exact h10 r hr⟩, ⟨(w3 _).trans i1, (w3 _).trans i2, (w3 _).trans i3, (w3 _).trans i4, (w3 _).trans i5, (w3 _).trans i6⟩, fun o ho => (h11 o ho).fx hs hwk hF (fun s f a z y => absurd z (hno a (Or.inr (Or.inr (Or.inl y))) s f)) hne, fun o ho hl => by rw [l5]; exact h12 o ho hl, ⟨h13', fun i hi => ?_⟩, h15, ?_, h17, fun i q' re z1 z2 => (h18 i q' re z1 z2).fx hs hwk hF (fun s f a z y => by
    rcases hE s f a z with w | w | w | w | w | w <;> first | omega | (rw [w, hwk] at y; cases y)) hne, h19, fun q' hq' => by rw [w4]; exact h20 q' hq', h21⟩
  · obtain ⟨r, e, f, z1, z2, z3, z4, z5, z6, z7, z8, z9, z10, z11, z12⟩ := h14 i hi
    obtain ⟨-, -, a3, a4, -⟩ := keep (al i) (Or.inr (Or.inr (Or.inr (Or.inl (h13.2.2.2.2.2.2 i hi).2))))
    exact ⟨r, e, f, z1, z2, z3, z4, z5, z6, (a3 _).trans z7, (a3 _).trans z8, (a3 _).trans z9, (a3 _).trans z10, (a3 _).trans z11, (a4 _).trans z12⟩
  · rw [w4]
    refine chn.fx _ _ h16 (fun a ha => ?_)
    obtain ⟨i, hi, rfl⟩ := List.getElem_of_mem ha
    have hlen : i < (stL σ ks (ns - ks)).length := by rw [← h17]; exact hi
    have := h18 i wl[i] (stL σ ks (ns - ks))[i] (List.getElem?_eq_getElem hi) (List.getElem?_eq_getElem hlen)
    exact (keep _ (Or.inr (Or.inr (Or.inl this.1)))).2.2.2.1 406
end SHX
