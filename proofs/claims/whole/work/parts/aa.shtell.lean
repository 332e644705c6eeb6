/-! ===== what rules share, where something is told ===== -/
def SHR0 (S : cs_S) (σ : rf_S) (wa rr lt tl bk nr : Nat) (ra n : Nat → Nat) (te ne na ns ks now : Nat) (pr tm : Nat → Nat) (ev : Nat → Nat) (ko : Nat → Nat → Nat) (Ow : Nat → Nat → Prop) (al : Nat → Nat) (wl : List Nat) : Prop :=
  (cs_k S wa = 12 ∧ cs_r S 1100 wa = some rr ∧ cs_k S rr = 22 ∧ (nr ≤ cs_n S rr ∧ cs_n S rr ≤ 12) ∧ cs_i S 1101 wa = nI nr ∧ cs_r S 1102 wa = some lt ∧ cs_k S lt = 23 ∧ cs_n S lt = 64 ∧ cs_r S 1103 wa = some tl ∧ ∀ r, r < nr → cs_ar S rr r = some (ra r)) ∧
  (cs_i S 1104 wa = nI ne ∧ cs_i S 1105 wa = σ.1 23 ∧ cs_i S 1108 wa = nI now ∧ cs_i S 1109 wa = σ.1 22) ∧
  (∀ o, o < ne → EV S σ te tm ev nr Ow o) ∧ (∀ o, o < ne → ne ≤ o + 64 → cs_ar S lt (o % 64) = some (ev o)) ∧
  (∀ i, i < min na 500 → cs_k S (al i) = 2 ∧ AL S σ nr ko al pr i) ∧ (∀ r, r < nr → ¬ Ow r lt) ∧
  (wl.length = (stL σ ks (ns - ks)).length ∧ (∀ (i q : Nat) (re : Nat × Nat), wl[i]? = some q → (stL σ ks (ns - ks))[i]? = some re → WV S σ te bk nr now n Ow q re.1 re.2) ∧ (∀ i j q : Nat, wl[i]? = some q → wl[j]? = some q → i = j) ∧ ∀ o, o < ne → ¬ ev o ∈ wl)
section SH0
variable {G : Nat → Nat} {S S' : cs_S} {σ : rf_S} {wa rr lt tl bk nr te ne na ns ks now ed : Nat} {ra n pr tm ev al : Nat → Nat} {ko : Nat → Nat → Nat} {Ow : Nat → Nat → Prop} {wl : List Nat}
theorem SHR.z (h : SHR G S σ wa rr lt tl bk nr ra n te ne na ns ks now pr tm ev ko Ow al ed wl) : SHR0 S σ wa rr lt tl bk nr ra n te ne na ns ks now pr tm ev ko Ow al wl := by
  obtain ⟨h1, ⟨i1, i2, i3, i4, i5, i6⟩, h11, h12, ⟨h13, h14⟩, h15, h16, h17, h18, h19, h20, h21⟩ := h
  exact ⟨h1, ⟨i1, i2, i5, i6⟩, h11, h12, fun i hi => ⟨(h13.2.2.2.2.2.2 i hi).2, h14 i hi⟩, h15, h17, h18, h19, h21⟩
theorem SHR0.mk (h : SHR0 S σ wa rr lt tl bk nr ra n te ne na ns ks now pr tm ev ko Ow al wl) (h6 : cs_i S 1106 wa = nI na) (h7 : cs_i S 1107 wa = σ.1 79) (ht : tlW G S tl ed (min na 500) al) (hc : chn S 406 wl (cs_r S 1110 wa)) (hl : ∀ q, wl.getLast? = some q → cs_r S 1111 wa = some q) : SHR G S σ wa rr lt tl bk nr ra n te ne na ns ks now pr tm ev ko Ow al ed wl := by
  obtain ⟨h1, ⟨i1, i2, i5, i6⟩, h11, h12, h14, h15, h17, h18, h19, h21⟩ := h
  exact ⟨h1, ⟨i1, i2, h6, h7, i5, i6⟩, h11, h12, ⟨ht, fun i hi => (h14 i hi).2⟩, h15, hc, h17, h18, h19, hl, h21⟩
theorem SHR0.fx {E : Nat → Nat → Nat → Prop} {wt1 : Nat} (h : SHR0 S σ wa rr lt tl bk nr ra n te ne na ns ks now pr tm ev ko Ow al wl) (hs : sh S wt1 E) (hwk : cs_k S wt1 = 26) (hF : fX E S S') (hE : ∀ s f a, E s f a → cs_k S a = 4 ∨ cs_k S a = 6 ∨ cs_k S a = 9 ∨ cs_k S a = 25 ∨ a = wt1 ∨ (cs_k S a = 23 ∧ a ≠ lt) ∨ (a = wa ∧ (f = 1106 ∨ f = 1107 ∨ f = 1110 ∨ f = 1111)) ∨ cs_k S a = 1 ∨ cs_k S a = 27 ∨ (cs_k S a = 5 ∧ f = 406)) (hne : ∀ vs, (∀ r, r < nr → ¬ Ow r vs) → vs ≠ wt1) : SHR0 S' σ wa rr lt tl bk nr ra n te ne na ns ks now pr tm ev ko Ow al wl := by
  obtain ⟨⟨h1, h2, h3, h4, h5, h6, h7, h8, h9, h10⟩, ⟨i1, i2, i5, i6⟩, h11, h12, h14, h15, h17, h18, h19, h21⟩ := h
  have hwt : ∀ a, cs_k S a ≠ 26 → a ≠ wt1 := fun a ha e => by rw [e] at ha; exact ha hwk
  have hnow : ∀ s f, E s f wa → f = 1106 ∨ f = 1107 ∨ f = 1110 ∨ f = 1111 := fun s f z => by
    have z' := hE s f wa z
    have := hwt wa (by omega)
    omega
  have hrr : ∀ s f, ¬ E s f rr := fun s f z => by
    have z' := hE s f rr z
    have := hwt rr (by omega)
    have : rr ≠ wa := fun e => by rw [e, h1] at h3; cases h3
    omega
  have hlt : ∀ s f, ¬ E s f lt := fun s f z => by
    have z' := hE s f lt z
    have := hwt lt (by omega)
    have : lt ≠ wa := fun e => by rw [e, h1] at h7; cases h7
    omega
  obtain ⟨w1, w2, w3, -, w4, -⟩ := hF wa (by omega)
  obtain ⟨r1, r2, -, -, -, -, -, r5⟩ := hF rr (by omega)
  obtain ⟨l1, l2, -, -, -, -, -, l5⟩ := hF lt (by omega)
  have wi : ∀ f, f ≠ 1106 → f ≠ 1107 → f ≠ 1110 → f ≠ 1111 → cs_i S' f wa = cs_i S f wa := fun f z1 z2 z3 z4 => w3 f (fun z => by have := hnow _ _ z; omega)
  have wr : ∀ f, f ≠ 1106 → f ≠ 1107 → f ≠ 1110 → f ≠ 1111 → cs_r S' f wa = cs_r S f wa := fun f z1 z2 z3 z4 => w4 f (fun z => by have := hnow _ _ z; omega)
  refine ⟨⟨w1.trans h1, (wr _ (by decide) (by decide) (by decide) (by decide)).trans h2, r1.trans h3, by rw [r2]; exact h4, (wi _ (by decide) (by decide) (by decide) (by decide)).trans h5, (wr _ (by decide) (by decide) (by decide) (by decide)).trans h6, l1.trans h7, l2.trans h8, (wr _ (by decide) (by decide) (by decide) (by decide)).trans h9, fun r hr => by rw [r5 _ (hrr _ _)]; exact h10 r hr⟩, ⟨(wi _ (by decide) (by decide) (by decide) (by decide)).trans i1, (wi _ (by decide) (by decide) (by decide) (by decide)).trans i2, (wi _ (by decide) (by decide) (by decide) (by decide)).trans i5, (wi _ (by decide) (by decide) (by decide) (by decide)).trans i6⟩, fun o ho => (h11 o ho).fx hs hwk hF (fun s f a z y => ?_) hne, fun o ho hl => by rw [l5 _ (hlt _ _)]; exact h12 o ho hl, fun i hi => ?_, h15, h17, fun i q' re z1 z2 => (h18 i q' re z1 z2).fx hs hwk hF (fun s f a z y => by
    have z' := hE s f a z
    have := hwt a (by omega)
    have : a ≠ wa := fun e => by rw [e, h1] at y; cases y
    omega) hne, h19, h21⟩
  · have z' := hE s f a z
    have n1 := hwt a (by omega)
    have n2 : a ≠ wa := fun e => by rw [e, h1] at y; cases y
    omega
  · obtain ⟨ka, r, e, f, z1, z2, z3, z4, z5, z6, z7, z8, z9, z10, z11, z12⟩ := h14 i hi
    obtain ⟨a1, -, a3, -, a5, -⟩ := hF (al i) (by omega)
    have hno : ∀ s f, ¬ E s f (al i) := fun s f z => by
      have z' := hE s f _ z
      have n1 := hwt (al i) (by omega)
      have n2 : al i ≠ wa := fun e => by rw [e, h1] at ka; cases ka
      omega
    exact ⟨a1.trans ka, r, e, f, z1, z2, z3, z4, z5, z6, (a3 _ (hno _ _)).trans z7, (a3 _ (hno _ _)).trans z8, (a3 _ (hno _ _)).trans z9, (a3 _ (hno _ _)).trans z10, (a3 _ (hno _ _)).trans z11, (a5 _ (hno _ _)).trans z12⟩
end SH0
section SHT
variable {G : Nat → Nat} {S S' : cs_S} {σ : rf_S} {wa rr lt tl bk nr te ne na ns ks now ed : Nat} {ra n pr tm ev al : Nat → Nat} {ko : Nat → Nat → Nat} {Ow : Nat → Nat → Prop} {wl : List Nat}
/-- hushed -/
theorem SHR.hush {wt1 r a kk hh : Nat} {v1 v2 : Int32} (h : SHR G S σ wa rr lt tl bk nr ra n te ne na ns ks now pr tm ev ko Ow al ed wl) (hwk : cs_k S wt1 = 26) (hra : cs_k S (ra r) = 9) (ha : cs_k S a = 6) (hne : ∀ vs, (∀ r, r < nr → ¬ Ow r vs) → vs ≠ wt1) (hS' : S' = cs_ui (cs_ui (cs_ui S 812 (ra r) v1) 504 a v2) 1107 wa (cs_i S 1107 wa + 1)) : SHR G S' (fnH σ r kk hh) wa rr lt tl bk nr ra n te ne na ns ks now pr tm ev ko Ow al ed wl := by
  obtain ⟨f1, f2, f3, f4, f5⟩ := fnH_r (σ := σ) (r := r) (kk := kk) (h := hh)
  have hE : eV σ (fnH σ r kk hh) := ⟨fun k hk => f1 k (by omega) (by omega), rfl⟩
  have hwa : cs_k S wa = 12 := h.1.1
  have h7 : cs_i S 1107 wa = σ.1 79 := h.2.1.2.2.2.1
  have hF : fX (fun s f x => s = 0 ∧ ((x = ra r ∧ f = 812) ∨ (x = a ∧ f = 504) ∨ (x = wa ∧ f = 1107))) S S' := by
    rw [hS']
    exact ((fX.rfl.ui (Or.inl ⟨rfl, Or.inl ⟨rfl, rfl⟩⟩)).ui (Or.inl ⟨rfl, Or.inr (Or.inl ⟨rfl, rfl⟩)⟩)).ui (Or.inl ⟨rfl, Or.inr (Or.inr ⟨rfl, rfl⟩)⟩)
  have hs : sh S wt1 (fun s f x => s = 0 ∧ ((x = ra r ∧ f = 812) ∨ (x = a ∧ f = 504) ∨ (x = wa ∧ f = 1107))) := fun s f x _ z => by
    refine Or.inr ?_
    rcases z.2 with ⟨rfl, rfl⟩ | ⟨rfl, rfl⟩ | ⟨rfl, rfl⟩
    · exact ⟨by omega, by omega, by omega, by omega, by omega, by omega, fun y => by omega, fun y => by omega, fun y => by omega⟩
    · exact ⟨by omega, by omega, by omega, by omega, by omega, by omega, fun y => by omega, fun y => by omega, fun y => by omega⟩
    · exact ⟨by omega, by omega, by omega, by omega, by omega, by omega, fun y => by omega, fun y => by omega, fun y => by omega⟩
  -- the reference first
  have h1 : SHR0 S' σ wa rr lt tl bk nr ra n te ne na ns ks now pr tm ev ko Ow al wl := h.z.fx hs hwk hF (fun s f x z => by
    rcases z.2 with ⟨rfl, rfl⟩ | ⟨rfl, rfl⟩ | ⟨rfl, rfl⟩
    · exact Or.inr (Or.inr (Or.inl hra))
    · exact Or.inr (Or.inl ha)
    · exact Or.inr (Or.inr (Or.inr (Or.inr (Or.inr (Or.inr (Or.inl ⟨rfl, by omega⟩))))))) hne
  obtain ⟨g1, ⟨i1, i2, i3, i4, i5, i6⟩, g11, g12, ⟨g13, g14⟩, g15, g16, g17, g18, g19, g20, g21⟩ := id h
  have rS : ∀ f x, cs_r S' f x = cs_r S f x := fun f x => by rw [hS']; rfl
  have ht : tlW G S' tl ed (min na 500) al := g13.fx hF (fun s f x z => ⟨fun y => (by
    have k1 := g13.1
    rcases z.2 with ⟨w, -⟩ | ⟨w, -⟩ | ⟨w, -⟩
    · rw [← y, w, hra] at k1; cases k1
    · rw [← y, w, ha] at k1; cases k1
    · rw [← y, w, hwa] at k1; cases k1), fun _ y => (by rw [z.1] at y; cases y)⟩)
  have nwa : wa ≠ a := fun e => by rw [e, ha] at hwa; cases hwa
  have es : stL (fnH σ r kk hh) ks (ns - ks) = stL σ ks (ns - ks) := stL_cong (f1 10 (by decide) (by decide)) _ _ (fun j _ _ => ⟨by rw [f1 81 (by decide) (by decide)], by rw [f1 82 (by decide) (by decide)]⟩)
  obtain ⟨k1, ⟨j1, j2, j5, j6⟩, k11, k12, k14, k15, k17, k18, k19, k21⟩ := h1
  refine ⟨k1, ⟨j1, by rw [f4 23 (by decide)]; exact j2, ?_, ?_, j5, by rw [f4 22 (by decide)]; exact j6⟩, fun o ho => (k11 o ho).on hE (fun _ _ _ _ z => z), k12, ⟨ht, fun i hi => ?_⟩, k15, ?_, by rw [es]; exact k17, fun i q re z1 z2 => (k18 i q re z1 (by rw [← es]; exact z2)).on hE (fun _ _ _ _ z => z), k19, fun q hq => by rw [rS]; exact g20 q hq, k21⟩
  · rw [hS', iui, if_neg (fun z => absurd z.1 (by decide)), iui, if_neg (fun z => absurd z.1 (by decide)), iui, if_neg (fun z => absurd z.1 (by decide))]; exact i3
  · rw [hS', iui, if_pos ⟨rfl, rfl⟩, f5, i4]
  · obtain ⟨-, r', e, f, z1, z2, z3, z4, z5, z6, z7, z8, z9, z10, z11, z12⟩ := k14 i hi
    exact ⟨r', e, f, z1, by rw [f1 73 (by decide) (by decide)]; exact z2, z3, by rw [f1 75 (by decide) (by decide)]; exact z4, by rw [f1 63 (by decide) (by decide)]; exact z5, ⟨z6.1, by rw [f1 63 (by decide) (by decide)]; exact z6.2⟩, z7, by rw [f1 77 (by decide) (by decide)]; exact z8, by rw [f1 74 (by decide) (by decide)]; exact z9, z10, by rw [f1 76 (by decide) (by decide)]; exact z11, z12⟩
  · rw [rS]
    exact chn.fx _ _ g16 (fun x _ => rS 406 x)
end SHT
