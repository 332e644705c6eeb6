/-! ===== the class's parser: where it stands ===== -/
/-- what rests while a text is read: cx 0 the parser, 1 the scanner, 2 3 4 its rows, 5 the tape, 6 the row of rules -/
def pS (G cx : Nat → Nat) (bf : Nat → Nat) (z c nr : Nat) (ra : Nat → Nat) (nm : Nat → Int64) (S : cs_S) : Prop :=
  (cs_k S (cx 0) = 7 ∧ cs_r S 604 (cx 0) = some (cx 1) ∧ cs_r S 600 (cx 0) = some (cx 6) ∧ cs_i S 601 (cx 0) = nI nr) ∧
  (cs_k S (cx 1) = 10 ∧ cs_r S 900 (cx 1) = some (cx 2) ∧ cs_r S 901 (cx 1) = some (cx 3) ∧ cs_r S 902 (cx 1) = some (cx 4) ∧ cs_r S 904 (cx 1) = some (cx 5)) ∧
  (cs_k S (cx 2) = 20 ∧ cs_n S (cx 2) = 2001) ∧ (cs_k S (cx 3) = 20 ∧ cs_n S (cx 3) = 2001) ∧ (cs_k S (cx 4) = 21 ∧ cs_n S (cx 4) = 2001) ∧ (cs_k S (cx 5) = 20 ∧ cs_n S (cx 5) = 2100) ∧ (cs_k S (cx 6) = 22 ∧ cs_n S (cx 6) = 12) ∧
  tR S (cx 2) (cx 3) (cx 4) z bf (c + 1) ∧ (∀ j, j < z → cs_ai S (cx 5) j = nI (bf j)) ∧ (∀ r, r < nr → cs_ar S (cx 6) r = some (ra r) ∧ cs_k S (ra r) = 9 ∧ cs_l S 801 (ra r) = nm r) ∧ (cs_k S (G 0) = 20 ∧ cs_n S (G 0) = 0)
/-- at token i -/
def pA (G cx : Nat → Nat) (bf : Nat → Nat) (z c nr : Nat) (ra : Nat → Nat) (nm : Nat → Int64) (i : Nat) (S : cs_S) : Prop := pS G cx bf z c nr ra nm S ∧ i ≤ c ∧ cs_i S 602 (cx 0) = 0 ∧ cs_i S 605 (cx 0) = nI i ∧ cs_i S 606 (cx 0) = nI (kt bf z i)
/-- behind a fault -/
def pQ (G cx : Nat → Nat) (bf : Nat → Nat) (z c nr : Nat) (ra : Nat → Nat) (nm : Nat → Int64) (fk fp : Int32) (S : cs_S) : Prop := pS G cx bf z c nr ra nm S ∧ (∃ i, i ≤ c ∧ cs_i S 605 (cx 0) = nI i) ∧ ¬ fk = 0 ∧ cs_i S 602 (cx 0) = fk ∧ cs_i S 603 (cx 0) = fp ∧ cs_i S 606 (cx 0) = 0
/-- what the parser changes of itself -/
def pE (pa : Nat) (s f a : Nat) : Prop := s = 0 ∧ a = pa ∧ (f = 602 ∨ f = 603 ∨ f = 605 ∨ f = 606)
section CPA
variable {G cx : Nat → Nat} {bf : Nat → Nat} {z c nr i x : Nat} {ra : Nat → Nat} {nm : Nat → Int64} {S S1 : cs_S} {fk fp : Int32} {post : cs_S → Prop} {E : Nat → Nat → Nat → Prop}
theorem pS.fx (h : pS G cx bf z c nr ra nm S) (hF : fX E S S1) (hE : ∀ s f a, E s f a → (s = 0 ∧ a = cx 0 ∧ f ≠ 601) ∨ ((∀ i, i ≤ 6 → a ≠ cx i) ∧ ∀ r, r < nr → a ≠ ra r)) : pS G cx bf z c nr ra nm S1 := by
  obtain ⟨⟨a1, a2, a3, a4⟩, ⟨b1, b2, b3, b4, b5⟩, ⟨c1, c2⟩, ⟨d1, d2⟩, ⟨e1, e2⟩, ⟨f1, f2⟩, ⟨g1, g2⟩, t, u, v, ⟨w1, w2⟩⟩ := h
  have n2 : ∀ s f i, i ≤ 6 → ¬ s = 0 → ¬ E s f (cx i) := fun s f i hi hs q => by
    rcases hE _ _ _ q with h | h
    · exact hs h.1
    · exact h.1 i hi rfl
  have n0 : ¬ E 0 601 (cx 0) := fun q => by
    rcases hE _ _ _ q with h | h
    · exact h.2.2 rfl
    · exact h.1 0 (by omega) rfl
  obtain ⟨k0, m0, i0, l0, r0, -, -, -⟩ := hF (cx 0) (by rw [a1]; decide)
  obtain ⟨k1, m1, i1, l1, r1, -, -, -⟩ := hF (cx 1) (by rw [b1]; decide)
  obtain ⟨k2, m2, -, -, -, y2, -, -⟩ := hF (cx 2) (by rw [c1]; decide)
  obtain ⟨k3, m3, -, -, -, y3, -, -⟩ := hF (cx 3) (by rw [d1]; decide)
  obtain ⟨k4, m4, -, -, -, -, y4, -⟩ := hF (cx 4) (by rw [e1]; decide)
  obtain ⟨k5, m5, -, -, -, y5, -, -⟩ := hF (cx 5) (by rw [f1]; decide)
  obtain ⟨k6, m6, -, -, -, -, -, y6⟩ := hF (cx 6) (by rw [g1]; decide)
  obtain ⟨kg, mg, -⟩ := hF (G 0) (by rw [w1]; decide)
  refine ⟨⟨k0.trans a1, (r0 604 (n2 2 604 0 (by omega) (by decide))).trans a2, (r0 600 (n2 2 600 0 (by omega) (by decide))).trans a3, (i0 601 n0).trans a4⟩, ⟨k1.trans b1, (r1 900 (n2 2 900 1 (by omega) (by decide))).trans b2, (r1 901 (n2 2 901 1 (by omega) (by decide))).trans b3, (r1 902 (n2 2 902 1 (by omega) (by decide))).trans b4, (r1 904 (n2 2 904 1 (by omega) (by decide))).trans b5⟩, ⟨k2.trans c1, m2.trans c2⟩, ⟨k3.trans d1, m3.trans d2⟩, ⟨k4.trans e1, m4.trans e2⟩, ⟨k5.trans f1, m5.trans f2⟩, ⟨k6.trans g1, m6.trans g2⟩, fun j hj => ?_, fun j hj => ?_, fun r hr => ?_, ⟨kg.trans w1, mg.trans w2⟩⟩
  · obtain ⟨t1, t2, t3⟩ := t j hj
    exact ⟨(y2 j (n2 3 j 2 (by omega) (by decide))).trans t1, (y3 j (n2 3 j 3 (by omega) (by decide))).trans t2, fun q => (y4 j (n2 4 j 4 (by omega) (by decide))).trans (t3 q)⟩
  · exact (y5 j (n2 3 j 5 (by omega) (by decide))).trans (u j hj)
  · obtain ⟨v1, v2, v3⟩ := v r hr
    obtain ⟨kr, -, -, lr, -⟩ := hF (ra r) (by rw [v2]; decide)
    exact ⟨(y6 r (n2 5 r 6 (by omega) (by decide))).trans v1, kr.trans v2, (lr 801 (fun q => by
      rcases hE _ _ _ q with h | h
      · exact absurd h.1 (by decide)
      · exact h.2 r hr rfl)).trans v3⟩
theorem pE.ok : ∀ s f a, pE (cx 0) s f a → (s = 0 ∧ a = cx 0 ∧ f ≠ 601) ∨ ((∀ i, i ≤ 6 → a ≠ cx i) ∧ ∀ r, r < nr → a ≠ ra r) := fun s f a h => Or.inl ⟨h.1, h.2.1, by have := h.2.2; omega⟩
theorem pA.fx (h : pA G cx bf z c nr ra nm i S) (hF : fX E S S1) (hE : ∀ s f a, E s f a → ((∀ i, i ≤ 6 → a ≠ cx i) ∧ ∀ r, r < nr → a ≠ ra r)) : pA G cx bf z c nr ra nm i S1 := by
  obtain ⟨h1, h2, h3, h4, h5⟩ := h
  have k := h1.1.1
  have n0 : ∀ f, ¬ E 0 f (cx 0) := fun f q => (hE _ _ _ q).1 0 (by omega) rfl
  obtain ⟨-, -, i0, -⟩ := hF (cx 0) (by rw [k]; decide)
  exact ⟨h1.fx hF (fun s f a q => Or.inr (hE s f a q)), h2, (i0 602 (n0 _)).trans h3, (i0 605 (n0 _)).trans h4, (i0 606 (n0 _)).trans h5⟩
theorem pQ.fx (h : pQ G cx bf z c nr ra nm fk fp S) (hF : fX E S S1) (hE : ∀ s f a, E s f a → ((∀ i, i ≤ 6 → a ≠ cx i) ∧ ∀ r, r < nr → a ≠ ra r)) : pQ G cx bf z c nr ra nm fk fp S1 := by
  obtain ⟨h1, ⟨i, h2, h2b⟩, h3, h4, h5, h6⟩ := h
  have k := h1.1.1
  have n0 : ∀ f, ¬ E 0 f (cx 0) := fun f q => (hE _ _ _ q).1 0 (by omega) rfl
  obtain ⟨-, -, i0, -⟩ := hF (cx 0) (by rw [k]; decide)
  exact ⟨h1.fx hF (fun s f a q => Or.inr (hE s f a q)), ⟨i, h2, (i0 605 (n0 _)).trans h2b⟩, h3, (i0 602 (n0 _)).trans h4, (i0 603 (n0 _)).trans h5, (i0 606 (n0 _)).trans h6⟩
/-- one step on -/
theorem c_step (ht : tC bf z c) (h : pA G cx bf z c nr ra nm i S) (hi : i < c) (hp : ∀ S1, pA G cx bf z c nr ra nm (i + 1) S1 → fX (pE (cx 0)) S S1 → post S1) : wp_X5_step post G S (cx 0) := by
  obtain ⟨h1, h2, h3, h4, h5⟩ := h
  obtain ⟨⟨a1, a2, a3, a4⟩, ⟨b1, b2, b3, b4, b5⟩, ⟨c1, c2⟩, hs⟩ := id h1
  have hK := ht.2.2.2.2 i hi
  have hK9 := ht.K39 h2
  have hc := ht.2.2.1
  have n1 : ¬ cs_i S 606 (cx 0) = 1 := fun q => by
    have := (nI_eq (b := 1) (by omega) (by decide)).mp (h5.symm.trans q)
    omega
  have n0 : ¬ cs_i S 606 (cx 0) = 0 := fun q => by
    have := (nI_eq (b := 0) (by omega) (by decide)).mp (h5.symm.trans q)
    omega
  refine ⟨a1, fun q => absurd h3 q, fun _ => ⟨fun q => absurd q n1, fun _ => ⟨fun q => absurd q n0, fun _ r18 e18 => ⟨cx 1, e18.trans a2, b1, fun r21 e21 => ⟨cx 2, e21.trans b2, c1, fun q => ?_, fun _ S24 e24 => ⟨by rw [e24]; exact a1, fun r26 e26 => ⟨cx 1, by rw [e26, e24]; exact a2, by rw [e24]; exact b1, fun r29 e29 => ⟨cx 2, by rw [e29, e24]; exact b2, by rw [e24]; exact c1, ?_, fun S32 e32 => ?_⟩⟩⟩⟩⟩⟩⟩⟩
  · rw [c2, h4, nI_1] at q
    exact absurd q (nI_ge (b := 2001) (by omega) (by decide))
  · have e5 : cs_i S24 605 (cx 0) = nI (i + 1) := by rw [e24, iui, if_pos ⟨rfl, rfl⟩, h4, nI_1]
    rw [e5, e24]
    show vp_in (nI (i + 1)) (cs_n S (cx 2))
    rw [c2]; exact nI_in (by omega) (by decide)
  · have e5 : cs_i S24 605 (cx 0) = nI (i + 1) := by rw [e24, iui, if_pos ⟨rfl, rfl⟩, h4, nI_1]
    have e6 : cs_ai S24 (cx 2) (nI (i + 1)).toNatClampNeg = nI (kt bf z (i + 1)) := by
      rw [nI_clamp (by omega), e24]
      exact (h1.2.2.2.2.2.2.2.1 (i + 1) (by omega)).1
    rw [e5, e6] at e32
    have hF : fX (pE (cx 0)) S S32 := by
      rw [e32, e24]
      exact (fX.rfl.ui (Or.inl ⟨rfl, rfl, by omega⟩)).ui (Or.inl ⟨rfl, rfl, by omega⟩)
    refine hp S32 ⟨h1.fx hF pE.ok, by omega, ?_, ?_, ?_⟩ hF
    · rw [e32, iui, if_neg (fun q => absurd q.1 (by decide)), e24, iui, if_neg (fun q => absurd q.1 (by decide))]; exact h3
    · rw [e32, iui, if_neg (fun q => absurd q.1 (by decide))]; exact e5
    · rw [e32, iui, if_pos ⟨rfl, rfl⟩]
/-- a fault -/
theorem c_fail (ht : tC bf z c) (h : pA G cx bf z c nr ra nm i S) {x : Int32} (hx : ¬ x = 0) (hp : ∀ S1, pQ G cx bf z c nr ra nm (if kt bf z i = 0 then 1 else x) (nI (min (qp bf z i) 2000)) S1 → fX (pE (cx 0)) S S1 → post S1) : wp_X5_fail post G S (cx 0) x := by
  obtain ⟨h1, h2, h3, h4, h5⟩ := h
  obtain ⟨⟨a1, a2, a3, a4⟩, ⟨b1, b2, b3, b4, b5⟩, -, ⟨d1, d2⟩, hs⟩ := id h1
  have hc := ht.2.2.1
  have hK9 := ht.K39 h2
  have key : ∀ y : Int32, y = (if kt bf z i = 0 then 1 else x) → w_X5_fail_20 post G S (cx 0) (some (cx 0)) y := by
    intro y hy
    have hy0 : ¬ y = 0 := by
      rw [hy]
      split
      · decide
      · exact hx
    refine ⟨cx 0, rfl, a1, fun S15 e15 => ⟨by rw [e15]; exact a1, fun r17 e17 => ⟨cx 1, by rw [e17, e15]; exact a2, by rw [e15]; exact b1, fun r20 e20 => ⟨cx 3, by rw [e20, e15]; exact b3, by rw [e15]; exact d1, ?_, fun S23 e23 => ⟨by rw [e23, e15]; exact a1, fun S25 e25 => ?_⟩⟩⟩⟩⟩
    · have e5 : cs_i S15 605 (cx 0) = nI i := by rw [e15, iui, if_neg (fun q => absurd q.1 (by decide))]; exact h4
      rw [e5, e15]
      show vp_in (nI i) (cs_n S (cx 3))
      rw [d2]; exact nI_in (by omega) (by decide)
    · have e5 : cs_i S15 605 (cx 0) = nI i := by rw [e15, iui, if_neg (fun q => absurd q.1 (by decide))]; exact h4
      have e6 : cs_ai S15 (cx 3) (nI i).toNatClampNeg = nI (min (qp bf z i) 2000) := by
        rw [nI_clamp (by omega), e15]
        exact (h1.2.2.2.2.2.2.2.1 i (by omega)).2.1
      rw [e5, e6] at e23
      have hF : fX (pE (cx 0)) S S25 := by
        rw [e25, e23, e15]
        exact ((fX.rfl.ui (Or.inl ⟨rfl, rfl, by omega⟩)).ui (Or.inl ⟨rfl, rfl, by omega⟩)).ui (Or.inl ⟨rfl, rfl, by omega⟩)
      rw [← hy] at hp
      refine hp S25 ⟨h1.fx hF pE.ok, ⟨i, h2, ?_⟩, hy0, ?_, ?_, ?_⟩ hF
      · rw [e25, iui, if_neg (fun q => absurd q.1 (by decide)), e23, iui, if_neg (fun q => absurd q.1 (by decide))]; exact e5
      · rw [e25, iui, if_neg (fun q => absurd q.1 (by decide)), e23, iui, if_neg (fun q => absurd q.1 (by decide)), e15, iui, if_pos ⟨rfl, rfl⟩]
      · rw [e25, iui, if_neg (fun q => absurd q.1 (by decide)), e23, iui, if_pos ⟨rfl, rfl⟩]
      · rw [e25, iui, if_pos ⟨rfl, rfl⟩]
  refine ⟨a1, fun q => absurd h3 q, fun _ => ⟨fun q => key x ?_, fun q => key 1 ?_⟩⟩
  · rw [if_neg (fun w => q (by rw [h5, w]; rfl))]
  · rw [h5] at q
    rw [if_pos ((nI_eq (b := 0) (by omega) (by decide)).mp q)]
/-- behind a fault nothing more is done -/
theorem d_fail (h : pQ G cx bf z c nr ra nm fk fp S) {x : Int32} (hp : post S) : wp_X5_fail post G S (cx 0) x := ⟨h.1.1.1, fun _ => hp, fun q => absurd (h.2.2.2.1.symm.trans q) h.2.2.1⟩
theorem d_step (h : pQ G cx bf z c nr ra nm fk fp S) (hp : post S) : wp_X5_step post G S (cx 0) := ⟨h.1.1.1, fun _ => hp, fun q => absurd (h.2.2.2.1.symm.trans q) h.2.2.1⟩
theorem d_skip (h : pQ G cx bf z c nr ra nm fk fp S) {x : Nat} (hx : 0 < x) (hx2 : x < 2 ^ 31) (hp : post S) : wp_X5_skip post G S (cx 0) (nI x) := ⟨h.1.1.1, fun _ => d_fail h hp, fun q => absurd (q.symm.trans h.2.2.2.2.2) (nI_ne0 hx hx2)⟩
theorem d_number {post : Int32 → cs_S → Prop} (h : pQ G cx bf z c nr ra nm fk fp S) {x y : Int32} (hp : post 0 S) : wp_X5_readNumber post G S (cx 0) x y := ⟨h.1.1.1, fun q => absurd (h.2.2.2.2.2.symm.trans q) (by decide), fun _ => d_fail h hp⟩
theorem d_name {post : Int64 → cs_S → Prop} (h : pQ G cx bf z c nr ra nm fk fp S) (hp : post 0 S) : wp_X5_readName post G S (cx 0) := ⟨h.1.1.1, fun q => absurd (h.2.2.2.2.2.symm.trans q) (by decide), fun _ => d_fail h hp⟩
/-- what must come next -/
theorem c_skip (ht : tC bf z c) (h : pA G cx bf z c nr ra nm i S) {x : Nat} (hx : 2 ≤ x) (hx2 : x ≤ 39) (hp : kt bf z i = x → ∀ S1, pA G cx bf z c nr ra nm (i + 1) S1 → fX (pE (cx 0)) S S1 → post S1) (hb : ¬ kt bf z i = x → ∀ S1, pQ G cx bf z c nr ra nm (if kt bf z i = 0 then 1 else 2) (nI (min (qp bf z i) 2000)) S1 → fX (pE (cx 0)) S S1 → post S1) : wp_X5_skip post G S (cx 0) (nI x) := by
  have hK9 := ht.K39 h.2.1
  refine ⟨h.1.1.1, fun q => c_fail ht h (by decide) (hb (fun w => q (by rw [h.2.2.2.2, w]))), fun q => ?_⟩
  have e := (nI_eq (by omega) (by omega)).mp (h.2.2.2.2.symm.trans q)
  exact c_step ht h (ht.lt h.2.1 (by omega)) (hp e)
theorem c_name {post : Int64 → cs_S → Prop} (ht : tC bf z c) (h : pA G cx bf z c nr ra nm i S) (hp : kt bf z i = 2 → ∀ S1, pA G cx bf z c nr ra nm (i + 1) S1 → fX (pE (cx 0)) S S1 → post (at_ bf z i).2.2.1 S1) (hb : ¬ kt bf z i = 2 → ∀ S1, pQ G cx bf z c nr ra nm (if kt bf z i = 0 then 1 else 2) (nI (min (qp bf z i) 2000)) S1 → fX (pE (cx 0)) S S1 → post 0 S1) : wp_X5_readName post G S (cx 0) := by
  obtain ⟨⟨a1, a2, a3, a4⟩, ⟨b1, b2, b3, b4, b5⟩, -, -, ⟨e1, e2⟩, -, -, hT, -⟩ := id h.1
  have hK9 := ht.K39 h.2.1
  have hc := ht.2.2.1
  refine ⟨a1, fun q r11 e11 => ⟨cx 1, e11.trans a2, b1, fun r14 e14 => ⟨cx 4, e14.trans b4, e1, ?_, ?_⟩⟩, fun q => c_fail ht h (by decide) (hb (fun w => q (by rw [h.2.2.2.2, w]; rfl)))⟩
  · rw [h.2.2.2.1, e2]; exact nI_in (by have := h.2.1; omega) (by decide)
  · have e := (nI_eq (b := 2) (by omega) (by decide)).mp (h.2.2.2.2.symm.trans q)
    have hi := ht.lt h.2.1 (by omega)
    have eA : cs_al S (cx 4) (cs_i S 605 (cx 0)).toNatClampNeg = (at_ bf z i).2.2.1 := by
      rw [h.2.2.2.1, nI_clamp (by omega)]
      exact (hT i (by omega)).2.2 (by show 2 ≤ kt bf z i; omega)
    rw [eA]
    exact c_step ht h hi (hp e)
theorem c_number {post : Int32 → cs_S → Prop} (ht : tC bf z c) (h : pA G cx bf z c nr ra nm i S) {x y : Int32} (hp : kt bf z i = 3 → ¬ (at_ bf z i).2.2.1.toInt32 < x → (at_ bf z i).2.2.1.toInt32 ≤ y → ∀ S1, pA G cx bf z c nr ra nm (i + 1) S1 → fX (pE (cx 0)) S S1 → post (at_ bf z i).2.2.1.toInt32 S1) (hb : ∀ k : Int32, (¬ kt bf z i = 3 ∧ k = (if kt bf z i = 0 then 1 else 2)) ∨ (kt bf z i = 3 ∧ ((at_ bf z i).2.2.1.toInt32 < x ∨ ¬ (at_ bf z i).2.2.1.toInt32 ≤ y) ∧ k = 3) → ∀ S1, pQ G cx bf z c nr ra nm k (nI (min (qp bf z i) 2000)) S1 → fX (pE (cx 0)) S S1 → post 0 S1) : wp_X5_readNumber post G S (cx 0) x y := by
  obtain ⟨⟨a1, a2, a3, a4⟩, ⟨b1, b2, b3, b4, b5⟩, -, -, ⟨e1, e2⟩, -, -, hT, -⟩ := id h.1
  have hK9 := ht.K39 h.2.1
  have hc := ht.2.2.1
  refine ⟨a1, fun q r11 e11 => ⟨cx 1, e11.trans a2, b1, fun r14 e14 => ⟨cx 4, e14.trans b4, e1, ?_, ?_⟩⟩, fun q => c_fail ht h (by decide) (hb _ (Or.inl ⟨fun w => q (by rw [h.2.2.2.2, w]; rfl), rfl⟩))⟩
  · rw [h.2.2.2.1, e2]; exact nI_in (by have := h.2.1; omega) (by decide)
  · have e := (nI_eq (b := 3) (by omega) (by decide)).mp (h.2.2.2.2.symm.trans q)
    have hi := ht.lt h.2.1 (by omega)
    have eA : cs_al S (cx 4) (cs_i S 605 (cx 0)).toNatClampNeg = (at_ bf z i).2.2.1 := by
      rw [h.2.2.2.1, nI_clamp (by omega)]
      exact (hT i (by omega)).2.2 (by show 2 ≤ kt bf z i; omega)
    rw [eA]
    have bad : ((at_ bf z i).2.2.1.toInt32 < x ∨ ¬ (at_ bf z i).2.2.1.toInt32 ≤ y) → w_X5_readNumber_39 post G S (cx 0) := by
      intro w
      refine ⟨a1, c_fail ht h (by decide) ?_⟩
      rw [if_neg (by omega)]
      exact hb 3 (Or.inr ⟨e, w, rfl⟩)
    exact ⟨fun w => bad (Or.inl w), fun w1 => ⟨fun w2 => c_step ht h hi (hp e w1 w2), fun w => bad (Or.inr w)⟩⟩
/-- a rule of that name, of those read -/
theorem c_rulen {post : Int32 → cs_S → Prop} (h : pS G cx bf z c nr ra nm S) (hnr : nr ≤ 12) {A : Int64} (hy : ∀ r, r < nr → nm r = A → (∀ r', r' < r → ¬ nm r' = A) → post (nI r) S) (hn : (∀ r, r < nr → ¬ nm r = A) → post (-1) S) : wp_X5_ruleNamed post G S (cx 0) A := by
  obtain ⟨⟨a1, a2, a3, a4⟩, -, -, -, -, -, ⟨g1, g2⟩, -, -, v, -⟩ := h
  have loop : ∀ d r, r + d = nr → (∀ r', r' < r → ¬ nm r' = A) → w_X5_ruleNamed_2 post G (d + 1) S (cx 0) A (nI r) := by
    intro d
    induction d with
    | zero =>
      intro r hr hl
      have : r = nr := by omega
      subst this
      exact ⟨a1, fun _ => hn hl, fun q => absurd (by rw [a4]; exact nI_le (Nat.le_refl _) (by omega)) q⟩
    | succ d ih =>
      intro r hr hl
      obtain ⟨v1, v2, v3⟩ := v r (by omega)
      refine ⟨a1, fun q => ?_, fun _ r12 e12 => ⟨cx 6, e12.trans a3, g1, fun q => ?_, fun _ r15 e15 => ⟨cx 6, e15.trans a3, g1, by rw [g2]; exact nI_in (by omega) (by decide), fun r18 e18 => ⟨ra r, by rw [e18, nI_clamp (by omega)]; exact v1, v2, fun q => ?_, fun q => ?_⟩⟩⟩⟩
      · rw [a4] at q; exact absurd q (nI_ge (by omega) (by omega))
      · rw [g2] at q; exact absurd q (nI_ge (b := 12) (by omega) (by decide))
      · rw [v3, lg_eq] at q
        rw [nI_1]
        refine ih (r + 1) (by omega) (fun r' hr' => ?_)
        by_cases e : r' = r
        · rw [e]; exact q
        · exact hl r' (by omega)
      · rw [v3, lg_eq] at q
        exact hy r (by omega) q hl
  exact ⟨_, loop nr 0 (by omega) (fun r' hr' => absurd hr' (Nat.not_lt_zero _))⟩
end CPA
