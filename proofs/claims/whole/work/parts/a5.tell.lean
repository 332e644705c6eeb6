/-! ===== the class: tell ===== -/
/-- told: but for the event that is made -/
def tdD (G : Nat → Nat) (S S1 : cs_S) (wa ra a tl ed na : Nat) (al : Nat → Nat) (t st : Int32) (q0 : Nat) : Prop :=
  fX (fun s f x => (s = 0 ∧ ((x = ra ∧ f = 812) ∨ (x = a ∧ (f = 503 ∨ f = 504)) ∨ (x = wa ∧ f = 1106))) ∨ x = tl ∨ (s = 5 ∧ x = ed ∧ 0 < na)) S S1 ∧
  cs_i S1 812 ra = cs_i S 812 ra + 1 ∧ cs_i S1 503 a = t ∧ cs_i S1 504 a = 0 ∧ cs_i S1 1106 wa = cs_i S 1106 wa + 1 ∧
  ((500 ≤ na ∧ tlW G S1 tl ed 500 al) ∨ (na < 500 ∧ ∃ ed' qa, (ed' = ed ∨ cs_k S ed' = 0) ∧ cs_k S qa = 0 ∧ tlW G S1 tl ed' (na + 1) (prU al na qa) ∧ cs_i S1 100 qa = cs_i S 800 ra ∧ cs_i S1 101 qa = t ∧ cs_i S1 102 qa = st ∧ cs_i S1 103 qa = cs_i S 405 q0 ∧ cs_i S1 104 qa = cs_i S 504 a ∧ cs_r S1 105 qa = some a))
theorem tlW.fx {G : Nat → Nat} {S S' : cs_S} {tl ed na : Nat} {al : Nat → Nat} {E : Nat → Nat → Nat → Prop} (h : tlW G S tl ed na al) (hF : fX E S S') (hE : ∀ s f a, E s f a → a ≠ tl ∧ (a = ed → s ≠ 5)) : tlW G S' tl ed na al := by
  obtain ⟨h1, h2, h3, h4, h5, h6, h7⟩ := h
  obtain ⟨a1, a2, a3, -, a5, -⟩ := hF tl (by omega)
  obtain ⟨b1, b2, -, -, -, -, -, b8⟩ := hF ed (by omega)
  refine ⟨a1.trans h1, (a5 1 (fun z => (hE _ _ _ z).1 rfl)).trans h2, b1.trans h3, b2.trans h4, (a3 2 (fun z => (hE _ _ _ z).1 rfl)).trans h5, h6, fun i hi => ⟨?_, ?_⟩⟩
  · rw [b8 i (fun z => (hE _ _ _ z).2 rfl rfl)]; exact (h7 i hi).1
  · have := (h7 i hi).2
    exact (hF _ (by omega)).1.trans this
section CTL
variable {G : Nat → Nat} {S : cs_S} {wa ra a tl ed na n q0 by0 kv mc ms : Nat} {al : Nat → Nat} {t st : Int32} {post : cs_S → Prop}
theorem ctl_93 {S1 : cs_S} {u v : Nat} {T : cs_S → Prop} (hu : u ≤ mc) (hv : v ≤ ms) (hwa : cs_k S1 wa = 12) (ha : cs_k S1 a = 6) (hq0 : cs_k S1 q0 = 5) (hra : cs_k S1 ra = 9)
    (hmk : cs_i S1 402 q0 = -1 → u + 3 ≤ mc ∧ v + (2 * n + 7) ≤ ms) (h809 : cs_i S1 809 ra = nI n) (h808 : cs_r S1 808 ra = some by0) (hby : cs_k S1 by0 = 21) (hbn : cs_n S1 by0 = 3) (h500 : cs_r S1 500 a = some kv) (hkv : cs_k S1 kv = 26) (hkn : cs_n S1 kv = n) (hrow : ∀ j, j < n → ∃ va, cs_ar S1 kv j = some va ∧ cs_k S1 va = 11) (hn3 : n ≤ 3) (hd : ∀ i j, i < n → j < n → cs_al S1 by0 i = cs_al S1 by0 j → i = j) (hz : ∀ z, cs_r S1 1110 wa ≠ none → cs_r S1 1111 wa = some z → cs_k S1 z = 5)
    (hp : ∀ S2, S2 = cs_ui (cs_ui (cs_ui S1 1106 wa (cs_i S1 1106 wa + 1)) 504 a 0) 503 a t → (¬ cs_i S1 402 q0 = -1 → post S2) ∧ (cs_i S1 402 q0 = -1 → ∀ S' q nm vs π, mkD S2 S' wa ra q nm vs n by0 kv t π → post S')) : w_X10_tell_93 post G mc ms S1 u v wa (some ra) (some a) t (some q0) := by
  refine ⟨hu, hv, hwa, fun S37 e37 => ⟨a, rfl, by rw [e37]; exact ha, fun S40 e40 => ⟨by rw [e40, e37]; exact ha, fun S42 e42 => ?_⟩⟩⟩
  subst e37
  subst e40
  have hpp := hp S42 e42
  subst e42
  have e402 : cs_i (cs_ui (cs_ui (cs_ui S1 1106 wa (cs_i S1 1106 wa + 1)) 504 a 0) 503 a t) 402 q0 = cs_i S1 402 q0 := by
    rw [iui, if_neg (fun z => absurd z.1 (by decide)), iui, if_neg (fun z => absurd z.1 (by decide)), iui, if_neg (fun z => absurd z.1 (by decide))]
  refine ⟨q0, rfl, hq0, fun z => ⟨hu, hv, hpp.1 (by rw [← e402]; exact z)⟩, fun z => ?_⟩
  rw [e402] at z
  obtain ⟨c1, c2⟩ := hmk z
  refine ⟨hwa, 3, 2 * n + 7, c1, c2, cmk (by0 := by0) (kv := kv) (n := n) hwa (Nat.le_refl _) (Nat.le_refl _) hra ?_ h808 hby hbn ha h500 hkv hkn hrow hn3 hd hz (fun S' q nm vs π hm => ⟨c1, c2, hpp.2 z S' q nm vs π hm⟩)⟩
  rw [iui, if_neg (fun z => absurd z.1 (by decide)), iui, if_neg (fun z => absurd z.1 (by decide)), iui, if_neg (fun z => absurd z.1 (by decide))]; exact h809
theorem ctl (hwa : cs_k S wa = 12) (ha : cs_k S a = 6) (hq0 : cs_k S q0 = 5) (hra : cs_k S ra = 9) (h1103 : cs_r S 1103 wa = some tl) (htl : tlW G S tl ed (min na 500) al) (h809 : cs_i S 809 ra = nI n) (h808 : cs_r S 808 ra = some by0) (hby : cs_k S by0 = 21) (hbn : cs_n S by0 = 3) (h500 : cs_r S 500 a = some kv) (hkv : cs_k S kv = 26) (hkn : cs_n S kv = n) (hrow : ∀ j, j < n → ∃ va, cs_ar S kv j = some va ∧ cs_k S va = 11) (hn3 : n ≤ 3) (hd : ∀ i j, i < n → j < n → cs_al S by0 i = cs_al S by0 j → i = j) (hz : ∀ z, cs_r S 1110 wa ≠ none → cs_r S 1111 wa = some z → cs_k S z = 5)
    (hc : ¬ (¬ cs_i S 503 a = -1 ∧ ¬ cs_i S 503 a ≤ t - cs_i S 811 ra) → (if na < 500 then 1 + gC na else 0) + (if cs_i S 402 q0 = -1 then 3 else 0) ≤ mc ∧ (if na < 500 then 6 + gS na else 0) + (if cs_i S 402 q0 = -1 then 2 * n + 7 else 0) ≤ ms)
    (hH : ¬ cs_i S 503 a = -1 → ¬ cs_i S 503 a ≤ t - cs_i S 811 ra → post (cs_ui (cs_ui (cs_ui S 812 ra (cs_i S 812 ra + 1)) 504 a (cs_i S 504 a + 1)) 1107 wa (cs_i S 1107 wa + 1)))
    (hT : ¬ (¬ cs_i S 503 a = -1 ∧ ¬ cs_i S 503 a ≤ t - cs_i S 811 ra) → ∀ S2, tdD G S S2 wa ra a tl ed na al t st q0 → (¬ cs_i S 402 q0 = -1 → post S2) ∧ (cs_i S 402 q0 = -1 → ∀ S' q nm vs π, mkD S2 S' wa ra q nm vs n by0 kv t π → post S')) : wp_X10_tell post G mc ms S wa (some ra) (some a) t (some q0) st := by
  have nra : a ≠ ra := fun e => by rw [e, hra] at ha; cases ha
  have nwa : a ≠ wa := fun e => by rw [e, hwa] at ha; cases ha
  have nrw : ra ≠ wa := fun e => by rw [e, hwa] at hra; cases hra
  have ktl : cs_k S tl = 1 := htl.1
  have ked : cs_k S ed = 27 := htl.2.2.1
  refine ⟨ra, rfl, hra, fun S66 e66 => ⟨a, rfl, by rw [e66]; exact ha, ?_⟩⟩
  have i66 : ∀ f x, ¬ (f = 812 ∧ x = ra) → cs_i S66 f x = cs_i S f x := fun f x hx => by rw [e66, iui, if_neg hx]
  have k66 : ∀ x, cs_k S66 x = cs_k S x := fun x => by rw [e66]; rfl
  have n66 : ∀ x, cs_n S66 x = cs_n S x := fun x => by rw [e66]; rfl
  have r66 : ∀ f x, cs_r S66 f x = cs_r S f x := fun f x => by rw [e66]; rfl
  have l66 : ∀ x j, cs_al S66 x j = cs_al S x j := fun x j => by rw [e66]; rfl
  have a66 : ∀ x j, cs_ar S66 x j = cs_ar S x j := fun x j => by rw [e66]; rfl
  have e503 : cs_i S66 503 a = cs_i S 503 a := i66 503 a (fun z => absurd z.1 (by decide))
  have e811 : cs_i S66 811 ra = cs_i S 811 ra := i66 811 ra (fun z => absurd z.1 (by decide))
  have hF66 : fX (fun s f x => (s = 0 ∧ ((x = ra ∧ f = 812) ∨ (x = a ∧ (f = 503 ∨ f = 504)) ∨ (x = wa ∧ f = 1106))) ∨ x = tl ∨ (s = 5 ∧ x = ed ∧ 0 < na)) S S66 := by
    rw [e66]; exact fX.rfl.ui (Or.inl (Or.inl ⟨rfl, Or.inl ⟨rfl, rfl⟩⟩))
  -- the end, from a state whose list is as it will be
  have fin : ¬ (¬ cs_i S 503 a = -1 ∧ ¬ cs_i S 503 a ≤ t - cs_i S 811 ra) → ∀ S1 u v, u + (if cs_i S 402 q0 = -1 then 3 else 0) ≤ mc → v + (if cs_i S 402 q0 = -1 then 2 * n + 7 else 0) ≤ ms → fX (fun s f x => x = tl ∨ (s = 5 ∧ x = ed ∧ 0 < na)) S66 S1 → ((500 ≤ na ∧ tlW G S1 tl ed 500 al) ∨ (na < 500 ∧ ∃ ed' qa, (ed' = ed ∨ cs_k S ed' = 0) ∧ cs_k S qa = 0 ∧ cs_k S1 qa = 2 ∧ tlW G S1 tl ed' (na + 1) (prU al na qa) ∧ cs_i S1 100 qa = cs_i S 800 ra ∧ cs_i S1 101 qa = t ∧ cs_i S1 102 qa = st ∧ cs_i S1 103 qa = cs_i S 405 q0 ∧ cs_i S1 104 qa = cs_i S 504 a ∧ cs_r S1 105 qa = some a)) → w_X10_tell_93 post G mc ms S1 u v wa (some ra) (some a) t (some q0) := by
    intro hnh S1 u v hu hv hF hl
    have lv : ∀ x, cs_k S x ≠ 0 → cs_k S x ≠ 1 → cs_k S x ≠ 27 → cs_k S1 x = cs_k S x ∧ cs_n S1 x = cs_n S x ∧ (∀ f, cs_i S1 f x = cs_i S66 f x) ∧ (∀ f, cs_r S1 f x = cs_r S f x) ∧ (∀ j, cs_al S1 x j = cs_al S x j) ∧ (∀ j, cs_ar S1 x j = cs_ar S x j) := fun x h0 h1 h27 => by
      obtain ⟨a1, a2, a3, -, a5, -, a7, a8⟩ := hF x (by rw [k66]; exact h0)
      have hno : ∀ (s f : Nat), ¬ (x = tl ∨ (s = 5 ∧ x = ed ∧ 0 < na)) := fun s f z => by
        rcases z with z | z
        · rw [z] at h1; exact h1 ktl
        · rw [z.2.1] at h27; exact h27 ked
      exact ⟨a1.trans (k66 x), a2.trans (n66 x), fun f => a3 f (hno 0 f), fun f => (a5 f (hno 2 f)).trans (r66 f x), fun j => (a7 j (hno 4 j)).trans (l66 x j), fun j => (a8 j (hno 5 j)).trans (a66 x j)⟩
    obtain ⟨w1, -, w3, w4, -⟩ := lv wa (by omega) (by omega) (by omega)
    obtain ⟨y1, -, y3, y4, -⟩ := lv a (by omega) (by omega) (by omega)
    obtain ⟨q1, -, q3, -⟩ := lv q0 (by omega) (by omega) (by omega)
    obtain ⟨x1, -, x3, x4, -⟩ := lv ra (by omega) (by omega) (by omega)
    obtain ⟨b1, b2, -, -, b5, -⟩ := lv by0 (by omega) (by omega) (by omega)
    obtain ⟨c1, c2, -, -, -, c6⟩ := lv kv (by omega) (by omega) (by omega)
    have e402 : cs_i S1 402 q0 = cs_i S 402 q0 := (q3 402).trans (i66 402 q0 (fun z => absurd z.1 (by decide)))
    have hle : u ≤ mc ∧ v ≤ ms := ⟨by omega, by omega⟩
    refine ctl_93 (T := fun _ => True) (by0 := by0) (kv := kv) (n := n) hle.1 hle.2 (w1.trans hwa) (y1.trans ha) (q1.trans hq0) (x1.trans hra) (fun z => ?_) ((x3 809).trans ((i66 809 ra (fun z => absurd z.1 (by decide))).trans h809)) ((x4 808).trans h808) (b1.trans hby) (b2.trans hbn) ((y4 500).trans h500) (c1.trans hkv) (c2.trans hkn) (fun j hj => ?_) hn3 (fun i j hi hj he => hd i j hi hj (by rw [← b5 i, ← b5 j]; exact he)) (fun z z1 z2 => ?_) (fun S2 e2 => ?_)
    · rw [e402] at z
      rw [if_pos z] at hu hv
      exact ⟨hu, hv⟩
    · obtain ⟨va, v1, v2⟩ := hrow j hj
      exact ⟨va, (c6 j).trans v1, (lv va (by omega) (by omega) (by omega)).1.trans v2⟩
    · rw [w4] at z1 z2
      have := hz z z1 z2
      exact (lv z (by omega) (by omega) (by omega)).1.trans this
    · rw [e402]
      refine hT hnh S2 ?_
      have hF2 : fX (fun s f x => (s = 0 ∧ ((x = ra ∧ f = 812) ∨ (x = a ∧ (f = 503 ∨ f = 504)) ∨ (x = wa ∧ f = 1106))) ∨ x = tl ∨ (s = 5 ∧ x = ed ∧ 0 < na)) S S2 := by
        rw [e2]
        exact (((hF66.trans (hF.mono (fun s f x z => Or.inr z))).ui (Or.inl (Or.inl ⟨rfl, Or.inr (Or.inr ⟨rfl, rfl⟩)⟩))).ui (Or.inl (Or.inl ⟨rfl, Or.inr (Or.inl ⟨rfl, Or.inr rfl⟩)⟩))).ui (Or.inl (Or.inl ⟨rfl, Or.inr (Or.inl ⟨rfl, Or.inl rfl⟩)⟩))
      have hF12 : fX (fun s f x => s = 0 ∧ ((x = a ∧ (f = 503 ∨ f = 504)) ∨ (x = wa ∧ f = 1106))) S1 S2 := by
        rw [e2]
        exact ((fX.rfl.ui (Or.inl ⟨rfl, Or.inr ⟨rfl, rfl⟩⟩)).ui (Or.inl ⟨rfl, Or.inl ⟨rfl, Or.inr rfl⟩⟩)).ui (Or.inl ⟨rfl, Or.inl ⟨rfl, Or.inl rfl⟩⟩)
      have tw : ∀ edx nx alx, tlW G S1 tl edx nx alx → tlW G S2 tl edx nx alx := fun edx nx alx hw => hw.fx hF12 (fun s f x z => ⟨fun e => (by
        rcases z.2 with z | z
        · rw [← z.1, e, ktl] at ha; cases ha
        · rw [← z.1, e, ktl] at hwa; cases hwa), fun _ e => (by rw [z.1] at e; cases e)⟩)
      have i2 : ∀ f x, ¬ (f = 503 ∧ x = a) → ¬ (f = 504 ∧ x = a) → ¬ (f = 1106 ∧ x = wa) → cs_i S2 f x = cs_i S1 f x := fun f x z1 z2 z3 => by rw [e2, iui, if_neg z1, iui, if_neg z2, iui, if_neg z3]
      refine ⟨hF2, ?_, ?_, ?_, ?_, ?_⟩
      · rw [i2 812 ra (fun z => absurd z.1 (by decide)) (fun z => absurd z.1 (by decide)) (fun z => absurd z.1 (by decide)), x3 812, e66, iui, if_pos ⟨rfl, rfl⟩]
      · rw [e2, iui, if_pos ⟨rfl, rfl⟩]
      · rw [e2, iui, if_neg (fun z => absurd z.1 (by decide)), iui, if_pos ⟨rfl, rfl⟩]
      · rw [e2, iui, if_neg (fun z => absurd z.1 (by decide)), iui, if_neg (fun z => absurd z.1 (by decide)), iui, if_pos ⟨rfl, rfl⟩, w3, i66 1106 wa (fun z => absurd z.1 (by decide))]
      · rcases hl with ⟨z1, z2⟩ | ⟨z1, ed', qa, z2, z3, z4, z5, z6, z7, z8, z9, z10, z11⟩
        · exact Or.inl ⟨z1, tw _ _ _ z2⟩
        · have hno : ∀ f, ¬ (f = 503 ∧ qa = a) ∧ ¬ (f = 504 ∧ qa = a) ∧ ¬ (f = 1106 ∧ qa = wa) := fun f => ⟨fun z => (by rw [← z.2, z3] at ha; cases ha), fun z => (by rw [← z.2, z3] at ha; cases ha), fun z => (by rw [← z.2, z3] at hwa; cases hwa)⟩
          have iq : ∀ f, cs_i S2 f qa = cs_i S1 f qa := fun f => i2 f qa (hno f).1 (hno f).2.1 (hno f).2.2
          refine Or.inr ⟨z1, ed', qa, z2, z3, tw _ _ _ z5, (iq _).trans z6, (iq _).trans z7, (iq _).trans z8, (iq _).trans z9, (iq _).trans z10, ?_⟩
          rw [e2, rui, rui, rui]; exact z11
  -- the list
  have at52 : ¬ (¬ cs_i S 503 a = -1 ∧ ¬ cs_i S 503 a ≤ t - cs_i S 811 ra) → w_X10_tell_52 post G mc ms S66 0 0 wa (some ra) (some a) t (some q0) st := by
    intro hnh
    obtain ⟨hc1, hc2⟩ := hc hnh
    have htl66 : tlW G S66 tl ed (min na 500) al := by
      have hF0 : fX (fun s f x => s = 0 ∧ x = ra) S S66 := by rw [e66]; exact fX.rfl.ui (Or.inl ⟨rfl, rfl⟩)
      exact htl.fx hF0 (fun s f x z => ⟨fun e => (by rw [← z.2, e, ktl] at hra; cases hra), fun _ e => (by rw [z.1] at e; cases e)⟩)
    refine ⟨by omega, by omega, (k66 _).trans hwa, fun r48 e48 => ⟨tl, by rw [e48, r66]; exact h1103, (k66 _).trans ktl, (k66 _).trans ktl, ?_⟩⟩
    rw [htl66.2.2.2.2.1]
    refine ⟨fun z => ?_, fun z => ?_⟩
    · have h5 : 500 ≤ na := by
        by_cases c : 500 ≤ na
        · exact c
        · rw [Nat.min_eq_left (by omega)] at z
          exact absurd z (nI_ge (a := na) (b := 500) (by omega) (by omega))
      rw [Nat.min_eq_right h5] at htl66
      rw [if_neg (by omega)] at hc1 hc2
      exact fin hnh S66 0 0 hc1 hc2 fX.rfl (Or.inl ⟨h5, htl66⟩)
    · have h5 : na < 500 := by
        by_cases c : na < 500
        · exact c
        · rw [Nat.min_eq_right (by omega)] at z
          exact absurd (nI_le (a := 500) (b := 500) (by omega) (by omega)) z
      rw [Nat.min_eq_left (by omega)] at htl66
      rw [if_pos h5] at hc1 hc2
      refine ⟨(k66 _).trans hwa, fun r53 e53 => ⟨by omega, by omega, fun qa hqa S55 e55 => ?_⟩⟩
      have hqS : cs_k S qa = 0 := (k66 qa).symm.trans hqa
      have nq : ∀ x, cs_k S x ≠ 0 → x ≠ qa := fun x hx e => hx (by rw [e]; exact hqS)
      have k55 : ∀ x, x ≠ qa → cs_k S55 x = cs_k S x := fun x hx => by rw [e55, knew, if_neg hx]; exact k66 x
      have kq : cs_k S55 qa = 2 := by rw [e55, knew, if_pos rfl]
      have i55 : ∀ f x, x ≠ qa → cs_i S55 f x = cs_i S66 f x := fun f x hx => by rw [e55, inew, if_neg hx]
      have nqa : a ≠ qa := nq _ (by omega)
      have nqr : ra ≠ qa := nq _ (by omega)
      have nq0 : q0 ≠ qa := nq _ (by omega)
      have hF55 : fX (fun _ _ _ => False) S66 S55 := by rw [e55]; exact fX.rfl.new hqa
      refine ⟨ra, rfl, (k55 _ nqr).trans hra, q0, rfl, (k55 _ nq0).trans hq0, kq, fun S16 e16 => ⟨by rw [e16]; exact kq, fun S18 e18 => ⟨by rw [e18, e16]; exact kq, fun S20 e20 => ⟨by rw [e20, e18, e16]; exact kq, fun S22 e22 => ⟨by rw [e22, e20, e18, e16]; exact kq, fun S24 e24 => ⟨a, rfl, by rw [e24, e22, e20, e18, e16]; exact (k55 _ nqa).trans ha, by rw [e24, e22, e20, e18, e16]; exact kq, fun S28 e28 => ?_⟩⟩⟩⟩⟩⟩
      have hF28 : fX (fun _ _ _ => False) S66 S28 := by
        rw [e28, e24, e22, e20, e18, e16]
        exact (((((hF55.ui (Or.inr hqa)).ui (Or.inr hqa)).ui (Or.inr hqa)).ui (Or.inr hqa)).ur (Or.inr hqa)).ui (Or.inr hqa)
      have i504 : cs_i S24 504 a = cs_i S 504 a := by
        rw [e24, e22, e20, e18, e16, iur, iui, if_neg (fun z => absurd z.1 (by decide)), iui, if_neg (fun z => absurd z.1 (by decide)), iui, if_neg (fun z => absurd z.1 (by decide)), iui, if_neg (fun z => absurd z.1 (by decide)), i55 504 a nqa]
        exact i66 504 a (fun z => absurd z.1 (by decide))
      have g100 : cs_i S28 100 qa = cs_i S 800 ra := by
        rw [e28, iui, if_neg (fun z => absurd z.1 (by decide)), e24, e22, e20, e18, e16, iur, iui, if_neg (fun z => absurd z.1 (by decide)), iui, if_neg (fun z => absurd z.1 (by decide)), iui, if_neg (fun z => absurd z.1 (by decide)), iui, if_pos ⟨rfl, rfl⟩, i55 800 ra nqr]
        exact i66 800 ra (fun z => absurd z.1 (by decide))
      have g101 : cs_i S28 101 qa = t := by
        rw [e28, iui, if_neg (fun z => absurd z.1 (by decide)), e24, e22, e20, e18, iur, iui, if_neg (fun z => absurd z.1 (by decide)), iui, if_neg (fun z => absurd z.1 (by decide)), iui, if_pos ⟨rfl, rfl⟩]
      have g102 : cs_i S28 102 qa = st := by
        rw [e28, iui, if_neg (fun z => absurd z.1 (by decide)), e24, e22, e20, iur, iui, if_neg (fun z => absurd z.1 (by decide)), iui, if_pos ⟨rfl, rfl⟩]
      have g103 : cs_i S28 103 qa = cs_i S 405 q0 := by
        rw [e28, iui, if_neg (fun z => absurd z.1 (by decide)), e24, e22, iur, iui, if_pos ⟨rfl, rfl⟩, i55 405 q0 nq0]
        exact i66 405 q0 (fun z => absurd z.1 (by decide))
      have g104 : cs_i S28 104 qa = cs_i S 504 a := by
        rw [e28, iui, if_pos ⟨rfl, rfl⟩]; exact i504
      have g105 : cs_r S28 105 qa = some a := by
        rw [e28, rui, e24, rur, if_pos ⟨rfl, rfl⟩]
      have kq28 : cs_k S28 qa = 2 := by rw [e28, e24, e22, e20, e18, e16]; exact kq
      have htl28 : tlW G S28 tl ed na al := htl66.fx hF28 (fun s f x z => z.elim)
      refine ⟨tl, by rw [e53, r66]; exact h1103, (hF28 tl (by rw [k66, ktl]; decide)).1.trans ((k66 _).trans ktl), gC na, gS na, by omega, by omega, cadd htl28 h5 kq28 (Nat.le_refl _) (Nat.le_refl _) (fun S62 ed' hF62 hed ht62 => ?_)⟩
      have lq : ∀ f, cs_i S62 f qa = cs_i S28 f qa := fun f => (hF62 qa (by omega)).2.2.1 f (fun z => by
        rcases z with z | z
        · rw [← z, hqS] at ktl; cases ktl
        · exact absurd z.1 (by decide))
      refine fin hnh S62 _ _ (by omega) (by omega) ((hF28.mono (fun s f x z => z.elim)).trans hF62) (Or.inr ⟨h5, ed', qa, ?_, hqS, (hF62 qa (by omega)).1.trans kq28, ht62, (lq _).trans g100, (lq _).trans g101, (lq _).trans g102, (lq _).trans g103, (lq _).trans g104, ?_⟩)
      · rcases hed with z | z
        · exact Or.inl z
        · refine Or.inr ?_
          have := hF28.dead z
          rw [k66] at this; exact this
      · rw [(hF62 qa (by omega)).2.2.2.2.1 105 (fun z => by
          rcases z with z | z
          · rw [← z, hqS] at ktl; cases ktl
          · exact absurd z.1 (by decide))]
        exact g105
  refine ⟨fun z => at52 (fun y => y.1 (by rw [← e503]; exact z)), fun z => ⟨(k66 _).trans hra, fun y => at52 (fun w => w.2 (by rw [← e503, ← e811]; exact y)), fun y S70 e70 => ⟨by rw [e70]; exact (k66 _).trans hwa, fun S72 e72 => ?_⟩⟩⟩
  rw [e503] at z
  rw [e503, e811] at y
  have hp := hH z y
  have e1107 : cs_i S70 1107 wa = cs_i S 1107 wa := by
    rw [e70, iui, if_neg (fun z => absurd z.1 (by decide))]; exact i66 1107 wa (fun z => absurd z.1 (by decide))
  rw [e72, e1107, e70, i66 504 a (fun z => absurd z.1 (by decide)), e66]
  exact hp
end CTL
