/-! ===== conditions of a rule: the top; behind a fault ===== -/
section TOP
variable {G cx : Nat → Nat} {bf : Nat → Nat} {z c bk nr i cn : Nat} {ra : Nat → Nat} {nm : Nat → Int64} {σ : rf_S} {S : cs_S}
theorem TOPC (ht : tC bf z c) (h : rA bf z bk nr nm i cn σ) (hi : i ≤ c) : OUTC G cx bf z c bk nr ra nm 14 0 0 10 114 i cn 0 (rf_ui σ 61 0) (fun Q => wp_X12_anyOf 60 Q (rf_ui σ 61 0)) (fun post m n S => wp_X5_readCond 60 post G m n S (cx 0) 0) :=
  (COND (D := 13) ht (by decide) (ONE ht 13 (by decide)) i cn (rf_ui σ 61 0) h.ui61 (by rw [r1ui, if_pos rfl]; rfl) hi).mono (fun Q q => q 60 (by decide)) (fun post m n S q => q 60 (by decide))
/-- behind a fault -/
theorem d_one {fk fp : Int32} (h : pQ G cx bf z c nr ra nm fk fp S) {post : Option Nat → cs_S → Prop} {m n d : Nat} {p1 : Int32} (hp : post none S) : wg_X5_readCond (d + 1) 1 post G m n S (cx 0) p1 := by
  have e0 : (cs_i S 606 (cx 0)).toInt = 0 := by rw [h.2.2.2.2.2]; decide
  exact wgc_1 ⟨h.1.1.1, fun q => by omega, fun q => by omega, fun q => by omega, fun q => by omega, fun q => by omega, fun q => by omega, fun _ => d_fail h hp⟩
theorem d_cond {fk fp : Int32} (h : pQ G cx bf z c nr ra nm fk fp S) {post : Option Nat → cs_S → Prop} {mc ms : Nat} (hm : 2 ≤ mc) (hn : 14 ≤ ms) (hp : ∀ S1 a, pQ G cx bf z c nr ra nm fk fp S1 → fX (pE (cx 0)) S S1 → cs_k S1 a = 3 → post (some a) S1) : wp_X5_readCond 60 post G mc ms S (cx 0) 0 := by
  show wg_X5_readCond (59 + 1) 0 post G mc ms S (cx 0) 0
  refine wgc_0 ⟨by omega, by omega, fun E hE => c_cond ⟨by omega, by omega, fun q hq => c_cond ?_⟩⟩
  have kE : cs_k (nC S E 32 0 0 none) E = 3 := nC.k
  obtain ⟨kE2, -, iE2, -, rE2, -⟩ := nC.fx (S := nC S E 32 0 0 none) (q := q) (a := 33) (b := 0) (d := 0) (e := none) (E := fun _ _ _ => False) hq E (by rw [kE]; decide)
  have k3 : cs_k (nC (nC S E 32 0 0 none) q 33 0 0 none) E = 3 := kE2.trans kE
  refine ⟨k3, fun w => (nomatch w), fun b12 e12 => ⟨k3, fun r14 e14 => ⟨fun _ S20 e20 => ⟨by rw [e20]; exact k3, fun S11 e11 => ?_⟩, fun b15 e15 => ?_⟩⟩⟩
  · cases e12
    have hf3 : fX (fun s f y => y = E) (nC (nC S E 32 0 0 none) q 33 0 0 none) S11 := by
      rw [e11, e20]
      exact (fX.rfl.ur (Or.inl rfl)).ur (Or.inl rfl)
    have h11 : pQ G cx bf z c nr ra nm fk fp S11 := ((h.nc hE).nc hq).c3 hf3 (fun s f a w => by rw [w]; exact k3)
    have f11 : fX (pE (cx 0)) S S11 := by
      rw [e11, e20]
      exact (((nC.fx hE).trans (nC.fx hq)).ur (Or.inr hE)).ur (Or.inr hE)
    have kq : cs_k S11 q = 3 := by rw [e11, e20]; exact nC.k (S := nC S E 32 0 0 none) (q := q) (a := 33) (b := 0) (d := 0) (e := none)
    have kE3 : cs_k S11 E = 3 := by rw [e11, e20]; exact k3
    refine ⟨h11.1.1.1, 0, 0, by omega, by omega, d_one (d := 58) h11 ⟨kq, fun _ => ⟨1, w43d (x4 := 0) h11 (by omega) (by omega) (hp S11 E h11 f11 kE3)⟩, fun b w => nomatch w⟩⟩
  · rw [e14, rE2 205 (fun w => w), nC.r (by decide)] at e15; exact nomatch e15
end TOP
/-- trees of the class rest on Conds alone -/
theorem chL_fx {S S' : cs_S} {α : Type} {R R' : Nat → α → Prop} (hk : ∀ a, cs_k S a = 3 → cs_k S' a = 3 ∧ cs_r S' 206 a = cs_r S 206 a) (hR : ∀ a t, cs_k S a = 3 → R a t → R' a t) (l : List α) (hd : Option Nat) (h : chL S R hd l) : chL S' R' hd l := chL_mono l hd (fun a t _ k r => ⟨hR a t k r, (hk a k).1, (hk a k).2⟩) h
theorem cR.fx {S S' : cs_S} {E : Nat → Nat → Nat → Prop} (hF : fX E S S') (hE : ∀ s f a, E s f a → cs_k S a ≠ 3) : ∀ d a (t : cT d), cR S d a t → cR S' d a t := by
  have st : ∀ a, cs_k S a = 3 → cs_k S' a = 3 ∧ (∀ f, cs_i S' f a = cs_i S f a) ∧ ∀ f, cs_r S' f a = cs_r S f a := fun a ha => by
    obtain ⟨k, -, i, -, r, -⟩ := hF a (by rw [ha]; decide)
    exact ⟨k.trans ha, fun f => i f (fun q => hE _ _ _ q ha), fun f => r f (fun q => hE _ _ _ q ha)⟩
  intro d
  induction d with
  | zero => intro a t h; exact h
  | succ d ih =>
    intro a t h
    rcases t with t | t | ls
    · exact h
    · obtain ⟨h1, h2, b, h3, h4⟩ := h
      obtain ⟨s1, s2, s3⟩ := st a h1
      exact ⟨s1, (s2 _).trans h2, b, (s3 _).trans h3, ih b t h4⟩
    · obtain ⟨h1, h2, h3⟩ := h
      obtain ⟨s1, s2, s3⟩ := st a h1
      refine ⟨s1, (s2 _).trans h2, ?_⟩
      rw [s3]
      refine chL_fx (fun x kx => ⟨(st x kx).1, (st x kx).2.2 _⟩) (fun x g kx hx => ⟨((st x kx).2.1 _).trans hx.1, ?_⟩) ls _ h3
      rw [(st x kx).2.2]
      exact chL_fx (fun y ky => ⟨(st y ky).1, (st y ky).2.2 _⟩) (fun y t ky hy => ih y t hy) g _ hx.2
/-- what reading a rule changes of the reference: row nr of its bank, nodes from cn on -/
def gF (bk nr cn : Nat) (σ σ' : rf_S) : Prop :=
  (∀ k, k ≠ 4 → k ≠ 5 → k ≠ 6 → k ≠ 34 → (k < 53 ∨ 57 < k) → k ≠ 60 → k ≠ 61 → σ'.1 k = σ.1 k) ∧ (∀ k, k ≠ 58 → σ'.2.1 k = σ.2.1 k) ∧
  (∀ k j, (36 ≤ k ∧ k ≤ 45 ∧ k ≠ 41 → j < 12 * bk + nr ∨ 12 * bk + 12 ≤ j) → (k = 41 → j < 6 * (12 * bk + nr) ∨ 72 * bk + 72 ≤ j) → (47 ≤ k ∧ k ≤ 52 → j < 1100 * bk + cn ∨ 1100 * bk + 1100 ≤ j) → σ'.2.2.1 k j = σ.2.2.1 k j) ∧
  ∀ k j, (k = 35 ∨ k = 36 → j < 12 * bk + nr ∨ 12 * bk + 12 ≤ j) → (k = 37 → j < 3 * (12 * bk + nr) ∨ 36 * bk + 36 ≤ j) → (k = 52 → j < 1100 * bk + cn ∨ 1100 * bk + 1100 ≤ j) → σ'.2.2.2 k j = σ.2.2.2 k j
section GFS
variable {bk nr cn cn' : Nat} {σ σ1 σ2 : rf_S}
theorem gF.rfl : gF bk nr cn σ σ := ⟨fun _ _ _ _ _ _ _ _ => Eq.refl _, fun _ _ => Eq.refl _, fun _ _ _ _ _ => Eq.refl _, fun _ _ _ _ _ => Eq.refl _⟩
theorem gF.trans (h : gF bk nr cn σ σ1) (g : gF bk nr cn' σ1 σ2) (hc : cn ≤ cn') : gF bk nr cn σ σ2 := ⟨fun k a b c d e f x => (g.1 k a b c d e f x).trans (h.1 k a b c d e f x), fun k a => (g.2.1 k a).trans (h.2.1 k a), fun k j a b d => (g.2.2.1 k j a b (fun q => by have := d q; omega)).trans (h.2.2.1 k j a b d), fun k j a b d => (g.2.2.2 k j a b (fun q => by have := d q; omega)).trans (h.2.2.2 k j a b d)⟩
theorem pF.gf (h : pF bk cn σ σ1) : gF bk nr cn σ σ1 := ⟨fun k a b c _ d e f => h.1 k a b c d e f, h.2.1, fun k j _ _ d => h.2.2.1 k j d, fun k j _ _ d => h.2.2.2 k j d⟩
theorem gF.ua (h : gF bk nr cn σ σ1) {k j : Nat} {x : Int32} (hn : nr < 12) (hk : (36 ≤ k ∧ k ≤ 45 ∧ k ≠ 41 ∧ j = 12 * bk + nr) ∨ (k = 41 ∧ 6 * (12 * bk + nr) ≤ j ∧ j < 6 * (12 * bk + nr) + 6)) : gF bk nr cn σ (rf_ua σ1 k j x) := ⟨h.1, h.2.1, fun k' j' a b d => by
  rw [r3ua, if_neg (fun q => by
    rcases hk with ⟨k1, k2, k3, k4⟩ | ⟨k1, k2, k3⟩
    · have := a (by omega); omega
    · have := b (by omega); omega)]
  exact h.2.2.1 k' j' a b d, h.2.2.2⟩
theorem gF.ub (h : gF bk nr cn σ σ1) {k j : Nat} {x : Int64} (hn : nr < 12) (hk : ((k = 35 ∨ k = 36) ∧ j = 12 * bk + nr) ∨ (k = 37 ∧ 3 * (12 * bk + nr) ≤ j ∧ j < 3 * (12 * bk + nr) + 3)) : gF bk nr cn σ (rf_ub σ1 k j x) := ⟨h.1, h.2.1, h.2.2.1, fun k' j' a b d => by
  rw [r4ub, if_neg (fun q => by
    rcases hk with ⟨k1, k4⟩ | ⟨k1, k2, k3⟩
    · have := a (by omega); omega
    · have := b (by omega); omega)]
  exact h.2.2.2 k' j' a b d⟩
theorem gF.ui (h : gF bk nr cn σ σ1) {k : Nat} {x : Int32} (hk : k = 4 ∨ k = 5 ∨ k = 6 ∨ k = 34 ∨ (53 ≤ k ∧ k ≤ 57) ∨ k = 60 ∨ k = 61) : gF bk nr cn σ (rf_ui σ1 k x) := ⟨fun k' a b c d e f g => by rw [r1ui, if_neg (by omega)]; exact h.1 k' a b c d e f g, h.2⟩
/-- rows of the rule's own leave where the reference stands -/
theorem rA.row {bf : Nat → Nat} {z i nr0 : Nat} {nm : Nat → Int64} (h : rA bf z bk nr0 nm i cn σ) (hi : σ1.1 = σ.1) (hl : σ1.2.1 = σ.2.1) (hr : ∀ k j, (k < 36 ∨ 45 < k) → σ1.2.2.1 k j = σ.2.2.1 k j) (hb : ∀ k j, (k < 36 ∨ 37 < k) → (k = 35 → j < 12 * bk + nr0) → σ1.2.2.2 k j = σ.2.2.2 k j) : rA bf z bk nr0 nm i cn σ1 := by
  obtain ⟨a1, a2, ⟨a3, a4, a5⟩, a6, ⟨a7, a8, a9, a10⟩, ⟨a11, a12, a13⟩, a14⟩ := h
  refine ⟨⟨by rw [hi]; exact a1.1, a1.2.1, a1.2.2.1, fun j hj => by rw [hr 1 j (by omega)]; exact a1.2.2.2 j hj⟩, ?_, ⟨by rw [hi]; exact a3, by rw [hi]; exact a4, a5⟩, fun j => by rw [hb 59 j (by omega) (by omega)]; exact a6 j, ⟨by rw [hi]; exact a7, a8, fun n hn => ?_, fun n hn => ?_⟩, ⟨by rw [hi]; exact a11, a12, fun r hr' => by rw [hb 35 _ (by omega) (by omega)]; exact a13 r hr'⟩, fun j hj hb' => by rw [hr 46 _ (by omega)]; exact a14 j hj hb'⟩
  · unfold rT rTk at a2 ⊢
    rw [hi, hl]; exact a2
  · rw [hr 47 n (by omega), hr 48 n (by omega), hr 49 n (by omega)]; exact a9 n hn
  · rw [hr 47 n (by omega), hr 51 n (by omega), hr 48 n (by omega), hr 50 n (by omega)]; exact a10 n hn
end GFS
