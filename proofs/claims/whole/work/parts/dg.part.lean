/-! ===== a rule in the making ===== -/
/-- the class's: where its rows lie, and what they hold -/
def rM (S : cs_S) (R ca by0 wt : Nat) (vi : Nat → Int32) (vl : Nat → Int64) (un : Option Nat) (ce : Nat → Option Nat) (be : Nat → Int64) : Prop :=
  (cs_k S R = 9 ∧ (∀ f, cs_i S f R = vi f) ∧ (∀ f, cs_l S f R = vl f) ∧ cs_r S 805 R = some ca ∧ cs_r S 807 R = un ∧ cs_r S 808 R = some by0 ∧ cs_r S 817 R = some wt ∧ cs_r S 814 R = none) ∧
  (cs_k S ca = 24 ∧ cs_n S ca = 5 ∧ ∀ j, cs_ar S ca j = ce j) ∧ (cs_k S by0 = 21 ∧ cs_n S by0 = 3 ∧ ∀ j, cs_al S by0 j = be j) ∧ (cs_k S wt = 26 ∧ cs_n S wt = 4)
/-- one value of many -/
def up {α : Type} (v : Nat → α) (f : Nat) (x : α) : Nat → α := fun g => if g = f then x else v g
theorem up_s {α : Type} {v : Nat → α} {f : Nat} {x : α} : up v f x f = x := if_pos rfl
theorem up_o {α : Type} {v : Nat → α} {f g : Nat} {x : α} (h : g ≠ f) : up v f x g = v g := if_neg h
def E3 (S : cs_S) (s f a : Nat) : Prop := cs_k S a ≠ 3 ∧ cs_k S a ≠ 11 ∧ cs_k S a ≠ 20
def rEx (R ca by0 : Nat) (a : Nat) : Prop := a = R ∨ a = ca ∨ a = by0
/-- trees of its conditions, both sides -/
def cdT (S : cs_S) (σ : rf_S) (bk cn b k : Nat) (ce : Nat → Option Nat) (tr : Nat → cT 14) : Prop := ∀ c, c < k → ∃ n a, σ.2.2.1 41 (6 * b + c) = nI n ∧ inB bk cn n ∧ rR σ 14 n (tr c) ∧ rLv σ 14 (tr c) ∧ ce c = some a ∧ cR S 14 a (tr c) ∧ cLv S σ 14 (tr c)
def unS (S : cs_S) (σ : rf_S) (bk cn b : Nat) (un : Option Nat) (ut : Option (cT 14)) : Prop := (ut = none ∧ un = none ∧ σ.2.2.1 42 b = -1) ∨ ∃ t n a, ut = some t ∧ un = some a ∧ σ.2.2.1 42 b = nI n ∧ inB bk cn n ∧ rR σ 14 n t ∧ rLv σ 14 t ∧ cR S 14 a t ∧ cLv S σ 14 t
/-- reading a rule, in the class -/
def mK (G cx : Nat → Nat) (bf : Nat → Nat) (z c nr : Nat) (ra : Nat → Nat) (nm : Nat → Int64) (S0 : cs_S) (R ca by0 wt i : Nat) (vi : Nat → Int32) (vl : Nat → Int64) (un : Option Nat) (ce : Nat → Option Nat) (be : Nat → Int64) (S : cs_S) : Prop :=
  pA G cx bf z c nr ra nm i S ∧ fX (pE (cx 0)) S0 S ∧ rM S R ca by0 wt vi vl un ce be ∧ pS G cx bf z c nr ra nm S0 ∧ cs_k S0 R = 0 ∧ cs_k S0 ca = 0 ∧ cs_k S0 by0 = 0 ∧ cs_k S0 wt = 0
/-- the same behind a fault -/
def dM (G cx : Nat → Nat) (bf : Nat → Nat) (z c nr : Nat) (ra : Nat → Nat) (nm : Nat → Int64) (S0 : cs_S) (R : Nat) (fk fp : Int32) (S : cs_S) : Prop :=
  pQ G cx bf z c nr ra nm fk fp S ∧ fX (pE (cx 0)) S0 S ∧ ∃ ca by0 wt vi vl un ce be, rM S R ca by0 wt vi vl un ce be ∧ pS G cx bf z c nr ra nm S0 ∧ (cs_k S0 R = 0 ∧ cs_k S0 ca = 0 ∧ cs_k S0 by0 = 0) ∧ (∃ k, k ≤ 5 ∧ vi 806 = nI k) ∧ ∃ n, n ≤ 3 ∧ vi 809 = nI n
section PRT
variable {G cx : Nat → Nat} {bf : Nat → Nat} {z c bk nr i i' cn cn' b k bc R ca by0 wt : Nat} {ra : Nat → Nat} {nm : Nat → Int64} {σ σ' : rf_S} {S S' S0 : cs_S} {vi vi' : Nat → Int32} {vl vl' : Nat → Int64} {un un' : Option Nat} {ce ce' : Nat → Option Nat} {be be' : Nat → Int64} {tr : Nat → cT 14} {ut : Option (cT 14)} {fk fp : Int32}
theorem rM.pe {pa : Nat} (h : rM S R ca by0 wt vi vl un ce be) (hF : fX (pE pa) S S') (hpa : cs_k S pa = 7) : rM S' R ca by0 wt vi vl un ce be := by
  obtain ⟨⟨h1, h2, h3, h4, h5, h6, h7, h8⟩, ⟨a1, a2, a3⟩, ⟨b1, b2, b3⟩, c1, c2⟩ := h
  obtain ⟨k, -, i, l, r, -⟩ := hF R (by rw [h1]; decide)
  obtain ⟨ka, na, -, -, -, -, -, ara⟩ := hF ca (by rw [a1]; decide)
  obtain ⟨kb, nb, -, -, -, -, alb, -⟩ := hF by0 (by rw [b1]; decide)
  obtain ⟨kw, nw, -⟩ := hF wt (by rw [c1]; decide)
  have hR : R ≠ pa := fun e => by rw [e] at h1; omega
  have i' : ∀ f, cs_i S' f R = cs_i S f R := fun f => i f (fun q => hR q.2.1)
  have l' : ∀ f, cs_l S' f R = cs_l S f R := fun f => l f (fun q => hR q.2.1)
  have r' : ∀ f, cs_r S' f R = cs_r S f R := fun f => r f (fun q => hR q.2.1)
  exact ⟨⟨k.trans h1, fun f => (i' f).trans (h2 f), fun f => (l' f).trans (h3 f), (r' _).trans h4, (r' _).trans h5, (r' _).trans h6, (r' _).trans h7, (r' _).trans h8⟩, ⟨ka.trans a1, na.trans a2, fun j => (ara j (fun q => absurd q.1 (by decide))).trans (a3 j)⟩, ⟨kb.trans b1, nb.trans b2, fun j => (alb j (fun q => absurd q.1 (by decide))).trans (b3 j)⟩, kw.trans c1, nw.trans c2⟩
/-- what is written, one value at a time -/
theorem rM.ui (h : rM S R ca by0 wt vi vl un ce be) {f : Nat} {x : Int32} : rM (cs_ui S f R x) R ca by0 wt (up vi f x) vl un ce be := by
  obtain ⟨⟨h1, h2, h3, h4⟩, h5⟩ := h
  refine ⟨⟨h1, fun g => ?_, h3, h4⟩, h5⟩
  rw [iui]
  show _ = if g = f then x else vi g
  by_cases e : g = f
  · rw [if_pos ⟨e, rfl⟩, if_pos e]
  · rw [if_neg (fun q => e q.1), if_neg e]; exact h2 g
theorem rM.ul (h : rM S R ca by0 wt vi vl un ce be) {f : Nat} {x : Int64} : rM (cs_ul S f R x) R ca by0 wt vi (up vl f x) un ce be := by
  obtain ⟨⟨h1, h2, h3, h4⟩, h5⟩ := h
  refine ⟨⟨h1, h2, fun g => ?_, h4⟩, h5⟩
  rw [lul]
  show _ = if g = f then x else vl g
  by_cases e : g = f
  · rw [if_pos ⟨e, rfl⟩, if_pos e]
  · rw [if_neg (fun q => e q.1), if_neg e]; exact h3 g
theorem rM.ur (h : rM S R ca by0 wt vi vl un ce be) {x : Option Nat} : rM (cs_ur S 807 R x) R ca by0 wt vi vl x ce be := by
  obtain ⟨⟨h1, h2, h3, h4, h6, h7, h8, h9⟩, h5⟩ := h
  exact ⟨⟨h1, h2, h3, by rw [rur, if_neg (fun q => absurd q.1 (by decide))]; exact h4, by rw [rur, if_pos ⟨rfl, rfl⟩], by rw [rur, if_neg (fun q => absurd q.1 (by decide))]; exact h7, by rw [rur, if_neg (fun q => absurd q.1 (by decide))]; exact h8, by rw [rur, if_neg (fun q => absurd q.1 (by decide))]; exact h9⟩, h5⟩
theorem rM.uar (h : rM S R ca by0 wt vi vl un ce be) {j : Nat} {x : Option Nat} : rM (cs_uar S ca j x) R ca by0 wt vi vl un (up ce j x) be := by
  obtain ⟨h1, ⟨h2, h3, h4⟩, h5⟩ := h
  refine ⟨h1, ⟨h2, h3, fun g => ?_⟩, h5⟩
  rw [aruar]
  show _ = if g = j then x else ce g
  by_cases e : g = j
  · rw [if_pos ⟨rfl, e⟩, if_pos e]
  · rw [if_neg (fun q => e q.2), if_neg e]; exact h4 g
theorem rM.ual (h : rM S R ca by0 wt vi vl un ce be) {j : Nat} {x : Int64} : rM (cs_ual S by0 j x) R ca by0 wt vi vl un ce (up be j x) := by
  obtain ⟨h1, h0, ⟨h2, h3, h4⟩, h5⟩ := h
  refine ⟨h1, h0, ⟨h2, h3, fun g => ?_⟩, h5⟩
  rw [alual]
  show _ = if g = j then x else be g
  by_cases e : g = j
  · rw [if_pos ⟨rfl, e⟩, if_pos e]
  · rw [if_neg (fun q => e q.2), if_neg e]; exact h4 g
/-- under the frame of the rule's start -/
theorem fX.und {pa : Nat} (h : fX (pE pa) S0 S) (g : fX (fun _ _ a => rEx R ca by0 a) S S') (d1 : cs_k S0 R = 0) (d2 : cs_k S0 ca = 0) (d3 : cs_k S0 by0 = 0) : fX (pE pa) S0 S' := fun a ha => by
  obtain ⟨a1, a2, a3, a4, a5, a6, a7, a8⟩ := h a ha
  obtain ⟨b1, b2, b3, b4, b5, b6, b7, b8⟩ := g a (by rw [a1]; exact ha)
  have ne : ¬ rEx R ca by0 a := fun q => by
    rcases q with q | q | q
    · exact ha (by rw [q]; exact d1)
    · exact ha (by rw [q]; exact d2)
    · exact ha (by rw [q]; exact d3)
  exact ⟨b1.trans a1, b2.trans a2, fun f e => (b3 f ne).trans (a3 f e), fun f e => (b4 f ne).trans (a4 f e), fun f e => (b5 f ne).trans (a5 f e), fun f e => (b6 f ne).trans (a6 f e), fun f e => (b7 f ne).trans (a7 f e), fun f e => (b8 f ne).trans (a8 f e)⟩
/-- writes of a rule leave the parser alone -/
theorem rEx.ok (hp0 : pS G cx bf z c nr ra nm S0) (d1 : cs_k S0 R = 0) (d2 : cs_k S0 ca = 0) (d3 : cs_k S0 by0 = 0) {a : Nat} (h : rEx R ca by0 a) : (∀ i, i ≤ 6 → a ≠ cx i) ∧ ∀ r, r < nr → a ≠ ra r := by
  obtain ⟨⟨t1, -⟩, ⟨t2, -⟩, ⟨t3, -⟩, ⟨t4, -⟩, ⟨t5, -⟩, ⟨t6, -⟩, ⟨t7, -⟩, -, -, t10, -⟩ := id hp0
  have d : cs_k S0 a = 0 := by
    rcases h with q | q | q <;> rw [q] <;> assumption
  refine ⟨fun j hj e => ?_, fun r hr e => ?_⟩
  · have hj : j = 0 ∨ j = 1 ∨ j = 2 ∨ j = 3 ∨ j = 4 ∨ j = 5 ∨ j = 6 := by omega
    rw [e] at d
    rcases hj with rfl | rfl | rfl | rfl | rfl | rfl | rfl <;> omega
  · have hr0 := (t10 r hr).2.1
    rw [e] at d; omega
theorem mK.pe (h : mK G cx bf z c nr ra nm S0 R ca by0 wt i vi vl un ce be S) (hA : pA G cx bf z c nr ra nm i' S') (hF : fX (pE (cx 0)) S S') : mK G cx bf z c nr ra nm S0 R ca by0 wt i' vi vl un ce be S' := ⟨hA, h.2.1.trans hF, h.2.2.1.pe hF h.1.1.1.1, h.2.2.2⟩
theorem mK.wr (h : mK G cx bf z c nr ra nm S0 R ca by0 wt i vi vl un ce be S) (hF : fX (fun _ _ a => rEx R ca by0 a) S S') (hM : rM S' R ca by0 wt vi' vl' un' ce' be') : mK G cx bf z c nr ra nm S0 R ca by0 wt i vi' vl' un' ce' be' S' := by
  obtain ⟨h1, h2, h3, h4, h5, h6, h7, h8⟩ := h
  exact ⟨h1.fx hF (fun s f a q => q.ok h4 h5 h6 h7), h2.und hF h5 h6 h7, hM, h4, h5, h6, h7, h8⟩
theorem mK.dd (h : mK G cx bf z c nr ra nm S0 R ca by0 wt i vi vl un ce be S) (hA : pQ G cx bf z c nr ra nm fk fp S') (hF : fX (pE (cx 0)) S S') (hk : k ≤ 5) (e6 : vi 806 = nI k) (hn : bc ≤ 3) (e9 : vi 809 = nI bc) : dM G cx bf z c nr ra nm S0 R fk fp S' :=
  ⟨hA, h.2.1.trans hF, ca, by0, wt, vi, vl, un, ce, be, h.2.2.1.pe hF h.1.1.1.1, h.2.2.2.1, ⟨h.2.2.2.2.1, h.2.2.2.2.2.1, h.2.2.2.2.2.2.1⟩, ⟨k, hk, e6⟩, bc, hn, e9⟩
theorem dM.pe (h : dM G cx bf z c nr ra nm S0 R fk fp S) (hA : pQ G cx bf z c nr ra nm fk fp S') (hF : fX (pE (cx 0)) S S') : dM G cx bf z c nr ra nm S0 R fk fp S' := by
  obtain ⟨h1, h2, ca, by0, wt, vi, vl, un, ce, be, h3, h4⟩ := h
  exact ⟨hA, h2.trans hF, ca, by0, wt, vi, vl, un, ce, be, h3.pe hF h1.1.1.1, h4⟩
theorem dM.k9 (h : dM G cx bf z c nr ra nm S0 R fk fp S) : cs_k S R = 9 := by
  obtain ⟨-, -, _, _, _, _, _, _, _, _, h3, -⟩ := h
  exact h3.1.1
theorem dM.k7 (h : dM G cx bf z c nr ra nm S0 R fk fp S) : cs_k S (cx 0) = 7 := h.1.1.1.1
theorem dM.k0 (h : dM G cx bf z c nr ra nm S0 R fk fp S) {x : Nat} (hx : 0 < x) (hx2 : x < 2 ^ 31) : ¬ cs_i S 606 (cx 0) = nI x := fun q => absurd (q.symm.trans h.1.2.2.2.2.2) (nI_ne0 hx hx2)
/-- a dead write of one value -/
theorem dM.ui (h : dM G cx bf z c nr ra nm S0 R fk fp S) {f : Nat} {x : Int32} (hf : f ≠ 806 ∧ f ≠ 809) : dM G cx bf z c nr ra nm S0 R fk fp (cs_ui S f R x) := by
  obtain ⟨h1, h2, ca, by0, wt, vi, vl, un, ce, be, h3, h4, ⟨h5, h6, h7⟩, h8, h9⟩ := h
  have hF : fX (fun _ _ a => rEx R ca by0 a) S (cs_ui S f R x) := fX.rfl.ui (Or.inl (Or.inl rfl))
  refine ⟨h1.fx hF (fun s f a q => q.ok h4 h5 h6 h7), h2.und hF h5 h6 h7, ca, by0, wt, _, vl, un, ce, be, h3.ui, h4, ⟨h5, h6, h7⟩, ?_, ?_⟩
  · rw [up_o (by omega)]; exact h8
  · rw [up_o (by omega)]; exact h9
theorem dM.ul (h : dM G cx bf z c nr ra nm S0 R fk fp S) {f : Nat} {x : Int64} : dM G cx bf z c nr ra nm S0 R fk fp (cs_ul S f R x) := by
  obtain ⟨h1, h2, ca, by0, wt, vi, vl, un, ce, be, h3, h4, ⟨h5, h6, h7⟩, h8, h9⟩ := h
  have hF : fX (fun _ _ a => rEx R ca by0 a) S (cs_ul S f R x) := fX.rfl.ul (Or.inl (Or.inl rfl))
  exact ⟨h1.fx hF (fun s f a q => q.ok h4 h5 h6 h7), h2.und hF h5 h6 h7, ca, by0, wt, vi, _, un, ce, be, h3.ul, h4, ⟨h5, h6, h7⟩, h8, h9⟩
theorem dM.ur (h : dM G cx bf z c nr ra nm S0 R fk fp S) {x : Option Nat} : dM G cx bf z c nr ra nm S0 R fk fp (cs_ur S 807 R x) := by
  obtain ⟨h1, h2, ca, by0, wt, vi, vl, un, ce, be, h3, h4, ⟨h5, h6, h7⟩, h8, h9⟩ := h
  have hF : fX (fun _ _ a => rEx R ca by0 a) S (cs_ur S 807 R x) := fX.rfl.ur (Or.inl (Or.inl rfl))
  exact ⟨h1.fx hF (fun s f a q => q.ok h4 h5 h6 h7), h2.und hF h5 h6 h7, ca, by0, wt, vi, vl, _, ce, be, h3.ur, h4, ⟨h5, h6, h7⟩, h8, h9⟩
theorem c_addc {post : cs_S → Prop} {o : Option Nat} (hl : rM S R ca by0 wt vi vl un ce be) (hk : vi 806 = nI k) (hk5 : k < 5) (ho : ∀ b, o = some b → cs_k S b = 3) (hp : post (cs_ui (cs_uar S ca k o) 806 R (nI (k + 1)))) : wp_X7_addCond post G S R o := by
  obtain ⟨⟨h1, h2, h3, h4, -⟩, ⟨a1, a2, -⟩, -⟩ := hl
  have hk := (h2 806).trans hk
  refine ⟨h1, fun r12 e12 => ⟨ca, e12.trans h4, a1, fun q => ?_, fun _ r15 e15 => ⟨ca, e15.trans h4, a1, ?_, ho, fun S18 e18 => ⟨by rw [e18]; exact h1, fun S20 e20 => ?_⟩⟩⟩⟩
  · rw [a2, hk] at q; exact absurd q (nI_ge (b := 5) hk5 (by decide))
  · rw [a2, hk]; exact nI_in hk5 (by decide)
  · have e : cs_i S18 806 R = nI k := by rw [e18]; exact hk
    rw [e, nI_1] at e20
    rw [hk, nI_clamp (by omega)] at e18
    rw [e20, e18]; exact hp
theorem d_addc {post : cs_S → Prop} {o : Option Nat} (h : dM G cx bf z c nr ra nm S0 R fk fp S) (ho : ∀ b, o = some b → cs_k S b = 3) (hp : ∀ S', dM G cx bf z c nr ra nm S0 R fk fp S' → post S') : wp_X7_addCond post G S R o := by
  obtain ⟨h1, h2, ca, by0, wt, vi, vl, un, ce, be, h3, h4, ⟨h5, h6, h7⟩, ⟨k, k1, k2⟩, h9⟩ := id h
  by_cases hk : k < 5
  · refine c_addc h3 k2 hk ho (hp _ ?_)
    have hF : fX (fun _ _ a => rEx R ca by0 a) S (cs_ui (cs_uar S ca k o) 806 R (nI (k + 1))) := (fX.rfl.uar (Or.inl (Or.inr (Or.inl rfl)))).ui (Or.inl (Or.inl rfl))
    refine ⟨h1.fx hF (fun s f a q => q.ok h4 h5 h6 h7), h2.und hF h5 h6 h7, ca, by0, wt, _, vl, un, _, be, h3.uar.ui, h4, ⟨h5, h6, h7⟩, ⟨k + 1, by omega, up_s⟩, ?_⟩
    rw [up_o (by decide)]; exact h9
  · obtain ⟨⟨g1, g2, g3, g4, -⟩, ⟨a1, a2, -⟩, -⟩ := h3
    refine ⟨g1, fun r12 e12 => ⟨ca, e12.trans g4, a1, fun _ => hp S h, fun q => absurd ?_ q⟩⟩
    rw [a2, g2, k2]
    exact nI_le (a := 5) (by omega) (by omega)
theorem c_addb {post : cs_S → Prop} {x : Int64} (hl : rM S R ca by0 wt vi vl un ce be) (hk : vi 809 = nI k) (hk5 : k < 3) (hp : post (cs_ui (cs_ual S by0 k x) 809 R (nI (k + 1)))) : wp_X7_addBy post G S R x := by
  obtain ⟨⟨h1, h2, h3, -, -, h4, -⟩, -, ⟨a1, a2, -⟩, -⟩ := hl
  have hk := (h2 809).trans hk
  refine ⟨h1, fun r12 e12 => ⟨by0, e12.trans h4, a1, fun q => ?_, fun _ r15 e15 => ⟨by0, e15.trans h4, a1, ?_, fun S18 e18 => ⟨by rw [e18]; exact h1, fun S20 e20 => ?_⟩⟩⟩⟩
  · rw [a2, hk] at q; exact absurd q (nI_ge (b := 3) hk5 (by decide))
  · rw [a2, hk]; exact nI_in hk5 (by decide)
  · have e : cs_i S18 809 R = nI k := by rw [e18]; exact hk
    rw [e, nI_1] at e20
    rw [hk, nI_clamp (by omega)] at e18
    rw [e20, e18]; exact hp
theorem d_addb {post : cs_S → Prop} {x : Int64} (h : dM G cx bf z c nr ra nm S0 R fk fp S) (hp : ∀ S', dM G cx bf z c nr ra nm S0 R fk fp S' → post S') : wp_X7_addBy post G S R x := by
  obtain ⟨h1, h2, ca, by0, wt, vi, vl, un, ce, be, h3, h4, ⟨h5, h6, h7⟩, h9, ⟨k, k1, k2⟩⟩ := id h
  by_cases hk : k < 3
  · refine c_addb h3 k2 hk (hp _ ?_)
    have hF : fX (fun _ _ a => rEx R ca by0 a) S (cs_ui (cs_ual S by0 k x) 809 R (nI (k + 1))) := (fX.rfl.ual (Or.inl (Or.inr (Or.inr rfl)))).ui (Or.inl (Or.inl rfl))
    refine ⟨h1.fx hF (fun s f a q => q.ok h4 h5 h6 h7), h2.und hF h5 h6 h7, ca, by0, wt, _, vl, un, ce, _, h3.ual.ui, h4, ⟨h5, h6, h7⟩, ?_, ⟨k + 1, by omega, up_s⟩⟩
    rw [up_o (by decide)]; exact h9
  · obtain ⟨⟨g1, g2, g3, -, -, g4, -⟩, -, ⟨a1, a2, -⟩, -⟩ := h3
    refine ⟨g1, fun r12 e12 => ⟨by0, e12.trans g4, a1, fun _ => hp S h, fun q => absurd ?_ q⟩⟩
    rw [a2, g2, k2]
    exact nI_le (a := 3) (by omega) (by omega)
theorem cdT.on (h : cdT S σ bk cn b k ce tr) (hc : cn ≤ cn') (hP : prS σ σ' bk cn) (h41 : ∀ c, c < k → σ'.2.2.1 41 (6 * b + c) = σ.2.2.1 41 (6 * b + c)) {E9 : Nat → Nat → Nat → Prop} (hF : fX E9 S S') (hE : ∀ s f a, E9 s f a → cs_k S a ≠ 3 ∧ cs_k S a ≠ 11 ∧ cs_k S a ≠ 20) : cdT S' σ' bk cn' b k ce tr := by
  intro c hck
  obtain ⟨n, a, a1, a2, a3, a4, a5, a6, a7⟩ := h c hck
  obtain ⟨p1, p2, p3⟩ := hP 14 n (tr c) a2 a4 a3
  exact ⟨n, a, (h41 c hck).trans a1, ⟨a2.1, by have := a2.2; omega⟩, p1, p2, a5, cR.fx hF (fun s f a q => (hE s f a q).1) _ _ _ a6, cLv.fx hF (fun s f a q => ⟨(hE s f a q).2.1, (hE s f a q).2.2, fun w => absurd w (hE s f a q).1⟩) _ _ (p3 S a7)⟩
theorem unS.on (h : unS S σ bk cn b un ut) (hc : cn ≤ cn') (hP : prS σ σ' bk cn) (h42 : σ'.2.2.1 42 b = σ.2.2.1 42 b) {E9 : Nat → Nat → Nat → Prop} (hF : fX E9 S S') (hE : ∀ s f a, E9 s f a → cs_k S a ≠ 3 ∧ cs_k S a ≠ 11 ∧ cs_k S a ≠ 20) : unS S' σ' bk cn' b un ut := by
  rcases h with ⟨w1, w2, w3⟩ | ⟨t, n, a, w1, w2, a1, a2, a3, a4, a6, a7⟩
  · exact Or.inl ⟨w1, w2, h42.trans w3⟩
  · obtain ⟨p1, p2, p3⟩ := hP 14 n t a2 a4 a3
    exact Or.inr ⟨t, n, a, w1, w2, h42.trans a1, ⟨a2.1, by have := a2.2; omega⟩, p1, p2, cR.fx hF (fun s f a q => (hE s f a q).1) _ _ _ a6, cLv.fx hF (fun s f a q => ⟨(hE s f a q).2.1, (hE s f a q).2.2, fun w => absurd w (hE s f a q).1⟩) _ _ (p3 S a7)⟩
/-- the reference's readCond of a rule -/
theorem r_rc {r : Int32} {σ2 : rf_S} (hb : b < 24) (hk : k < 6) (h40 : σ2.2.2.1 40 b = nI k) (o2 : ∀ Q : Int32 → rf_S → Prop, Q r σ2 → wp_X12_anyOf 60 Q (rf_ui σ 61 0)) : (∀ nd, nd < 2200 → r = nI nd → ∀ Q : Int32 → rf_S → Prop, Q 1 (rf_ua (rf_ua σ2 41 (6 * b + k) (nI nd)) 40 b (nI (k + 1))) → wp_X12_readCond Q σ (nI b)) ∧ (r = -1 → ∀ Q : Int32 → rf_S → Prop, Q 0 σ2 → wp_X12_readCond Q σ (nI b)) := by
  have eC : (nI b).toNatClampNeg = b := nI_clamp (by omega)
  have i40 : vp_in (nI b) (rf_n 40) := nI_in (N := 24) hb (by decide)
  refine ⟨fun nd hnd e Q hQ => ⟨60, by decide, o2 _ ⟨fun _ => ?_, fun q => ?_⟩⟩, fun e Q hQ => ⟨60, by decide, o2 _ ⟨fun q => ?_, fun _ => hQ⟩⟩⟩
  · have e6 : (6 * nI b) + σ2.2.2.1 40 (nI b).toNatClampNeg = nI (6 * b + k) := by rw [eC, h40, show (6 : Int32) = nI 6 from rfl, nI_mul, nI_add]
    refine ⟨i40, ?_, i40, i40, ?_⟩
    · rw [e6]; exact nI_in (N := 144) (by omega) (by decide)
    · rw [e6, eC, nI_clamp (by omega), h40, nI_1, e]; exact hQ
  · rw [e] at q; exact absurd (nI_pos' (by omega)) q
  · rw [e] at q; exact absurd q (by decide)
theorem prS.gf {nr0 : Nat} (h : rA bf z bk nr0 nm i cn σ) (hc : cn ≤ 1100) (hF : gF bk nr cn σ σ') : prS σ σ' bk cn := by
  intro d m t hm hl hr
  have hN := h.2.2.2.2.1.2.2.1
  have hT := h.2.2.2.2.1.2.2.2
  have hbk := h.2.2.1.2.2
  have hE : eK σ σ' bk cn := ⟨fun k n h1 h2 hn => hF.2.2.1 k n (by omega) (by omega) (fun _ => Or.inl hn.2), fun n hn => hF.2.2.2 52 n (by omega) (by omega) (fun _ => Or.inl hn.2), fun j _ _ => hF.2.2.1 46 j (by omega) (by omega) (by omega)⟩
  exact ⟨rR_bk hN hbk hc (fun k n h1 h2 hn => hE.1 k n h1 (by omega) hn) d m t hm hl hr, rLv_bk hN hbk hc hE d m t hm hl hr, fun S hc' => cLv_bk hN hbk hc hE hT d m t hm hl hr hc'⟩
theorem pE.e3 (h : cs_k S (cx 0) = 7) : ∀ s f a, pE (cx 0) s f a → cs_k S a ≠ 3 ∧ cs_k S a ≠ 11 ∧ cs_k S a ≠ 20 := fun s f a q => by
  rw [q.2.1, h]; decide
theorem rEx.e3 (h : rM S R ca by0 wt vi vl un ce be) : ∀ (s f a : Nat), rEx R ca by0 a → cs_k S a ≠ 3 ∧ cs_k S a ≠ 11 ∧ cs_k S a ≠ 20 := fun s f a q => by
  rcases q with e | e | e
  · rw [e, h.1.1]; decide
  · rw [e, h.2.1.1]; decide
  · rw [e, h.2.2.1.1]; decide
end PRT
