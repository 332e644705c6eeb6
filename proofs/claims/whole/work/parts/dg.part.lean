/-! ===== a rule in the making ===== -/
/-- the class's: where its rows lie, and what it holds -/
def rL (S : cs_S) (R ca by0 wt nr : Nat) : Prop := cs_k S R = 9 ∧ cs_i S 800 R = nI nr ∧ (cs_r S 805 R = some ca ∧ cs_k S ca = 24 ∧ cs_n S ca = 5) ∧ (cs_r S 808 R = some by0 ∧ cs_k S by0 = 21 ∧ cs_n S by0 = 3) ∧ (cs_r S 817 R = some wt ∧ cs_k S wt = 26 ∧ cs_n S wt = 4) ∧ cs_i S 812 R = 0 ∧ cs_i S 813 R = 0 ∧ cs_r S 814 R = none
def rV (S : cs_S) (R ca by0 : Nat) (wh nu : Int32) (fi na : Int64) (un : Option Nat) (bc k : Nat) (wi qu : Int32) (ce : Nat → Option Nat) (be : Nat → Int64) : Prop := (cs_i S 802 R = wh ∧ cs_i S 803 R = nu ∧ cs_l S 804 R = fi ∧ cs_l S 801 R = na ∧ cs_r S 807 R = un ∧ cs_i S 809 R = nI bc ∧ cs_i S 806 R = nI k ∧ cs_i S 810 R = wi ∧ cs_i S 811 R = qu) ∧ (∀ j, cs_ar S ca j = ce j) ∧ ∀ j, cs_al S by0 j = be j
/-- what the class writes of it -/
def rEx (cx : Nat → Nat) (R ca by0 : Nat) (s f a : Nat) : Prop := pE (cx 0) s f a ∨ a = R ∨ a = ca ∨ a = by0
/-- trees of its conditions, both sides -/
def cdT (S : cs_S) (σ : rf_S) (bk cn b k : Nat) (ce : Nat → Option Nat) (tr : Nat → cT 14) : Prop := ∀ c, c < k → ∃ n a, σ.2.2.1 41 (6 * b + c) = nI n ∧ inB bk cn n ∧ rR σ 14 n (tr c) ∧ rLv σ 14 (tr c) ∧ ce c = some a ∧ cR S 14 a (tr c) ∧ cLv S σ 14 (tr c)
def unS (S : cs_S) (σ : rf_S) (bk cn b : Nat) (un : Option Nat) (ut : Option (cT 14)) : Prop := (ut = none ∧ un = none ∧ σ.2.2.1 42 b = -1) ∨ ∃ t n a, ut = some t ∧ un = some a ∧ σ.2.2.1 42 b = nI n ∧ inB bk cn n ∧ rR σ 14 n t ∧ rLv σ 14 t ∧ cR S 14 a t ∧ cLv S σ 14 t
section PRT
variable {G cx : Nat → Nat} {bf : Nat → Nat} {z c bk nr i cn cn' b k bc R ca by0 wt : Nat} {ra : Nat → Nat} {nm : Nat → Int64} {σ σ' : rf_S} {S S' S0 : cs_S} {wh nu wi qu : Int32} {fi na : Int64} {un : Option Nat} {ce : Nat → Option Nat} {be : Nat → Int64} {tr : Nat → cT 14} {ut : Option (cT 14)}
theorem rL.pe (h : rL S R ca by0 wt nr) (hF : fX (pE (cx 0)) S S') : rL S' R ca by0 wt nr := by
  obtain ⟨h1, h2, ⟨a1, a2, a3⟩, ⟨b1, b2, b3⟩, ⟨c1, c2, c3⟩, d1, d2, d3⟩ := h
  obtain ⟨k, -, i, -, r, -⟩ := hF R (by rw [h1]; decide)
  obtain ⟨ka, na, -⟩ := hF ca (by rw [a2]; decide)
  obtain ⟨kb, nb, -⟩ := hF by0 (by rw [b2]; decide)
  obtain ⟨kw, nw, -⟩ := hF wt (by rw [c2]; decide)
  have r' : ∀ f, cs_r S' f R = cs_r S f R := fun f => r f (fun q => absurd q.1 (by decide))
  have i' : ∀ f, 700 ≤ f → cs_i S' f R = cs_i S f R := fun f hf => i f (fun q => by have := q.2.2; omega)
  exact ⟨k.trans h1, (i' _ (by decide)).trans h2, ⟨(r' _).trans a1, ka.trans a2, na.trans a3⟩, ⟨(r' _).trans b1, kb.trans b2, nb.trans b3⟩, ⟨(r' _).trans c1, kw.trans c2, nw.trans c3⟩, (i' _ (by decide)).trans d1, (i' _ (by decide)).trans d2, (r' _).trans d3⟩
theorem rV.pe (h : rV S R ca by0 wh nu fi na un bc k wi qu ce be) (hl : rL S R ca by0 wt nr) (hF : fX (pE (cx 0)) S S') : rV S' R ca by0 wh nu fi na un bc k wi qu ce be := by
  obtain ⟨h1, -, ⟨a1, a2, a3⟩, ⟨b1, b2, b3⟩, -⟩ := hl
  obtain ⟨⟨v1, v2, v3, v4, v5, v6, v7, v8, v9⟩, v10, v11⟩ := h
  obtain ⟨k', -, i, l, r, -⟩ := hF R (by rw [h1]; decide)
  obtain ⟨-, -, -, -, -, -, -, ara⟩ := hF ca (by rw [a2]; decide)
  obtain ⟨-, -, -, -, -, -, alb, -⟩ := hF by0 (by rw [b2]; decide)
  have i' : ∀ f, 700 ≤ f → cs_i S' f R = cs_i S f R := fun f hf => i f (fun q => by have := q.2.2; omega)
  have l' : ∀ f, cs_l S' f R = cs_l S f R := fun f => l f (fun q => absurd q.1 (by decide))
  exact ⟨⟨(i' _ (by decide)).trans v1, (i' _ (by decide)).trans v2, (l' _).trans v3, (l' _).trans v4, (r 807 (fun q => absurd q.1 (by decide))).trans v5, (i' _ (by decide)).trans v6, (i' _ (by decide)).trans v7, (i' _ (by decide)).trans v8, (i' _ (by decide)).trans v9⟩, fun j => (ara j (fun q => absurd q.1 (by decide))).trans (v10 j), fun j => (alb j (fun q => absurd q.1 (by decide))).trans (v11 j)⟩
/-- under the frame of the rule's start -/
theorem fX.und (h : fX (pE (cx 0)) S0 S) (g : fX (rEx cx R ca by0) S S') (d1 : cs_k S0 R = 0) (d2 : cs_k S0 ca = 0) (d3 : cs_k S0 by0 = 0) : fX (pE (cx 0)) S0 S' := fun a ha => by
  obtain ⟨a1, a2, a3, a4, a5, a6, a7, a8⟩ := h a ha
  obtain ⟨b1, b2, b3, b4, b5, b6, b7, b8⟩ := g a (by rw [a1]; exact ha)
  have ne : ∀ s f, ¬ pE (cx 0) s f a → ¬ rEx cx R ca by0 s f a := fun s f hn q => by
    rcases q with q | q | q | q
    · exact hn q
    · exact ha (by rw [q]; exact d1)
    · exact ha (by rw [q]; exact d2)
    · exact ha (by rw [q]; exact d3)
  exact ⟨b1.trans a1, b2.trans a2, fun f e => (b3 f (ne 0 f e)).trans (a3 f e), fun f e => (b4 f (ne 1 f e)).trans (a4 f e), fun f e => (b5 f (ne 2 f e)).trans (a5 f e), fun f e => (b6 f (ne 3 f e)).trans (a6 f e), fun f e => (b7 f (ne 4 f e)).trans (a7 f e), fun f e => (b8 f (ne 5 f e)).trans (a8 f e)⟩
/-- writes of a rule leave the parser alone -/
theorem pA.rw (h : pA G cx bf z c nr ra nm i S) (hl : rL S R ca by0 wt nr) (d1 : cs_k S0 R = 0) (d3 : cs_k S0 by0 = 0) (h0 : fX (pE (cx 0)) S0 S) (hp0 : pS G cx bf z c nr ra nm S0) {E9 : Nat → Nat → Nat → Prop} (hF : fX E9 S S') (hE : ∀ s f a, E9 s f a → a = R ∨ a = ca ∨ a = by0) : pA G cx bf z c nr ra nm i S' := by
  obtain ⟨⟨s1, -⟩, ⟨s2, -⟩, ⟨s3, -⟩, ⟨s4, -⟩, ⟨s5, -⟩, ⟨s6, -⟩, ⟨s7, -⟩, -, -, s10, -⟩ := id h.1
  obtain ⟨⟨t1, -⟩, ⟨t2, -⟩, ⟨t3, -⟩, ⟨t4, -⟩, ⟨t5, -⟩, ⟨t6, -⟩, ⟨t7, -⟩, -, -, t10, -⟩ := id hp0
  obtain ⟨h1, -, ⟨a1, a2, a3⟩, ⟨b1, b2, b3⟩, -⟩ := id hl
  refine h.fx hF (fun s f a q => ⟨fun j hj e => ?_, fun r hr e => ?_⟩)
  · have hj : j = 0 ∨ j = 1 ∨ j = 2 ∨ j = 3 ∨ j = 4 ∨ j = 5 ∨ j = 6 := by omega
    rcases hE s f a q with w | w | w
    · rw [← w, e] at d1
      rcases hj with rfl | rfl | rfl | rfl | rfl | rfl | rfl <;> omega
    · rw [← w, e] at a2
      rcases hj with rfl | rfl | rfl | rfl | rfl | rfl | rfl <;> omega
    · rw [← w, e] at d3
      rcases hj with rfl | rfl | rfl | rfl | rfl | rfl | rfl <;> omega
  · have hr9 := (s10 r hr).2.1
    have hr0 := (t10 r hr).2.1
    rcases hE s f a q with w | w | w
    · rw [← w, e] at d1; omega
    · rw [← w, e] at a2; omega
    · rw [← w, e] at b2; omega
theorem pQ.rw {fk fp : Int32} (h : pQ G cx bf z c nr ra nm fk fp S) (hl : rL S R ca by0 wt nr) (d1 : cs_k S0 R = 0) (d3 : cs_k S0 by0 = 0) (h0 : fX (pE (cx 0)) S0 S) (hp0 : pS G cx bf z c nr ra nm S0) {E9 : Nat → Nat → Nat → Prop} (hF : fX E9 S S') (hE : ∀ s f a, E9 s f a → a = R ∨ a = ca ∨ a = by0) : pQ G cx bf z c nr ra nm fk fp S' := by
  obtain ⟨⟨s1, -⟩, ⟨s2, -⟩, ⟨s3, -⟩, ⟨s4, -⟩, ⟨s5, -⟩, ⟨s6, -⟩, ⟨s7, -⟩, -, -, s10, -⟩ := id h.1
  obtain ⟨⟨t1, -⟩, ⟨t2, -⟩, ⟨t3, -⟩, ⟨t4, -⟩, ⟨t5, -⟩, ⟨t6, -⟩, ⟨t7, -⟩, -, -, t10, -⟩ := id hp0
  obtain ⟨h1, -, ⟨a1, a2, a3⟩, ⟨b1, b2, b3⟩, -⟩ := id hl
  refine h.fx hF (fun s f a q => ⟨fun j hj e => ?_, fun r hr e => ?_⟩)
  · have hj : j = 0 ∨ j = 1 ∨ j = 2 ∨ j = 3 ∨ j = 4 ∨ j = 5 ∨ j = 6 := by omega
    rcases hE s f a q with w | w | w
    · rw [← w, e] at d1
      rcases hj with rfl | rfl | rfl | rfl | rfl | rfl | rfl <;> omega
    · rw [← w, e] at a2
      rcases hj with rfl | rfl | rfl | rfl | rfl | rfl | rfl <;> omega
    · rw [← w, e] at d3
      rcases hj with rfl | rfl | rfl | rfl | rfl | rfl | rfl <;> omega
  · have hr9 := (s10 r hr).2.1
    have hr0 := (t10 r hr).2.1
    rcases hE s f a q with w | w | w
    · rw [← w, e] at d1; omega
    · rw [← w, e] at a2; omega
    · rw [← w, e] at b2; omega
theorem c_addc {post : cs_S → Prop} {o : Option Nat} (hl : rL S R ca by0 wt nr) (hk : cs_i S 806 R = nI k) (hk5 : k < 5) (ho : ∀ b, o = some b → cs_k S b = 3) (hp : post (cs_ui (cs_uar S ca k o) 806 R (nI (k + 1)))) : wp_X7_addCond post G S R o := by
  obtain ⟨h1, -, ⟨a1, a2, a3⟩, -⟩ := hl
  refine ⟨h1, fun r12 e12 => ⟨ca, e12.trans a1, a2, fun q => ?_, fun _ r15 e15 => ⟨ca, e15.trans a1, a2, ?_, ho, fun S18 e18 => ⟨by rw [e18]; exact h1, fun S20 e20 => ?_⟩⟩⟩⟩
  · rw [a3, hk] at q; exact absurd q (nI_ge (b := 5) hk5 (by decide))
  · rw [a3, hk]; exact nI_in hk5 (by decide)
  · have e : cs_i S18 806 R = nI k := by rw [e18]; exact hk
    rw [e, nI_1] at e20
    rw [hk, nI_clamp (by omega)] at e18
    rw [e20, e18]; exact hp
theorem rL.addc (hl : rL S R ca by0 wt nr) {o : Option Nat} {x : Int32} : rL (cs_ui (cs_uar S ca k o) 806 R x) R ca by0 wt nr := by
  obtain ⟨h1, h2, h3, h4, h5, d1, d2, d3⟩ := hl
  exact ⟨h1, by rw [iui, if_neg (fun q => absurd q.1 (by decide))]; exact h2, h3, h4, h5, by rw [iui, if_neg (fun q => absurd q.1 (by decide))]; exact d1, by rw [iui, if_neg (fun q => absurd q.1 (by decide))]; exact d2, d3⟩
theorem rV.addc (h : rV S R ca by0 wh nu fi na un bc k wi qu ce be) {o : Option Nat} : rV (cs_ui (cs_uar S ca k o) 806 R (nI (k + 1))) R ca by0 wh nu fi na un bc (k + 1) wi qu (fun j => if j = k then o else ce j) be := by
  obtain ⟨⟨v1, v2, v3, v4, v5, v6, v7, v8, v9⟩, v10, v11⟩ := h
  refine ⟨⟨by rw [iui, if_neg (fun q => absurd q.1 (by decide))]; exact v1, by rw [iui, if_neg (fun q => absurd q.1 (by decide))]; exact v2, v3, v4, v5, by rw [iui, if_neg (fun q => absurd q.1 (by decide))]; exact v6, by rw [iui, if_pos ⟨rfl, rfl⟩], by rw [iui, if_neg (fun q => absurd q.1 (by decide))]; exact v8, by rw [iui, if_neg (fun q => absurd q.1 (by decide))]; exact v9⟩, fun j => ?_, v11⟩
  show _ = if j = k then o else ce j
  rw [arui, aruar]
  by_cases e : j = k
  · rw [if_pos ⟨rfl, e⟩, if_pos e]
  · rw [if_neg (fun q => e q.2), if_neg e]; exact v10 j
theorem cdT.on (h : cdT S σ bk cn b k ce tr) (hc : cn ≤ cn') (hP : prS σ σ' bk cn) (h41 : ∀ c, c < k → σ'.2.2.1 41 (6 * b + c) = σ.2.2.1 41 (6 * b + c)) {E9 : Nat → Nat → Nat → Prop} (hF : fX E9 S S') (hE : ∀ s f a, E9 s f a → cs_k S a ≠ 3 ∧ cs_k S a ≠ 11 ∧ cs_k S a ≠ 20) : cdT S' σ' bk cn' b k ce tr := by
  intro c hck
  obtain ⟨n, a, a1, a2, a3, a4, a5, a6, a7⟩ := h c hck
  obtain ⟨p1, p2, p3⟩ := hP 14 n (tr c) a2 a4 a3
  exact ⟨n, a, (h41 c hck).trans a1, ⟨a2.1, by have := a2.2; omega⟩, p1, p2, a5, cR.fx hF (fun s f a q => (hE s f a q).1) _ _ _ a6, cLv.fx hF (fun s f a q => ⟨(hE s f a q).2.1, (hE s f a q).2.2, fun w => absurd w (hE s f a q).1⟩) _ _ (p3 S a7)⟩
theorem unS.on (h : unS S σ bk cn b un ut) (hc : cn ≤ cn') (hP : prS σ σ' bk cn) (h42 : σ'.2.2.1 42 b = σ.2.2.1 42 b) {E9 : Nat → Nat → Nat → Prop} (hF : fX E9 S S') (hE : ∀ s f a, E9 s f a → cs_k S a ≠ 3 ∧ cs_k S a ≠ 11 ∧ cs_k S a ≠ 20) : unS S' σ' bk cn' b un ut := by
  rcases h with ⟨w1, w2, w3⟩ | ⟨t, n, a, w1, w2, a1, a2, a3, a4, a6, a7⟩
  · exact Or.inl ⟨w1, w2, h42.trans w3⟩
  · obtain ⟨p1, p2, p3⟩ := hP 14 n t a2 a4 a3
    exact Or.inr ⟨t, n, a, w1, w2, h42.trans a1, ⟨a2.1, by have := a2.2; omega⟩, p1, p2, cR.fx hF (fun s f a q => (hE s f a q).1) _ _ _ a6, cLv.fx hF (fun s f a q => ⟨(hE s f a q).2.1, (hE s f a q).2.2, fun w => absurd w (hE s f a q).1⟩) _ _ (p3 S a7)⟩
/-- the reference's readCond of a rule -/
theorem r_rc {r : Int32} {σ2 : rf_S} (hb : b < 24) (hk : k < 6) (h40 : σ2.2.2.1 40 b = nI k) (o2 : ∀ Q : Int32 → rf_S → Prop, Q r σ2 → wp_X12_anyOf 60 Q (rf_ui σ 61 0)) : (∀ nd, nd < 2200 → r = nI nd → ∀ Q : Int32 → rf_S → Prop, Q 1 (rf_ua (rf_ua σ2 41 (6 * b + k) (nI nd)) 40 b (nI (k + 1))) → wp_X12_readCond Q σ (nI b)) ∧ (r = -1 → ∀ Q : Int32 → rf_S → Prop, Q 0 σ2 → wp_X12_readCond Q σ (nI b)) := by
  have eC : (nI b).toNatClampNeg = b := nI_clamp (by omega)
  have i40 : vp_in (nI b) (rf_n 40) := nI_in (N := 24) hb (by decide)
  refine ⟨fun nd hnd e Q hQ => ⟨60, by decide, o2 _ ⟨fun _ => ?_, fun q => ?_⟩⟩, fun e Q hQ => ⟨60, by decide, o2 _ ⟨fun q => ?_, fun _ => hQ⟩⟩⟩
  · have e6 : (6 * nI b) + σ2.2.2.1 40 (nI b).toNatClampNeg = nI (6 * b + k) := by rw [eC, h40, show (6 : Int32) = nI 6 from rfl, nI_mul, nI_add]
    refine ⟨i40, ?_, i40, i40, ?_⟩
    · rw [e6]; exact nI_in (N := 144) (by omega) (by decide)
    · rw [e6, eC, nI_clamp (by omega), h40, nI_1, e]; exact hQ
  · rw [e] at q; exact absurd (nI_pos' (by omega)) q
  · rw [e] at q; exact absurd q (by decide)
end PRT
