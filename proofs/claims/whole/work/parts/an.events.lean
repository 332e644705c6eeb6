/-! ===== events of the class, where the log has one event more ===== -/
/-- E leaves values, texts, names and what is fixed of events -/
def e0 (S : cs_S) (E : Nat → Nat → Nat → Prop) : Prop := ∀ s f a, E s f a → cs_k S a ≠ 11 ∧ (cs_k S a = 20 → 24 < cs_n S a) ∧ (cs_k S a = 21 → 8 < cs_n S a ∨ bx S a) ∧ cs_k S a ≠ 26 ∧ (cs_k S a = 5 → 405 ≤ f)
section E0S
variable {S S' : cs_S} {σ σ' : rf_S} {E : Nat → Nat → Nat → Prop} {te te' ne nv : Nat}
theorem e0.all (h : e0 S E) (hF : fX E S S') {a : Nat} (hk : cs_k S a = 11 ∨ (cs_k S a = 20 ∧ cs_n S a ≤ 24) ∨ cs_k S a = 26) : cs_k S' a = cs_k S a ∧ cs_n S' a = cs_n S a ∧ (∀ f, cs_i S' f a = cs_i S f a) ∧ (∀ f, cs_r S' f a = cs_r S f a) ∧ (∀ j, cs_ai S' a j = cs_ai S a j) ∧ (∀ j, cs_al S' a j = cs_al S a j) ∧ ∀ j, cs_ar S' a j = cs_ar S a j := by
  obtain ⟨a1, a2, a3, -, a5, a6, a7, a8⟩ := hF a (by omega)
  have hno : ∀ s f, ¬ E s f a := fun s f z => by have := h s f a z; omega
  exact ⟨a1, a2, fun f => a3 f (hno _ _), fun f => a5 f (hno _ _), fun f => a6 f (hno _ _), fun f => a7 f (hno _ _), fun f => a8 f (hno _ _)⟩
theorem e0.a21 (h : e0 S E) (hF : fX E S S') {a : Nat} (hk : cs_k S a = 21) (hn : cs_n S a ≤ 8) (hb : ¬ bx S a) : cs_k S' a = cs_k S a ∧ cs_n S' a = cs_n S a ∧ (∀ f, cs_i S' f a = cs_i S f a) ∧ (∀ f, cs_r S' f a = cs_r S f a) ∧ (∀ j, cs_ai S' a j = cs_ai S a j) ∧ (∀ j, cs_al S' a j = cs_al S a j) ∧ ∀ j, cs_ar S' a j = cs_ar S a j := by
  obtain ⟨a1, a2, a3, -, a5, a6, a7, a8⟩ := hF a (by omega)
  have hno : ∀ s f, ¬ E s f a := fun s f z => by
    rcases (h s f a z).2.2.1 hk with y | y
    · omega
    · exact hb y
  exact ⟨a1, a2, fun f => a3 f (hno _ _), fun f => a5 f (hno _ _), fun f => a6 f (hno _ _), fun f => a7 f (hno _ _), fun f => a8 f (hno _ _)⟩
theorem e0.ev (h : e0 S E) (hF : fX E S S') {a : Nat} (hk : cs_k S a = 5) : cs_k S' a = 5 ∧ (∀ f, f < 405 → cs_i S' f a = cs_i S f a) ∧ (∀ f, f < 405 → cs_l S' f a = cs_l S f a) ∧ ∀ f, f < 405 → cs_r S' f a = cs_r S f a := by
  obtain ⟨a1, a2, a3, a4, a5, -⟩ := hF a (by omega)
  have hno : ∀ s f, f < 405 → ¬ E s f a := fun s f hf z => by have := (h s f a z).2.2.2.2 hk; omega
  exact ⟨a1.trans hk, fun f hf => a3 f (hno _ _ hf), fun f hf => a4 f (hno _ _ hf), fun f hf => a5 f (hno _ _ hf)⟩
theorem e0.vl (h : e0 S E) (hF : fX E S S') {va f : Nat} (g : vlR S σ te va f) : vlR S' σ te va f := by
  obtain ⟨g1, g2, g3, tx, L, g4, g5, g6, g7, g8, g9, g10⟩ := g
  obtain ⟨a1, a2, a3, a5, a6, a7, a8⟩ := h.all hF (a := va) (by omega)
  obtain ⟨b1, b2, b3, b5, b6, b7, b8⟩ := h.all hF (a := tx) (by omega)
  refine ⟨a1.trans g1, (a3 _).trans g2, (a3 _).trans g3, tx, L, (a5 _).trans g4, b1.trans g5, b2.trans g6, g7, ?_, fun k hk => by rw [b6]; exact g9 k hk, ?_⟩
  · rw [a3, g8]; exact vh_cong L (fun k _ => (b6 k).symm)
  · rcases g10 with ⟨d1, d2, o, d3, d4, d5⟩ | d
    · exact Or.inl ⟨d1, d2, o, d3, d4, fun k hk => by rw [b6]; exact d5 k hk⟩
    · exact Or.inr d
theorem e0.evr (h : e0 S E) (hF : fX E S S') {q e m : Nat} (g : evR S σ te q e m) : evR S' σ te q e m := by
  obtain ⟨g1, ⟨n, g2, g3⟩, g4, g5, nm, vs, g6, g7, g8, g9, g10, g11, g12⟩ := g
  obtain ⟨c1, c2, c3, c4⟩ := h.ev hF g1
  obtain ⟨a1, a2, a3, a5, a6, a7, a8⟩ := h.a21 hF g7 (by omega) (fun y => by
    obtain ⟨⟨n', l, y1, y2, y3⟩, -⟩ := g12 0 (by have := y.1; omega)
    obtain ⟨x, hx⟩ := y.2
    exact wd_bx y3 y1 x hx)
  obtain ⟨b1, b2, b3, b5, b6, b7, b8⟩ := h.all hF (a := vs) (by omega)
  refine ⟨c1, ⟨n, g2, by rw [c3 401 (by omega)]; exact g3⟩, g4, g5, nm, vs, (c4 403 (by omega)).trans g6, a1.trans g7, a2.trans g8, (c4 404 (by omega)).trans g9, b1.trans g10, b2.trans g11, fun k hk => ?_⟩
  obtain ⟨d1, ⟨va, d2, d3⟩, d4⟩ := g12 k hk
  exact ⟨by rw [a7]; exact d1, ⟨va, by rw [b8]; exact d2, h.vl hF d3⟩, fun z => by rw [a7, a7]; exact d4 z⟩
/-- and the reference -/
theorem vlR.eb {va f : Nat} (g : vlR S σ te va f) (h : eB σ σ' ne nv te) (hte : te ≤ te') (hf : f < 8 * ne) : vlR S σ' te' va f := by
  have r14 : σ'.2.2.1 14 f = σ.2.2.1 14 f := h.2.1 14 f (by omega) (by omega) (by omega) (by omega) (by omega) (by omega)
  have r15 : σ'.2.2.1 15 f = σ.2.2.1 15 f := h.2.1 15 f (by omega) (by omega) (by omega) (by omega) (by omega) (by omega)
  have r16 : σ'.2.2.1 16 f = σ.2.2.1 16 f := h.2.1 16 f (by omega) (by omega) (by omega) (by omega) (by omega) (by omega)
  obtain ⟨g1, g2, g3, tx, L, g4, g5, g6, g7, g8, g9, g10⟩ := g
  refine ⟨g1, by rw [r14]; exact g2, by rw [r15]; exact g3, tx, L, g4, g5, g6, g7, by rw [r14, r15]; exact g8, g9, ?_⟩
  rw [r14, r15, r16]
  rcases g10 with ⟨d1, d2, o, d3, d4, d5⟩ | d
  · exact Or.inl ⟨d1, d2, o, d3, by omega, fun k hk => by rw [h.2.1 18 (o + k) (by omega) (by omega) (by omega) (by omega) (by omega) (by omega)]; exact d5 k hk⟩
  · exact Or.inr d
theorem evR.eb {q e m : Nat} (g : evR S σ te q e m) (h : eB σ σ' ne nv te) (hte : te ≤ te') (he : e < ne) : evR S σ' te' q e m := by
  obtain ⟨g1, ⟨n, g2, g3⟩, g4, g5, nm, vs, g6, g7, g8, g9, g10, g11, g12⟩ := g
  refine ⟨g1, ⟨n, g2, by rw [h.2.2 11 e (by omega) (by omega) (by omega), h.2.2 12 e (by omega) (by omega) (by omega)]; exact g3⟩, g4, by rw [h.2.1 9 e (by omega) (by omega) (by omega) (by omega) (by omega) (by omega)]; exact g5, nm, vs, g6, g7, g8, g9, g10, g11, fun k hk => ?_⟩
  obtain ⟨d1, ⟨va, d2, d3⟩, d4⟩ := g12 k hk
  exact ⟨by rw [h.2.2 13 (8 * e + k) (by omega) (by omega) (by omega)]; exact d1, ⟨va, d2, d3.eb h hte (by omega)⟩, d4⟩
theorem WV.eb {bk nr now q r e m : Nat} {n : Nat → Nat} {Ow : Nat → Nat → Prop} (g : WV S σ te bk nr now n Ow q r e) (h : eB σ σ' ne nv te) (hte : te ≤ te') (he : e < ne) (hm : eW σ te e m) : WV S σ' te' bk nr now n Ow q r e := by
  obtain ⟨h1, h2, h3, h4, h5, nm, vs, π, h6, h7, h8, h9, h10, h11, h12, h13, h14, h15⟩ := g
  refine ⟨h1, h2, h3, h4, h5, nm, vs, π, h6, h7, h8, h9, h10, h11, h12, h13, h14, fun j hj => ?_⟩
  obtain ⟨z1, z2, va, i, z3, z4, z5⟩ := h15 j hj
  have l := (fO_lt hm.2.2.1 hm.2.1 z4).1
  have hm8 := hm.2.1
  rw [h.2.2 37 _ (by omega) (by omega) (by omega)]
  exact ⟨z1, z2, va, i, z3, by rw [h.fo he hm.2.2.1 hm.2.1]; exact z4, z5.eb h hte (by omega)⟩
theorem WV.f0 {bk nr now q r e : Nat} {n : Nat → Nat} {Ow : Nat → Nat → Prop} (g : WV S σ te bk nr now n Ow q r e) (h : e0 S E) (hF : fX E S S') (h21 : ∀ s f a, E s f a → cs_k S a ≠ 21) : WV S' σ te bk nr now n Ow q r e := by
  obtain ⟨h1, h2, h3, h4, h5, nm, vs, π, h6, h7, h8, h9, h10, h11, h12, h13, h14, h15⟩ := g
  obtain ⟨a1, a2, a3, a4⟩ := h.ev hF h1
  obtain ⟨b1, b2, -, -, -, -, b7', -⟩ := hF nm (by omega)
  have b7 : ∀ j, cs_al S' nm j = cs_al S nm j := fun j => b7' j (fun z => h21 _ _ _ z h7)
  obtain ⟨c1, c2, -, -, -, -, c8⟩ := h.all hF (a := vs) (by omega)
  refine ⟨a1, (a2 400 (by omega)).trans h2, (a3 401 (by omega)).trans h3, (a2 402 (by omega)).trans h4, h5, nm, vs, π, (a4 403 (by omega)).trans h6, b1.trans h7, b2.trans h8, (a4 404 (by omega)).trans h9, c1.trans h10, c2.trans h11, h12, h13, h14, fun j hj => ?_⟩
  obtain ⟨z1, z2, va, i, z3, z4, z5⟩ := h15 j hj
  exact ⟨by rw [b7]; exact z1, fun y => by rw [b7, b7]; exact z2 y, va, i, by rw [c8]; exact z3, z4, h.vl hF z5⟩
/-- an event that waited, now that it has come -/
theorem WV.evr {bk nr now q r e m : Nat} {n π' : Nat → Nat} {Ow : Nat → Nat → Prop} (g : WV S σ te bk nr now n Ow q r e) (hm : eW σ te e m) (hte : te ≤ 24000) (hn8 : n r ≤ 8) (hd : ∀ i j, i < n r → j < n r → σ.2.2.2 37 (3 * (12 * bk + r) + i) = σ.2.2.2 37 (3 * (12 * bk + r) + j) → i = j) (hs : srt (fun i => σ.2.2.2 37 (3 * (12 * bk + r) + i)) (n r) π') (h9 : σ'.2.2.1 9 ne = nI (n r)) (h11 : σ'.2.2.2 11 ne = 7020097461410594816) (h12 : σ'.2.2.2 12 ne = 0) (h18 : ∀ j, j < te → σ'.2.2.1 18 j = σ.2.2.1 18 j) (hf : ∀ j, j < n r → σ'.2.2.2 13 (8 * ne + j) = σ.2.2.2 37 (3 * (12 * bk + r) + π' j) ∧ ∃ i, fO σ e (σ.2.2.2 37 (3 * (12 * bk + r) + π' j)) = some i ∧ σ'.2.2.1 14 (8 * ne + j) = σ.2.2.1 14 (8 * e + i) ∧ σ'.2.2.1 15 (8 * ne + j) = σ.2.2.1 15 (8 * e + i) ∧ σ'.2.2.1 16 (8 * ne + j) = σ.2.2.1 16 (8 * e + i)) (hal : ∃ n0, 1 ≤ n0 ∧ wdR n0 49735996165586944 7020097461410594816 0) : evR S σ' te q ne (n r) := by
  obtain ⟨h1, h2, h3, h4, h5, nm, vs, π, h6, h7, h8, h9', h10, h11', h12', h13, h14, h15⟩ := g
  obtain ⟨n0, n1, n2⟩ := hal
  -- the two orders are one
  have hsπ : srt (fun i => σ.2.2.2 37 (3 * (12 * bk + r) + i)) (n r) π := by
    refine ⟨h13, h14, ?_⟩
    have step : ∀ j, 0 < j → j < n r → σ.2.2.2 37 (3 * (12 * bk + r) + π (j - 1)) < σ.2.2.2 37 (3 * (12 * bk + r) + π j) := fun j h0 hj => by
      obtain ⟨⟨a, l, a1, a2, a3⟩, z2, -⟩ := h15 j hj
      obtain ⟨⟨a', l', b1, b2, b3⟩, -⟩ := h15 (j - 1) (by omega)
      exact lg_pos.mp ((wd_ord a3 b3 a2 b2).mp (z2 h0))
    intro i j hij hj
    have : ∀ d, i + (d + 1) < n r → σ.2.2.2 37 (3 * (12 * bk + r) + π i) < σ.2.2.2 37 (3 * (12 * bk + r) + π (i + (d + 1))) := by
      intro d
      induction d with
      | zero => intro h; exact step (i + 1) (by omega) h
      | succ d ih =>
        intro h
        exact Int64.lt_trans (ih (by omega)) (step (i + (d + 1 + 1)) (by omega) h)
    have h9 := this (j - i - 1) (by omega)
    rw [show i + (j - i - 1 + 1) = j from by omega] at h9
    exact h9
  have epi := srt_uni hd hsπ hs
  refine ⟨h1, ⟨n0, n1, by rw [h3, h11, h12]; exact n2⟩, hn8, h9, nm, vs, h6, h7, h8, h9', h10, h11', fun j hj => ?_⟩
  obtain ⟨⟨a, l, a1, a2, a3⟩, z2, va, i, z3, z4, z5⟩ := h15 j hj
  obtain ⟨f1, i', f2, f3, f4, f5⟩ := hf j hj
  have ep := epi j hj
  rw [← ep, z4] at f2
  cases f2
  refine ⟨⟨a, l, a1, a2, by rw [f1, ← ep]; exact a3⟩, ⟨va, z3, ?_⟩, z2⟩
  refine z5.on (fun y hy => ⟨rfl, rfl, rfl, rfl, rfl, rfl, fun _ _ => rfl⟩) f3 f4 f5 h18 (Nat.le_refl _)
end E0S
