/-! ===== conditions read on both sides: new nodes, new Conds ===== -/
/-- one node more -/
theorem rA.nd {bf : Nat → Nat} {z bk nr i cn : Nat} {nm : Nat → Int64} {σ σ' : rf_S} (h : rA bf z bk nr nm i cn σ) (hq : 2 * (cn + 1) ≤ qp bf z i) (hi : ∀ k, k ≠ 53 → σ'.1 k = σ.1 k) (h53 : σ'.1 53 = nI (1100 * bk + (cn + 1))) (hl : σ'.2.1 = σ.2.1) (hr : ∀ k j, ¬ (47 ≤ k ∧ k ≤ 52 ∧ j = 1100 * bk + cn) → σ'.2.2.1 k j = σ.2.2.1 k j) (hb : ∀ k j, ¬ (k = 52 ∧ j = 1100 * bk + cn) → σ'.2.2.2 k j = σ.2.2.2 k j) (hN : ((σ'.2.2.1 47 (1100 * bk + cn) = 0 ∨ σ'.2.2.1 47 (1100 * bk + cn) = 1) → ∃ a b, σ'.2.2.1 48 (1100 * bk + cn) = nI a ∧ σ'.2.2.1 49 (1100 * bk + cn) = nI b ∧ inB bk cn a ∧ inB bk cn b) ∧ (σ'.2.2.1 47 (1100 * bk + cn) = 2 → ∃ a, σ'.2.2.1 48 (1100 * bk + cn) = nI a ∧ inB bk cn a)) (hT : (∃ o, 6 ≤ o ∧ o ≤ 13 ∧ σ'.2.2.1 47 (1100 * bk + cn) = nI o) → σ'.2.2.1 51 (1100 * bk + cn) = 1 → ∃ fr a, σ'.2.2.1 48 (1100 * bk + cn) = nI fr ∧ σ'.2.2.1 50 (1100 * bk + cn) = nI a ∧ 2120 * bk ≤ fr ∧ fr + a ≤ 2120 * (bk + 1)) : rA bf z bk nr nm i (cn + 1) σ' := by
  obtain ⟨a1, a2, ⟨a3, a4, a5⟩, a6, ⟨a7, a8, a9, a10⟩, ⟨a11, a12, a13⟩, a14⟩ := h
  have up : ∀ a, inB bk cn a → inB bk (cn + 1) a := fun a q => ⟨q.1, by have := q.2; omega⟩
  refine ⟨⟨(hi 3 (by decide)).trans a1.1, a1.2.1, a1.2.2.1, fun j hj => by rw [hr 1 j (by omega)]; exact a1.2.2.2 j hj⟩, ?_, ⟨(hi 5 (by decide)).trans a3, (hi 32 (by decide)).trans a4, a5⟩, fun j => by rw [hb 59 j (by omega)]; exact a6 j, ⟨h53, hq, fun n hn => ?_, fun n hn => ?_⟩, ⟨(hi 34 (by decide)).trans a11, a12, fun r hr' => by rw [hb 35 _ (by omega)]; exact a13 r hr'⟩, fun j hj hb' => by rw [hr 46 _ (by omega)]; exact a14 j hj hb'⟩
  · unfold rT rTk at a2 ⊢
    rw [hi 54 (by decide), hi 55 (by decide), hi 4 (by decide), hi 56 (by decide), hi 57 (by decide), hl]
    exact a2
  · by_cases e : n = 1100 * bk + cn
    · rw [e]
      refine ⟨fun q => ?_, fun q => ?_⟩
      · obtain ⟨a, b, b1, b2, b3, b4⟩ := hN.1 q
        exact ⟨a, b, b1, b2, up a b3, up b b4⟩
      · obtain ⟨a, b1, b2⟩ := hN.2 q
        exact ⟨a, b1, up a b2⟩
    · rw [hr 47 n (by omega), hr 48 n (by omega), hr 49 n (by omega)]
      obtain ⟨g1, g2⟩ := a9 n ⟨hn.1, by have := hn.2; omega⟩
      refine ⟨fun q => ?_, fun q => ?_⟩
      · obtain ⟨a, b, b1, b2, b3, b4⟩ := g1 q
        exact ⟨a, b, b1, b2, up a b3, up b b4⟩
      · obtain ⟨a, b1, b2⟩ := g2 q
        exact ⟨a, b1, up a b2⟩
  · by_cases e : n = 1100 * bk + cn
    · rw [e]; exact hT
    · rw [hr 47 n (by omega), hr 51 n (by omega), hr 48 n (by omega), hr 50 n (by omega)]
      exact a10 n ⟨hn.1, by have := hn.2; omega⟩
/-- the reference makes a node -/
def nD (σ : rf_S) (N : Nat) (o a b : Int32) : rf_S := rf_ui (rf_ua (rf_ua (rf_ua σ 47 N o) 48 N a) 49 N b) 53 (nI (N + 1))
section NDS
variable {bf : Nat → Nat} {z c bk nr i cn : Nat} {nm : Nat → Int64} {σ : rf_S} {o a b : Int32}
theorem r_node {Q : Int32 → rf_S → Prop} (h : rA bf z bk nr nm i cn σ) (hc : cn < 1100) (hQ : Q (nI (1100 * bk + cn)) (nD σ (1100 * bk + cn) o a b)) : wp_X12_node Q σ o a b := by
  have h53 := h.2.2.2.2.1.1
  have hbk := h.2.2.1.2.2
  have hin : vp_in (nI (1100 * bk + cn)) 2200 := nI_in (by omega) (by decide)
  refine ⟨by rw [h53]; exact hin, by rw [h53]; exact hin, by rw [h53]; exact hin, ?_⟩
  rw [h53, nI_clamp (by omega), nI_1, nI_pred]
  exact hQ
theorem nD47 {N : Nat} : (nD σ N o a b).2.2.1 47 N = o := by unfold nD; rw [r3ui, r3ua, if_neg (fun q => absurd q.1 (by decide)), r3ua, if_neg (fun q => absurd q.1 (by decide)), r3ua, if_pos ⟨rfl, rfl⟩]
theorem nD48 {N : Nat} : (nD σ N o a b).2.2.1 48 N = a := by unfold nD; rw [r3ui, r3ua, if_neg (fun q => absurd q.1 (by decide)), r3ua, if_pos ⟨rfl, rfl⟩]
theorem nD49 {N : Nat} : (nD σ N o a b).2.2.1 49 N = b := by unfold nD; rw [r3ui, r3ua, if_pos ⟨rfl, rfl⟩]
theorem nDr {N k j : Nat} (h : ¬ (47 ≤ k ∧ k ≤ 49 ∧ j = N)) : (nD σ N o a b).2.2.1 k j = σ.2.2.1 k j := by unfold nD; rw [r3ui, r3ua, if_neg (by omega), r3ua, if_neg (by omega), r3ua, if_neg (by omega)]
theorem nDi {N k : Nat} (h : k ≠ 53) : (nD σ N o a b).1 k = σ.1 k := by unfold nD; rw [r1ui, if_neg h]; rfl
theorem nDi53 {N : Nat} : (nD σ N o a b).1 53 = nI (N + 1) := by unfold nD; rw [r1ui, if_pos rfl]
theorem nD.pf {bk cn : Nat} (hc : cn < 1100) : pF bk cn σ (nD σ (1100 * bk + cn) o a b) := (((pF.rfl.ua (by omega) (by omega) (by omega)).ua (by omega) (by omega) (by omega)).ua (by omega) (by omega) (by omega)).ui (by omega)
theorem pF.ek {σ' : rf_S} (h : pF bk cn σ σ') (hc : cn ≤ 1100) : eK σ σ' bk cn := ⟨fun k n h1 h2 hn => h.2.2.1 k n (fun _ => Or.inl hn.2), fun n hn => h.2.2.2 52 n (fun _ => Or.inl hn.2), fun j _ _ => h.2.2.1 46 j (by omega)⟩
end NDS
/-- a new Cond -/
def nC (S : cs_S) (q : Nat) (a : Int32) (b : Int64) (d : Int32) (e : Option Nat) : cs_S := cs_ur (cs_ui (cs_ul (cs_ui (cs_new S q 2) 200 q a) 201 q b) 202 q d) 203 q e
section NCS
variable {G : Nat → Nat} {S : cs_S} {q : Nat} {a d : Int32} {b : Int64} {e : Option Nat} {E : Nat → Nat → Nat → Prop}
theorem c_cond {post : cs_S → Prop} (h : post (nC S q a b d e)) : ∀ S1, S1 = cs_new S q 2 → wp_X1_init post G S1 q a b d e := by
  intro S1 e1
  subst e1
  have k : cs_k (cs_new S q 2) q = 3 := by rw [knew, if_pos rfl]
  refine ⟨k, fun S10 e10 => ⟨by rw [e10]; exact k, fun S12 e12 => ⟨by rw [e12, e10]; exact k, fun S14 e14 => ⟨by rw [e14, e12, e10]; exact k, fun S16 e16 => ?_⟩⟩⟩⟩
  subst e10; subst e12; subst e14; subst e16
  exact h
theorem nC.fx (hq : cs_k S q = 0) : fX E S (nC S q a b d e) := ((((fX.rfl.new hq).ui (Or.inr hq)).ul (Or.inr hq)).ui (Or.inr hq)).ur (Or.inr hq)
theorem nC.k : cs_k (nC S q a b d e) q = 3 := by show cs_k (cs_new S q 2) q = 3; rw [knew, if_pos rfl]
theorem nC.k' {x : Nat} : cs_k (nC S q a b d e) x = if x = q then 3 else cs_k S x := by show cs_k (cs_new S q 2) x = _; rw [knew]
theorem nC.i0 : cs_i (nC S q a b d e) 200 q = a := by
  show cs_i (cs_ui (cs_ul (cs_ui (cs_new S q 2) 200 q a) 201 q b) 202 q d) 200 q = a
  rw [iui, if_neg (fun z => absurd z.1 (by decide)), iul, iui, if_pos ⟨rfl, rfl⟩]
theorem nC.i2 : cs_i (nC S q a b d e) 202 q = d := by
  show cs_i (cs_ui (cs_ul (cs_ui (cs_new S q 2) 200 q a) 201 q b) 202 q d) 202 q = d
  rw [iui, if_pos ⟨rfl, rfl⟩]
theorem nC.l1 : cs_l (nC S q a b d e) 201 q = b := by
  show cs_l (cs_ul (cs_ui (cs_new S q 2) 200 q a) 201 q b) 201 q = b
  rw [lul, if_pos ⟨rfl, rfl⟩]
theorem nC.r3 : cs_r (nC S q a b d e) 203 q = e := by
  show cs_r (cs_ur _ 203 q e) 203 q = e
  rw [rur, if_pos ⟨rfl, rfl⟩]
theorem nC.r {f : Nat} (hf : f ≠ 203) : cs_r (nC S q a b d e) f q = none := by
  show cs_r (cs_ur _ 203 q e) f q = none
  rw [rur, if_neg (fun z => hf z.1)]
  show cs_r (cs_new S q 2) f q = none
  rw [rnew, if_pos rfl]
end NCS
/-- a tree of the class whose cells, but for the root, lie in O -/
def cN (S : cs_S) (O : Nat → Prop) : (d : Nat) → Nat → cT d → Prop
  | 0, a, x => a = x.1
  | _ + 1, a, .inl x => a = x.1
  | d + 1, a, .inr (.inl t) => cs_k S a = 3 ∧ cs_i S 200 a = 34 ∧ ∃ b, cs_r S 204 a = some b ∧ O b ∧ cN S O d b t
  | d + 1, a, .inr (.inr ls) => cs_k S a = 3 ∧ cs_i S 200 a = 32 ∧ chL S (fun b g => O b ∧ cs_i S 200 b = 33 ∧ chL S (fun c t => O c ∧ cN S O d c t) (cs_r S 204 b) g) (cs_r S 204 a) ls
theorem chL_mono {S S' : cs_S} {α : Type} {R R' : Nat → α → Prop} : ∀ (l : List α) (hd : Option Nat), (∀ a t, t ∈ l → cs_k S a = 3 → R a t → R' a t ∧ cs_k S' a = 3 ∧ cs_r S' 206 a = cs_r S 206 a) → chL S R hd l → chL S' R' hd l := by
  intro l
  induction l with
  | nil => intro hd _ h; exact h
  | cons t l ih =>
    rintro hd hR ⟨a, h1, h2, h3, h4⟩
    obtain ⟨r1, r2, r3⟩ := hR a t (List.mem_cons_self ..) h2 h3
    exact ⟨a, h1, r2, r1, by rw [r3]; exact ih _ (fun a t ht => hR a t (List.mem_cons_of_mem _ ht)) h4⟩
theorem cN.cr {S : cs_S} {O : Nat → Prop} : ∀ d a (t : cT d), cN S O d a t → cR S d a t := by
  intro d
  induction d with
  | zero => intro a t h; exact h
  | succ d ih =>
    intro a t h
    rcases t with t | t | ls
    · exact h
    · obtain ⟨h1, h2, b, h3, -, h4⟩ := h
      exact ⟨h1, h2, b, h3, ih b t h4⟩
    · obtain ⟨h1, h2, h3⟩ := h
      exact ⟨h1, h2, chL_mono _ _ (fun b g _ hk hb => ⟨⟨hb.2.1, chL_mono _ _ (fun c t _ hk2 hc => ⟨ih c t hc.2, hk2, rfl⟩) hb.2.2⟩, hk, rfl⟩) h3⟩
theorem cN.st {S S' : cs_S} {O O' : Nat → Prop} (hO : ∀ a, O a → cs_k S a ≠ 0 → O' a ∧ cs_k S' a = cs_k S a ∧ cs_i S' 200 a = cs_i S 200 a ∧ cs_r S' 204 a = cs_r S 204 a ∧ cs_r S' 206 a = cs_r S 206 a) (hL : ∀ a, O a → cs_k S a ≠ 0) : ∀ d a (t : cT d), cs_k S' a = cs_k S a → cs_i S' 200 a = cs_i S 200 a → cs_r S' 204 a = cs_r S 204 a → cN S O d a t → cN S' O' d a t := by
  intro d
  induction d with
  | zero => intro a t _ _ _ h; exact h
  | succ d ih =>
    intro a t e1 e2 e3 h
    rcases t with t | t | ls
    · exact h
    · obtain ⟨h1, h2, b, h3, h4, h5⟩ := h
      obtain ⟨o1, o2, o3, o4, -⟩ := hO b h4 (hL b h4)
      exact ⟨e1.trans h1, e2.trans h2, b, e3.trans h3, o1, ih b t o2 o3 o4 h5⟩
    · obtain ⟨h1, h2, h3⟩ := h
      refine ⟨e1.trans h1, e2.trans h2, ?_⟩
      rw [e3]
      refine chL_mono _ _ (fun b g _ hk hb => ?_) h3
      obtain ⟨o1, o2, o3, o4, o5⟩ := hO b hb.1 (hL b hb.1)
      refine ⟨⟨o1, o3.trans hb.2.1, ?_⟩, o2.trans hk, o5⟩
      rw [o4]
      refine chL_mono _ _ (fun c t _ hk2 hc => ?_) hb.2.2
      obtain ⟨p1, p2, p3, p4, p5⟩ := hO c hc.1 (hL c hc.1)
      exact ⟨⟨p1, ih c t p2 p3 p4 hc.2⟩, p2.trans hk2, p5⟩
/-- changes that leave tests alone -/
def tE (E : Nat → Nat → Nat → Prop) (S : cs_S) : Prop := ∀ s f a, E s f a → cs_k S a ≠ 11 ∧ cs_k S a ≠ 20 ∧ (cs_k S a = 3 → s = 2 ∧ 204 ≤ f)
theorem lfR.fx {S S' : cs_S} {σ : rf_S} {E : Nat → Nat → Nat → Prop} {a n : Nat} (h : lfR S σ a n) (hF : fX E S S') (hE : tE E S) : lfR S' σ a n := by
  obtain ⟨h1, h2, h3⟩ := h
  obtain ⟨k, -, i, l, r, -⟩ := hF a (by rw [h1]; decide)
  have i' : ∀ f, cs_i S' f a = cs_i S f a := fun f => i f (fun q => absurd ((hE _ _ _ q).2.2 h1).1 (by decide))
  have l' : ∀ f, cs_l S' f a = cs_l S f a := fun f => l f (fun q => absurd ((hE _ _ _ q).2.2 h1).1 (by decide))
  have r' : cs_r S' 203 a = cs_r S 203 a := r 203 (fun q => absurd ((hE _ _ _ q).2.2 h1).2 (by decide))
  refine ⟨k.trans h1, h2, ?_⟩
  rw [i' 200, i' 202, l' 201, r']
  rcases h3 with h3 | h3 | h3 | ⟨s, o, g1, g2, g3, g4, pv, g5, g6, g7⟩
  · exact Or.inl h3
  · exact Or.inr (Or.inl h3)
  · exact Or.inr (Or.inr (Or.inl h3))
  · refine Or.inr (Or.inr (Or.inr ⟨s, o, g1, g2, g3, g4, pv, g5, ?_, g7⟩))
    obtain ⟨ty, b, ⟨v1, v2, v3, v4, v5, v6, v7⟩, w2, w3, w4⟩ := g6
    obtain ⟨vk, -, vi, -, vr, -⟩ := hF pv (by rw [v1]; decide)
    obtain ⟨yk, yn, -, -, -, yi, -⟩ := hF ty (by rw [v3]; decide)
    have vi' : ∀ f, cs_i S' f pv = cs_i S f pv := fun f => vi f (fun q => (hE _ _ _ q).1 v1)
    have yi' : ∀ j, cs_ai S' ty j = cs_ai S ty j := fun j => yi j (fun q => (hE _ _ _ q).2.1 v3)
    have eai : cs_ai S' ty = cs_ai S ty := funext yi'
    refine ⟨ty, b, ⟨vk.trans v1, (vr 1002 (fun q => (hE _ _ _ q).1 v1)).trans v2, yk.trans v3, yn.trans v4, v5, ?_, ?_⟩, (vi' _).trans w2, (vi' _).trans w3, fun q => ?_⟩
    · rw [vi', vi', vi', eai]; exact v6
    · rw [vi', vi']; exact v7
    · obtain ⟨fr, f1, f2, f3⟩ := w4 q
      exact ⟨fr, f1, f2, fun k hk => by rw [yi']; exact f3 k hk⟩
theorem cLv.fx {S S' : cs_S} {σ : rf_S} {E : Nat → Nat → Nat → Prop} (hF : fX E S S') (hE : tE E S) : ∀ d (t : cT d), cLv S σ d t → cLv S' σ d t := by
  intro d
  induction d with
  | zero => intro t h; exact lfR.fx h hF hE
  | succ d ih =>
    intro t h
    rcases t with t | t | ls
    · exact lfR.fx (a := t.1) (n := t.2) h hF hE
    · exact ih t h
    · exact fun g hg t ht => ih t (h g hg t ht)
/-- a test as a tree -/
def tL : (d : Nat) → Nat × Nat → cT d
  | 0, x => x
  | _ + 1, x => .inl x
theorem tL.n {S : cs_S} {O : Nat → Prop} {x : Nat × Nat} : ∀ d, cN S O d x.1 (tL d x)
  | 0 => rfl
  | _ + 1 => rfl
theorem tL.r {σ : rf_S} {x : Nat × Nat} : ∀ d, rR σ d x.2 (tL d x)
  | 0 => rfl
  | _ + 1 => rfl
theorem tL.l {S : cs_S} {σ : rf_S} {x : Nat × Nat} (h : lfR S σ x.1 x.2) : ∀ d, cLv S σ d (tL d x)
  | 0 => h
  | _ + 1 => h
theorem tL.v {σ : rf_S} {x : Nat × Nat} (h : nW σ x.2) : ∀ d, rLv σ d (tL d x)
  | 0 => h
  | _ + 1 => h
