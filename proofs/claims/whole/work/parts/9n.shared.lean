/-! ===== the class: what is never changed ===== -/
/-- a row of one number that is no word -/
def bx (S : cs_S) (a : Nat) : Prop := cs_n S a = 1 ∧ ∃ x : Int32, cs_al S a 0 = x.toInt64
theorem wd_bx {n : Nat} {c h l : Int64} (hw : wdR n c h l) (h1 : 1 ≤ n) (x : Int32) : c ≠ x.toInt64 := fun e => by
  obtain ⟨f, hn, hf, hc, -⟩ := hw
  have hf5 : ∀ i, f i < 2 ^ 5 := fun i => by rcases hf i with z | z <;> omega
  have h0 : 1 ≤ f 0 := by rcases hf 0 with z | z <;> omega
  have a1 := (dg_part 5 12 f hf5 1 (by omega)).2
  have a2 := dg_lt 5 12 f hf5 12 (Nat.le_refl _)
  have a3 : dg 5 12 f 1 = f 0 * 2 ^ 55 := by
    show 0 + f 0 * 2 ^ (5 * (12 - 1 - 0)) = f 0 * 2 ^ 55
    rw [Nat.zero_add]
  have a4 : (2 : Nat) ^ (5 * 12) = 1152921504606846976 := by decide
  have a5 : (2 : Nat) ^ 55 = 36028797018963968 := by decide
  rw [a4] at a2
  rw [a3, a5] at a1
  rw [hc] at e
  have e2 := congrArg Int64.toInt e
  rw [i64_toInt (by omega), Int32.toInt_toInt64] at e2
  have a6 : x.toInt ≤ 2147483647 := Int32.toInt_le x
  omega
/-- E changes nothing of values, texts, names, conditions; of events, keys and rules only what runs; wt: the row of what is wanted -/
def sh (S : cs_S) (wt : Nat) (E : Nat → Nat → Nat → Prop) : Prop := ∀ s f a, cs_k S a ≠ 0 → E s f a → a = wt ∨ (cs_k S a ≠ 3 ∧ cs_k S a ≠ 11 ∧ (cs_k S a = 20 → 24 < cs_n S a) ∧ (cs_k S a = 21 → 8 < cs_n S a ∨ bx S a) ∧ cs_k S a ≠ 24 ∧ cs_k S a ≠ 26 ∧ (cs_k S a = 5 → 405 ≤ f) ∧ (cs_k S a = 6 → 503 ≤ f) ∧ (cs_k S a = 9 → 812 ≤ f ∧ f ≠ 816 ∧ f ≠ 817))
section SH
variable {E : Nat → Nat → Nat → Prop} {S S' : cs_S} {wt : Nat}
theorem sh.all (h : sh S wt E) (hF : fX E S S') {a : Nat} (hk : cs_k S a = 3 ∨ cs_k S a = 11 ∨ (cs_k S a = 20 ∧ cs_n S a ≤ 24) ∨ cs_k S a = 24 ∨ cs_k S a = 26) (hne : a ≠ wt) : cs_k S' a = cs_k S a ∧ cs_n S' a = cs_n S a ∧ (∀ f, cs_i S' f a = cs_i S f a) ∧ (∀ f, cs_l S' f a = cs_l S f a) ∧ (∀ f, cs_r S' f a = cs_r S f a) ∧ (∀ j, cs_ai S' a j = cs_ai S a j) ∧ (∀ j, cs_al S' a j = cs_al S a j) ∧ (∀ j, cs_ar S' a j = cs_ar S a j) := by
  have hl : cs_k S a ≠ 0 := by omega
  obtain ⟨a1, a2, a3, a4, a5, a6, a7, a8⟩ := hF a hl
  have hno : ∀ s f, ¬ E s f a := fun s f z => by
    rcases h s f a hl z with q | q
    · exact hne q
    · omega
  exact ⟨a1, a2, fun f => a3 f (hno _ _), fun f => a4 f (hno _ _), fun f => a5 f (hno _ _), fun f => a6 f (hno _ _), fun f => a7 f (hno _ _), fun f => a8 f (hno _ _)⟩
theorem sh.a21 (h : sh S wt E) (hF : fX E S S') {a : Nat} (hk : cs_k S a = 21) (hn : cs_n S a ≤ 8) (hb : ¬ bx S a) (hne : a ≠ wt) : cs_k S' a = cs_k S a ∧ cs_n S' a = cs_n S a ∧ (∀ f, cs_i S' f a = cs_i S f a) ∧ (∀ f, cs_l S' f a = cs_l S f a) ∧ (∀ f, cs_r S' f a = cs_r S f a) ∧ (∀ j, cs_ai S' a j = cs_ai S a j) ∧ (∀ j, cs_al S' a j = cs_al S a j) ∧ (∀ j, cs_ar S' a j = cs_ar S a j) := by
  have hl : cs_k S a ≠ 0 := by omega
  obtain ⟨a1, a2, a3, a4, a5, a6, a7, a8⟩ := hF a hl
  have hno : ∀ s f, ¬ E s f a := fun s f z => by
    rcases h s f a hl z with q | q
    · exact hne q
    · rcases q.2.2.2.1 hk with y | y
      · omega
      · exact hb y
  exact ⟨a1, a2, fun f => a3 f (hno _ _), fun f => a4 f (hno _ _), fun f => a5 f (hno _ _), fun f => a6 f (hno _ _), fun f => a7 f (hno _ _), fun f => a8 f (hno _ _)⟩
theorem sh.ev (h : sh S wt E) (hF : fX E S S') (hwk : cs_k S wt = 26) {a : Nat} (hk : cs_k S a = 5) : cs_k S' a = 5 ∧ (∀ f, f < 405 → cs_i S' f a = cs_i S f a) ∧ (∀ f, f < 405 → cs_l S' f a = cs_l S f a) ∧ ∀ f, f < 405 → cs_r S' f a = cs_r S f a := by
  have hl : cs_k S a ≠ 0 := by omega
  obtain ⟨a1, a2, a3, a4, a5, -⟩ := hF a hl
  have hno : ∀ s f, f < 405 → ¬ E s f a := fun s f hf z => by
    rcases h s f a hl z with q | q
    · rw [q] at hk; omega
    · have := q.2.2.2.2.2.2.1 hk; omega
  exact ⟨a1.trans hk, fun f hf => a3 f (hno _ _ hf), fun f hf => a4 f (hno _ _ hf), fun f hf => a5 f (hno _ _ hf)⟩
theorem sh.ky (h : sh S wt E) (hF : fX E S S') (hwk : cs_k S wt = 26) {a : Nat} (hk : cs_k S a = 6) : cs_k S' a = 6 ∧ (∀ f, f < 503 → cs_i S' f a = cs_i S f a) ∧ ∀ f, f < 503 → cs_r S' f a = cs_r S f a := by
  have hl : cs_k S a ≠ 0 := by omega
  obtain ⟨a1, a2, a3, a4, a5, -⟩ := hF a hl
  have hno : ∀ s f, f < 503 → ¬ E s f a := fun s f hf z => by
    rcases h s f a hl z with q | q
    · rw [q] at hk; omega
    · have := q.2.2.2.2.2.2.2.1 hk; omega
  exact ⟨a1.trans hk, fun f hf => a3 f (hno _ _ hf), fun f hf => a5 f (hno _ _ hf)⟩
theorem sh.ru (h : sh S wt E) (hF : fX E S S') (hwk : cs_k S wt = 26) {a : Nat} (hk : cs_k S a = 9) : cs_k S' a = 9 ∧ (∀ f, f < 812 ∨ f = 816 ∨ f = 817 → cs_i S' f a = cs_i S f a) ∧ (∀ f, f < 812 ∨ f = 816 ∨ f = 817 → cs_l S' f a = cs_l S f a) ∧ ∀ f, f < 812 ∨ f = 816 ∨ f = 817 → cs_r S' f a = cs_r S f a := by
  have hl : cs_k S a ≠ 0 := by omega
  obtain ⟨a1, a2, a3, a4, a5, -⟩ := hF a hl
  have hno : ∀ s f, f < 812 ∨ f = 816 ∨ f = 817 → ¬ E s f a := fun s f hf z => by
    rcases h s f a hl z with q | q
    · rw [q] at hk; omega
    · have := q.2.2.2.2.2.2.2.2 hk; omega
  exact ⟨a1.trans hk, fun f hf => a3 f (hno _ _ hf), fun f hf => a4 f (hno _ _ hf), fun f hf => a5 f (hno _ _ hf)⟩
theorem sh.cv (h : sh S wt E) (hF : fX E S S') (hwk : cs_k S wt = 26) {va tx L : Nat} (g : cvW S va tx L) : cvW S' va tx L ∧ vX S' va = vX S va := by
  obtain ⟨g1, g2, g3, g4, g5, g6, g7⟩ := g
  have hva : va ≠ wt := fun e => by rw [e] at g1; omega
  have htx : tx ≠ wt := fun e => by rw [e] at g3; omega
  obtain ⟨a1, a2, a3, a4, a5, a6, a7, a8⟩ := h.all hF (a := va) (by omega) hva
  obtain ⟨b1, b2, b3, b4, b5, b6, b7, b8⟩ := h.all hF (a := tx) (by omega) htx
  refine ⟨⟨a1.trans g1, (a5 _).trans g2, b1.trans g3, b2.trans g4, g5, ?_, ?_⟩, ?_⟩
  · rw [a3, a3, a3, g6]; exact vh_cong L (fun k _ => (b6 k).symm)
  · rw [a3, a3]; exact g7
  · refine Prod.ext (a3 _) (Prod.ext (a3 _) (funext fun k => ?_))
    show (if cs_i S' 1000 va = 1 ∧ k < (cs_i S' 1001 va).toNatClampNeg then cs_ai S' ((cs_r S' 1002 va).getD 0) k else 0) = (if cs_i S 1000 va = 1 ∧ k < (cs_i S 1001 va).toNatClampNeg then cs_ai S ((cs_r S 1002 va).getD 0) k else 0)
    rw [a3, a3, a5, g2]
    show (if _ then cs_ai S' tx k else 0) = (if _ then cs_ai S tx k else 0)
    rw [b6]
theorem sh.vk (h : sh S wt E) (hF : fX E S S') (hwk : cs_k S wt = 26) {va : Nat} (g : vK S va) : vK S' va ∧ vX S' va = vX S va := by
  obtain ⟨tx, L, g⟩ := g
  exact ⟨⟨tx, L, (h.cv hF hwk g).1⟩, (h.cv hF hwk g).2⟩
theorem sh.row (h : sh S wt E) (hF : fX E S S') (hwk : cs_k S wt = 26) {vs n : Nat} (hk : cs_k S vs = 26) (hne : vs ≠ wt) (g : vRow S vs n) : vRow S' vs n ∧ ∀ k, k < n → rX S' vs k = rX S vs k := by
  obtain ⟨a1, a2, a3, a4, a5, a6, a7, a8⟩ := h.all hF (a := vs) (by omega) hne
  refine ⟨fun k hk => ?_, fun k hk => ?_⟩
  · obtain ⟨va, v1, v2⟩ := g k hk
    exact ⟨va, by rw [a8]; exact v1, (h.vk hF hwk v2).1⟩
  · obtain ⟨va, v1, v2⟩ := g k hk
    unfold rX
    rw [a8, v1]
    exact (h.vk hF hwk v2).2
theorem sh.kyw (h : sh S wt E) (hF : fX E S S') (hwk : cs_k S wt = 26) {a vs n : Nat} (hne : vs ≠ wt) (g : kyW S a vs n) : kyW S' a vs n ∧ ∀ k, k < n → rX S' vs k = rX S vs k := by
  obtain ⟨g1, g2, g3, g4, g5, g6, g7⟩ := g
  obtain ⟨c1, c2, c3⟩ := h.ky hF hwk g1
  obtain ⟨a1, a2, -⟩ := h.all hF (a := vs) (by omega) hne
  obtain ⟨r1, r2⟩ := h.row hF hwk g3 hne g6
  exact ⟨⟨c1, (c3 500 (by omega)).trans g2, a1.trans g3, a2.trans g4, g5, r1, by rw [c2 501 (by omega), g7]; exact kX_cong (fun k hk => (r2 k hk).symm)⟩, r2⟩
theorem sh.vl (h : sh S wt E) (hF : fX E S S') (hwk : cs_k S wt = 26) {σ : rf_S} {te va f : Nat} (g : vlR S σ te va f) : vlR S' σ te va f := by
  obtain ⟨g1, g2, g3, tx, L, g4, g5, g6, g7, g8, g9, g10⟩ := g
  have hva : va ≠ wt := fun e => by rw [e] at g1; omega
  have htx : tx ≠ wt := fun e => by rw [e] at g5; omega
  obtain ⟨a1, a2, a3, a4, a5, a6, a7, a8⟩ := h.all hF (a := va) (by omega) hva
  obtain ⟨b1, b2, b3, b4, b5, b6, b7, b8⟩ := h.all hF (a := tx) (by omega) htx
  refine ⟨a1.trans g1, (a3 _).trans g2, (a3 _).trans g3, tx, L, (a5 _).trans g4, b1.trans g5, b2.trans g6, g7, ?_, fun k hk => by rw [b6]; exact g9 k hk, ?_⟩
  · rw [a3, g8]; exact vh_cong L (fun k _ => (b6 k).symm)
  · rcases g10 with ⟨d1, d2, o, d3, d4, d5⟩ | d
    · exact Or.inl ⟨d1, d2, o, d3, d4, fun k hk => by rw [b6]; exact d5 k hk⟩
    · exact Or.inr d
theorem sh.evr (h : sh S wt E) (hF : fX E S S') (hwk : cs_k S wt = 26) {σ : rf_S} {te q e m : Nat} (hne : ∀ vs, cs_r S 404 q = some vs → vs ≠ wt) (g : evR S σ te q e m) : evR S' σ te q e m := by
  obtain ⟨g1, ⟨n, g2, g3⟩, g4, g5, nm, vs, g6, g7, g8, g9, g10, g11, g12⟩ := g
  obtain ⟨c1, c2, c3, c4⟩ := h.ev hF hwk g1
  have hnm : nm ≠ wt := fun e => by rw [e] at g7; omega
  obtain ⟨a1, a2, a3, a4, a5, a6, a7, a8⟩ := h.a21 hF g7 (by omega) (fun y => by
    obtain ⟨⟨n', l, y1, y2, y3⟩, -⟩ := g12 0 (by have := y.1; omega)
    obtain ⟨x, hx⟩ := y.2
    exact wd_bx y3 y1 x hx) hnm
  obtain ⟨b1, b2, b3, b4, b5, b6, b7, b8⟩ := h.all hF (a := vs) (by omega) (hne vs g9)
  refine ⟨c1, ⟨n, g2, by rw [c3 401 (by omega)]; exact g3⟩, g4, g5, nm, vs, (c4 403 (by omega)).trans g6, a1.trans g7, a2.trans g8, (c4 404 (by omega)).trans g9, b1.trans g10, b2.trans g11, fun k hk => ?_⟩
  obtain ⟨d1, ⟨va, d2, d3⟩, d4⟩ := g12 k hk
  exact ⟨by rw [a7]; exact d1, ⟨va, by rw [b8]; exact d2, h.vl hF hwk d3⟩, fun z => by rw [a7, a7]; exact d4 z⟩
theorem sh.lf (h : sh S wt E) (hF : fX E S S') (hwk : cs_k S wt = 26) {σ : rf_S} {c n : Nat} (g : lfR S σ c n) : lfR S' σ c n := by
  obtain ⟨g1, g2, g3⟩ := g
  have hc : c ≠ wt := fun e => by rw [e] at g1; omega
  obtain ⟨a1, a2, a3, a4, a5, a6, a7, a8⟩ := h.all hF (a := c) (by omega) hc
  refine ⟨a1.trans g1, g2, ?_⟩
  rw [a3, a4, a3, a5]
  rcases g3 with z | z | z | ⟨s, o, z1, z2, z3, z4, pv, z5, z6, z7⟩
  · exact Or.inl z
  · exact Or.inr (Or.inl z)
  · exact Or.inr (Or.inr (Or.inl z))
  · refine Or.inr (Or.inr (Or.inr ⟨s, o, z1, z2, z3, z4, pv, z5, ?_, z7⟩))
    obtain ⟨ty, a, y1, y2, y3, y4⟩ := z6
    have hpv : pv ≠ wt := fun e => by have := y1.1; rw [e] at this; omega
    have hty : ty ≠ wt := fun e => by have := y1.2.2.1; rw [e] at this; omega
    obtain ⟨p1, p2, p3, -⟩ := h.all hF (a := pv) (by have := y1.1; omega) hpv
    obtain ⟨-, -, -, -, -, b6, -⟩ := h.all hF (a := ty) (by have := y1.2.2.1; have := y1.2.2.2.1; have := y1.2.2.2.2.1; omega) hty
    refine ⟨ty, a, (h.cv hF hwk y1).1, by rw [p3]; exact y2, by rw [p3]; exact y3, fun q => ?_⟩
    obtain ⟨fr, x1, x2, x3⟩ := y4 q
    exact ⟨fr, x1, x2, fun k hk => by rw [b6]; exact x3 k hk⟩
theorem sh.lv (h : sh S wt E) (hF : fX E S S') (hwk : cs_k S wt = 26) {σ : rf_S} : ∀ d (t : cT d), cLv S σ d t → cLv S' σ d t := by
  intro d
  induction d with
  | zero => intro t g; exact h.lf hF hwk g
  | succ d ih =>
    intro t g
    rcases t with t | t | ls
    · exact h.lf hF hwk g
    · exact ih t g
    · exact fun g' hg' t ht => ih t (g g' hg' t ht)
theorem sh.chl (h : sh S wt E) (hF : fX E S S') (hwk : cs_k S wt = 26) {α : Type} {R R' : Nat → α → Prop} (hR : ∀ a t, cs_k S a = 3 → R a t → R' a t) : ∀ (l : List α) x, chL S R x l → chL S' R' x l := by
  intro l
  induction l with
  | nil => intro x g; exact g
  | cons t l ih =>
    intro x g
    obtain ⟨a, g1, g2, g3, g4⟩ := g
    have ha : a ≠ wt := fun e => by rw [e] at g2; omega
    obtain ⟨a1, -, -, -, a5, -⟩ := h.all hF (a := a) (by omega) ha
    exact ⟨a, g1, a1.trans g2, hR a t g2 g3, by rw [a5]; exact ih _ g4⟩
theorem sh.cr (h : sh S wt E) (hF : fX E S S') (hwk : cs_k S wt = 26) : ∀ d a (t : cT d), cR S d a t → cR S' d a t := by
  intro d
  induction d with
  | zero => intro a t g; exact g
  | succ d ih =>
    intro a t g
    have k3 : ∀ a, cs_k S a = 3 → cs_k S' a = 3 ∧ (∀ f, cs_i S' f a = cs_i S f a) ∧ ∀ f, cs_r S' f a = cs_r S f a := fun a ha => by
      have hne : a ≠ wt := fun e => by rw [e] at ha; omega
      obtain ⟨a1, -, a3, -, a5, -⟩ := h.all hF (a := a) (by omega) hne
      exact ⟨a1.trans ha, a3, a5⟩
    rcases t with t | t | ls
    · exact g
    · obtain ⟨g1, g2, b, g3, g4⟩ := g
      obtain ⟨c1, c2, c3⟩ := k3 a g1
      exact ⟨c1, by rw [c2]; exact g2, b, by rw [c3]; exact g3, ih b t g4⟩
    · obtain ⟨g1, g2, g3⟩ := g
      obtain ⟨c1, c2, c3⟩ := k3 a g1
      refine ⟨c1, by rw [c2]; exact g2, ?_⟩
      rw [c3]
      refine h.chl hF hwk (fun b g hb hg => ?_) _ _ g3
      obtain ⟨d1, d2, d3⟩ := k3 b hb
      refine ⟨by rw [d2]; exact hg.1, ?_⟩
      rw [d3]
      exact h.chl hF hwk (fun c t _ ht => ih c t ht) _ _ hg.2
end SH
/-- the same where the reference goes on -/
theorem eV.vl {σ σ' : rf_S} (h : eV σ σ') {S : cs_S} {te va f : Nat} (g : vlR S σ te va f) : vlR S σ' te va f := by
  unfold vlR at g ⊢
  rw [h.1 14 (by decide), h.1 15 (by decide), h.1 16 (by decide), h.1 18 (by decide)]
  exact g
theorem eV.evr {σ σ' : rf_S} (h : eV σ σ') {S : cs_S} {te q e m : Nat} (g : evR S σ te q e m) : evR S σ' te q e m := by
  unfold evR flR at g ⊢
  rw [h.1 9 (by decide), h.2]
  obtain ⟨g1, g2, g4, g5, nm, vs, g6, g7, g8, g9, g10, g11, g12⟩ := g
  refine ⟨g1, g2, g4, g5, nm, vs, g6, g7, g8, g9, g10, g11, fun k hk => ?_⟩
  obtain ⟨d1, ⟨va, d2, d3⟩, d4⟩ := g12 k hk
  exact ⟨d1, ⟨va, d2, h.vl d3⟩, d4⟩
theorem eV.lf {σ σ' : rf_S} (h : eV σ σ') {S : cs_S} {c n : Nat} (g : lfR S σ c n) : lfR S σ' c n := by
  obtain ⟨g1, g2, g3⟩ := g
  refine ⟨g1, h.nw g2, ?_⟩
  unfold pvR at g3 ⊢
  rw [h.1 47 (by decide), h.1 48 (by decide), h.1 49 (by decide), h.1 50 (by decide), h.1 51 (by decide), h.1 46 (by decide), h.2]
  exact g3
theorem eV.clv {σ σ' : rf_S} (h : eV σ σ') {S : cs_S} : ∀ d (t : cT d), cLv S σ d t → cLv S σ' d t := by
  intro d
  induction d with
  | zero => intro t g; exact h.lf g
  | succ d ih =>
    intro t g
    rcases t with t | t | ls
    · exact h.lf g
    · exact ih t g
    · exact fun g' hg' t ht => ih t (g g' hg' t ht)
