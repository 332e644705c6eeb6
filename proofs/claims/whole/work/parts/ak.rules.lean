/-! ===== rules rest on rows of their own ===== -/
def eR (σ σ' : rf_S) : Prop := (∀ k, 36 ≤ k → k < 62 → σ'.2.2.1 k = σ.2.2.1 k) ∧ ∀ k, 36 ≤ k → σ'.2.2.2 k = σ.2.2.2 k
section ERR
variable {σ σ' σ1 : rf_S}
theorem eR.nw (h : eR σ σ') {n : Nat} (g : nW σ n) : nW σ' n := by
  unfold nW at g ⊢
  rw [h.1 47 (by decide) (by decide), h.1 51 (by decide) (by decide), h.1 48 (by decide) (by decide), h.1 50 (by decide) (by decide)]
  exact g
theorem eR.lv (h : eR σ σ') : ∀ d (t : cT d), rLv σ d t → rLv σ' d t := by
  intro d
  induction d with
  | zero => intro t g; exact h.nw g
  | succ d ih =>
    intro t g
    rcases t with t | t | ls
    · exact h.nw g
    · exact ih t g
    · exact fun g' hg' t ht => ih t (g g' hg' t ht)
theorem eR.ln (h : eR σ σ') {op : Int32} {α : Type} {R R' : Nat → α → Prop} (hR : ∀ n t, R n t → R' n t) : ∀ (l : List α) n, lnL σ op R n l → lnL σ' op R' n l := by
  intro l
  induction l with
  | nil => intro n g; exact g
  | cons t l ih =>
    intro n g
    cases l with
    | nil => exact hR n t g
    | cons t2 l =>
      obtain ⟨g1, g2, a, b, g3, g4, g5, g6⟩ := g
      exact ⟨g1, by rw [h.1 47 (by decide) (by decide)]; exact g2, a, b, by rw [h.1 48 (by decide) (by decide)]; exact g3, by rw [h.1 49 (by decide) (by decide)]; exact g4, hR b t g5, ih a g6⟩
theorem eR.rr (h : eR σ σ') : ∀ d n (t : cT d), rR σ d n t → rR σ' d n t := by
  intro d
  induction d with
  | zero => intro n t g; exact g
  | succ d ih =>
    intro n t g
    rcases t with t | t | ls
    · exact g
    · obtain ⟨g1, g2, a, g3, g4⟩ := g
      exact ⟨g1, by rw [h.1 47 (by decide) (by decide)]; exact g2, a, by rw [h.1 48 (by decide) (by decide)]; exact g3, ih a t g4⟩
    · exact h.ln (fun b g hg => h.ln (fun c t ht => ih c t ht) _ b hg) _ n g
theorem eR.cd (h : eR σ σ1) {b k : Nat} {dp : Nat → Nat} {tr : (c : Nat) → cT (dp c)} (g : cdW σ b k dp tr) : cdW σ1 b k dp tr := by
  obtain ⟨g1, g2, g3, g4⟩ := g
  refine ⟨by rw [h.1 40 (by decide) (by decide)]; exact g1, g2, g3, fun c hc => ?_⟩
  obtain ⟨a1, n, a2, a3, a4⟩ := g4 c hc
  exact ⟨a1, n, by rw [h.1 41 (by decide) (by decide)]; exact a2, h.rr _ _ _ a3, h.lv _ _ a4⟩
theorem eR.un (h : eR σ σ1) {b ud : Nat} {ut : Option (cT ud)} (g : unW σ b ud ut) : unW σ1 b ud ut := by
  rcases g with ⟨g1, g2⟩ | ⟨t, n, g1, g2, g3, g4, g5, g6⟩
  · exact Or.inl ⟨g1, by rw [h.1 42 (by decide) (by decide)]; exact g2⟩
  · exact Or.inr ⟨t, n, g1, g2, by rw [h.1 42 (by decide) (by decide)]; exact g3, g4, h.rr _ _ _ g5, h.lv _ _ g6⟩
theorem eR.ru (h : eR σ σ1) {b x k n w q : Nat} {dp : Nat → Nat} {tr : (c : Nat) → cT (dp c)} {ud : Nat} {ut : Option (cT ud)} (g : ruW σ b x k n w q dp tr ud ut) : ruW σ1 b x k n w q dp tr ud ut := by
  obtain ⟨g1, g2, g3, g4, g5, g6, g7, g8, g9, g10, g11, g12, g13, g14, g15⟩ := g
  refine ⟨by rw [h.1 38 (by decide) (by decide)]; exact g1, g2, by rw [h.1 43 (by decide) (by decide)]; exact g3, g4, by rw [h.1 44 (by decide) (by decide)]; exact g5, g6, g7, by rw [h.1 45 (by decide) (by decide)]; exact g8, g9, h.cd g10, h.un g11, g12, g13, g14, fun z => ?_⟩
  rw [h.1 39 (by decide) (by decide)]; exact g15 z
theorem eR.lf (h : eR σ σ') {S : cs_S} {c n : Nat} (g : lfR S σ c n) : lfR S σ' c n := by
  obtain ⟨g1, g2, g3⟩ := g
  refine ⟨g1, h.nw g2, ?_⟩
  unfold pvR at g3 ⊢
  rw [h.1 47 (by decide) (by decide), h.1 48 (by decide) (by decide), h.1 49 (by decide) (by decide), h.1 50 (by decide) (by decide), h.1 51 (by decide) (by decide), h.1 46 (by decide) (by decide), h.2 52 (by decide)]
  exact g3
theorem eR.clv (h : eR σ σ') {S : cs_S} : ∀ d (t : cT d), cLv S σ d t → cLv S σ' d t := by
  intro d
  induction d with
  | zero => intro t g; exact h.lf g
  | succ d ih =>
    intro t g
    rcases t with t | t | ls
    · exact h.lf g
    · exact ih t g
    · exact fun g' hg' t ht => ih t (g g' hg' t ht)
theorem ruC.er {S : cs_S} {r ra b x k n w q : Nat} {dp : Nat → Nat} {tr : (c : Nat) → cT (dp c)} {ud : Nat} {ut : Option (cT ud)} (h : ruC S σ r ra b x k n w q dp tr ud ut) (hE : eR σ σ') : ruC S σ' r ra b x k n w q dp tr ud ut := by
  obtain ⟨h1, h2, h3, h4, h5, h6, ⟨ca, c1, c2, c3, c4⟩, h8, h9, h10, h11⟩ := h
  refine ⟨h1, h2, h3, by rw [hE.1 39 (by decide) (by decide)]; exact h4, fun z => by rw [hE.2 36 (by decide)]; exact h5 z, h6, ⟨ca, c1, c2, c3, fun c hc => ?_⟩, ?_, ?_, h10, h11⟩
  · obtain ⟨a, z1, z2, z3⟩ := c4 c hc
    exact ⟨a, z1, z2, hE.clv _ _ z3⟩
  · rcases h8 with z | ⟨t, a, z1, z2, z3, z4⟩
    · exact Or.inl z
    · exact Or.inr ⟨t, a, z1, z2, z3, hE.clv _ _ z4⟩
  · unfold byR at h9 ⊢
    rw [hE.2 37 (by decide)]; exact h9
theorem RS0.er {bk nr : Nat} {x k n w q L : Nat → Nat} {dp : Nat → Nat → Nat} {tr : (r c : Nat) → cT (dp r c)} {ud : Nat → Nat} {ut : (r : Nat) → Option (cT (ud r))} (h : RS0 σ bk nr x k n w q L dp tr ud ut) (hE : eR σ σ') (h32 : σ'.1 32 = σ.1 32) (h33 : σ'.1 33 = σ.1 33) : RS0 σ' bk nr x k n w q L dp tr ud ut := by
  obtain ⟨h1, h2, h3, h4, h5⟩ := h
  refine ⟨h32.trans h1, h2, h33.trans h3, h4, fun r hr => ⟨hE.ru (h5 r hr).1, fun z => ?_⟩⟩
  rw [hE.1 39 (by decide) (by decide)]; exact (h5 r hr).2 z
theorem eB.er {ne nv te : Nat} (h : eB σ σ' ne nv te) : eR σ σ' := ⟨fun k h1 h2 => funext fun j => h.2.1 k j (by omega) (by omega) (by omega) (by omega) (by omega) (by omega), fun k h1 => funext fun j => h.2.2 k j (by omega) (by omega) (by omega)⟩
end ERR
