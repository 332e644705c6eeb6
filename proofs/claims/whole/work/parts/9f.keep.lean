/-! ===== the reference alone: rules and events stay what they are ===== -/
/-- rows of rules and events are as they were -/
def eV (σ σ' : rf_S) : Prop := (∀ k, k < 62 → σ'.2.2.1 k = σ.2.2.1 k) ∧ σ'.2.2.2 = σ.2.2.2
section EVV
variable {σ σ' : rf_S}
theorem eV.fo (h : eV σ σ') {e : Nat} {n : Int64} : fO σ' e n = fO σ e n := by
  unfold fO mN
  rw [h.1 9 (by decide), h.2]
theorem eV.tt (h : eV σ σ') {n f : Nat} : tT σ' n f ↔ tT σ n f := by
  unfold tT
  rw [h.1 47 (by decide), h.1 46 (by decide), h.1 48 (by decide), h.1 18 (by decide), h.1 16 (by decide), h.1 15 (by decide), h.1 50 (by decide), h.1 49 (by decide), h.1 14 (by decide)]
theorem eV.lt (h : eV σ σ') {n e : Nat} : lT σ' n e ↔ lT σ n e := by
  unfold lT
  rw [h.1 47 (by decide), h.2, h.1 10 (by decide), h.1 48 (by decide), h.1 14 (by decide), h.1 51 (by decide)]
  constructor
  · rintro (a | a | a | ⟨k, a, b, c⟩)
    · exact Or.inl a
    · obtain ⟨a1, k, a2⟩ := a
      rw [h.fo] at a2
      exact Or.inr (Or.inl ⟨a1, k, a2⟩)
    · exact Or.inr (Or.inr (Or.inl a))
    · rw [h.fo] at a
      exact Or.inr (Or.inr (Or.inr ⟨k, a, b, h.tt.mp c⟩))
  · rintro (a | a | a | ⟨k, a, b, c⟩)
    · exact Or.inl a
    · obtain ⟨a1, k, a2⟩ := a
      rw [← h.fo] at a2
      exact Or.inr (Or.inl ⟨a1, k, a2⟩)
    · exact Or.inr (Or.inr (Or.inl a))
    · rw [← h.fo] at a
      exact Or.inr (Or.inr (Or.inr ⟨k, a, b, h.tt.mpr c⟩))
theorem eV.nw (h : eV σ σ') {n : Nat} (g : nW σ n) : nW σ' n := by
  unfold nW at g ⊢
  rw [h.1 47 (by decide), h.1 51 (by decide), h.1 48 (by decide), h.1 50 (by decide)]
  exact g
theorem eV.ew (h : eV σ σ') {te e m : Nat} (g : eW σ te e m) : eW σ' te e m := by
  unfold eW vW at g ⊢
  rw [h.1 9 (by decide), h.1 14 (by decide), h.1 15 (by decide), h.1 16 (by decide)]
  exact g
theorem eV.tr (h : eV σ σ') {e : Nat} : ∀ d (t : cT d), cTr σ' e d t ↔ cTr σ e d t := by
  intro d
  induction d with
  | zero => intro t; exact h.lt
  | succ d ih =>
    intro t
    rcases t with t | t | ls
    · exact h.lt
    · exact not_congr (ih t)
    · constructor
      · rintro ⟨g, hg, w⟩; exact ⟨g, hg, fun t ht => (ih t).mp (w t ht)⟩
      · rintro ⟨g, hg, w⟩; exact ⟨g, hg, fun t ht => (ih t).mpr (w t ht)⟩
theorem eV.lv (h : eV σ σ') : ∀ d (t : cT d), rLv σ d t → rLv σ' d t := by
  intro d
  induction d with
  | zero => intro t g; exact h.nw g
  | succ d ih =>
    intro t g
    rcases t with t | t | ls
    · exact h.nw g
    · exact ih t g
    · exact fun g' hg' t ht => ih t (g g' hg' t ht)
theorem eV.ln (h : eV σ σ') {op : Int32} {α : Type} {R R' : Nat → α → Prop} (hR : ∀ n t, R n t → R' n t) : ∀ (l : List α) n, lnL σ op R n l → lnL σ' op R' n l := by
  intro l
  induction l with
  | nil => intro n g; exact g
  | cons t l ih =>
    intro n g
    cases l with
    | nil => exact hR n t g
    | cons t2 l =>
      obtain ⟨g1, g2, a, b, g3, g4, g5, g6⟩ := g
      exact ⟨g1, by rw [h.1 47 (by decide)]; exact g2, a, b, by rw [h.1 48 (by decide)]; exact g3, by rw [h.1 49 (by decide)]; exact g4, hR b t g5, ih a g6⟩
theorem eV.rr (h : eV σ σ') : ∀ d n (t : cT d), rR σ d n t → rR σ' d n t := by
  intro d
  induction d with
  | zero => intro n t g; exact g
  | succ d ih =>
    intro n t g
    rcases t with t | t | ls
    · exact g
    · obtain ⟨g1, g2, a, g3, g4⟩ := g
      exact ⟨g1, by rw [h.1 47 (by decide)]; exact g2, a, by rw [h.1 48 (by decide)]; exact g3, ih a t g4⟩
    · exact h.ln (fun b g hg => h.ln (fun c t ht => ih c t ht) _ b hg) _ n g
end EVV
/-- .. and their numbers; the row of values met -/
def gE (σ σ' : rf_S) : Prop := (∀ k, (k < 62 ∨ k = 68 ∨ 83 < k) → σ'.2.2.1 k = σ.2.2.1 k) ∧ (∀ k, (k < 72 ∨ 83 < k) → σ'.1 k = σ.1 k) ∧ σ'.2.1 = σ.2.1 ∧ σ'.2.2.2 = σ.2.2.2
section GE
variable {σ σ1 σ2 : rf_S}
theorem gE.rfl : gE σ σ := ⟨fun _ _ => Eq.refl _, fun _ _ => Eq.refl _, Eq.refl _, Eq.refl _⟩
theorem gE.trans (h : gE σ σ1) (g : gE σ1 σ2) : gE σ σ2 := ⟨fun k e => (g.1 k e).trans (h.1 k e), fun k e => (g.2.1 k e).trans (h.2.1 k e), g.2.2.1.trans h.2.2.1, g.2.2.2.trans h.2.2.2⟩
theorem gE.ua (h : gE σ σ1) {k j : Nat} {x : Int32} (hk : 62 ≤ k ∧ k ≠ 68 ∧ k ≤ 83) : gE σ (rf_ua σ1 k j x) := ⟨fun k' e => by rw [← h.1 k' e]; exact funext fun m => by rw [r3ua, if_neg (fun q => by omega)], h.2.1, h.2.2.1, h.2.2.2⟩
theorem gE.ui (h : gE σ σ1) {k : Nat} {x : Int32} (hk : 72 ≤ k ∧ k ≤ 83) : gE σ (rf_ui σ1 k x) := ⟨h.1, fun k' e => by rw [r1ui, if_neg (fun q => by omega)]; exact h.2.1 k' e, h.2.2.1, h.2.2.2⟩
theorem l62.ge (h : l62 σ σ1) : gE σ σ1 := ⟨fun k e => h.2.2.1 k (by omega), fun k _ => by rw [h.1], h.2.1, h.2.2.2⟩
theorem l71.ge (h : l71 σ σ1) : gE σ σ1 := ⟨fun k e => h.2.2.1 k (by omega), fun k _ => by rw [h.1], h.2.1, h.2.2.2⟩
theorem gE.ev (h : gE σ σ1) : eV σ σ1 := ⟨fun k e => h.1 k (Or.inl e), h.2.2.2⟩
theorem eV.cd (h : eV σ σ1) {b k : Nat} {dp : Nat → Nat} {tr : (c : Nat) → cT (dp c)} (g : cdW σ b k dp tr) : cdW σ1 b k dp tr := by
  obtain ⟨g1, g2, g3, g4⟩ := g
  refine ⟨by rw [h.1 40 (by decide)]; exact g1, g2, g3, fun c hc => ?_⟩
  obtain ⟨a1, n, a2, a3, a4⟩ := g4 c hc
  exact ⟨a1, n, by rw [h.1 41 (by decide)]; exact a2, h.rr _ _ _ a3, h.lv _ _ a4⟩
theorem eV.un (h : eV σ σ1) {b ud : Nat} {ut : Option (cT ud)} (g : unW σ b ud ut) : unW σ1 b ud ut := by
  rcases g with ⟨g1, g2⟩ | ⟨t, n, g1, g2, g3, g4, g5, g6⟩
  · exact Or.inl ⟨g1, by rw [h.1 42 (by decide)]; exact g2⟩
  · exact Or.inr ⟨t, n, g1, g2, by rw [h.1 42 (by decide)]; exact g3, g4, h.rr _ _ _ g5, h.lv _ _ g6⟩
theorem eV.ut (h : eV σ σ1) {e ud : Nat} {ut : Option (cT ud)} : unT σ1 e ud ut ↔ unT σ e ud ut := by
  cases ut with
  | none => exact Iff.rfl
  | some t => exact h.tr ud t
end GE
