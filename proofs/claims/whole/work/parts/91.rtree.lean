/-! ===== conditions as trees: the reference ===== -/
section L62
variable {σ σ' : rf_S}
theorem l62.fo (h : l62 σ σ') {e : Nat} {n : Int64} : fO σ' e n = fO σ e n := by
  unfold fO mN
  rw [h.2.2.1 9 (by decide), h.2.2.2]
theorem l62.tt (h : l62 σ σ') {n f : Nat} : tT σ' n f ↔ tT σ n f := by
  unfold tT
  rw [h.2.2.1 47 (by decide), h.2.2.1 46 (by decide), h.2.2.1 48 (by decide), h.2.2.1 18 (by decide), h.2.2.1 16 (by decide), h.2.2.1 15 (by decide), h.2.2.1 50 (by decide), h.2.2.1 49 (by decide), h.2.2.1 14 (by decide)]
theorem l62.lt (h : l62 σ σ') {n e : Nat} : lT σ' n e ↔ lT σ n e := by
  unfold lT
  rw [h.2.2.1 47 (by decide), h.2.2.2, h.2.2.1 10 (by decide), h.2.2.1 48 (by decide), h.2.2.1 14 (by decide), h.2.2.1 51 (by decide)]
  constructor
  · rintro (a | a | a | ⟨k, a, b, c⟩)
    · exact Or.inl a
    · obtain ⟨a1, k, a2⟩ := a
      rw [h.fo] at a2
      exact Or.inr (Or.inl ⟨a1, k, a2⟩)
    · exact Or.inr (Or.inr (Or.inl a))
    · rw [h.fo] at a
      exact Or.inr (Or.inr (Or.inr ⟨k, a, b, h.tt.mp c⟩))
  · rintro (a | a | a | ⟨k, a, b, c⟩)
    · exact Or.inl a
    · obtain ⟨a1, k, a2⟩ := a
      rw [← h.fo] at a2
      exact Or.inr (Or.inl ⟨a1, k, a2⟩)
    · exact Or.inr (Or.inr (Or.inl a))
    · rw [← h.fo] at a
      exact Or.inr (Or.inr (Or.inr ⟨k, a, b, h.tt.mpr c⟩))
theorem l62.nw (h : l62 σ σ') {n : Nat} (g : nW σ n) : nW σ' n := by
  unfold nW at g ⊢
  rw [h.2.2.1 47 (by decide), h.2.2.1 51 (by decide), h.2.2.1 48 (by decide), h.2.2.1 50 (by decide)]
  exact g
theorem l62.ew (h : l62 σ σ') {te e m : Nat} (g : eW σ te e m) : eW σ' te e m := by
  unfold eW vW at g ⊢
  rw [h.2.2.1 9 (by decide), h.2.2.1 14 (by decide), h.2.2.1 15 (by decide), h.2.2.1 16 (by decide)]
  exact g
theorem l62.tr (h : l62 σ σ') {e : Nat} : ∀ d (t : cT d), cTr σ' e d t ↔ cTr σ e d t := by
  intro d
  induction d with
  | zero => intro t; exact h.lt
  | succ d ih =>
    intro t
    rcases t with t | t | ls
    · exact h.lt
    · exact not_congr (ih t)
    · constructor
      · rintro ⟨g, hg, w⟩; exact ⟨g, hg, fun t ht => (ih t).mp (w t ht)⟩
      · rintro ⟨g, hg, w⟩; exact ⟨g, hg, fun t ht => (ih t).mpr (w t ht)⟩
theorem l62.lv (h : l62 σ σ') : ∀ d (t : cT d), rLv σ d t → rLv σ' d t := by
  intro d
  induction d with
  | zero => intro t g; exact h.nw g
  | succ d ih =>
    intro t g
    rcases t with t | t | ls
    · exact h.nw g
    · exact ih t g
    · exact fun g' hg' t ht => ih t (g g' hg' t ht)
theorem l62.ln (h : l62 σ σ') {op : Int32} {α : Type} {R R' : Nat → α → Prop} (hR : ∀ n t, R n t → R' n t) : ∀ (l : List α) n, lnL σ op R n l → lnL σ' op R' n l := by
  intro l
  induction l with
  | nil => intro n g; exact g
  | cons t l ih =>
    intro n g
    cases l with
    | nil => exact hR n t g
    | cons t2 l =>
      obtain ⟨g1, g2, a, b, g3, g4, g5, g6⟩ := g
      exact ⟨g1, by rw [h.2.2.1 47 (by decide)]; exact g2, a, b, by rw [h.2.2.1 48 (by decide)]; exact g3, by rw [h.2.2.1 49 (by decide)]; exact g4, hR b t g5, ih a g6⟩
theorem l62.rr (h : l62 σ σ') : ∀ d n (t : cT d), rR σ d n t → rR σ' d n t := by
  intro d
  induction d with
  | zero => intro n t g; exact g
  | succ d ih =>
    intro n t g
    rcases t with t | t | ls
    · exact g
    · obtain ⟨g1, g2, a, g3, g4⟩ := g
      exact ⟨g1, by rw [h.2.2.1 47 (by decide)]; exact g2, a, by rw [h.2.2.1 48 (by decide)]; exact g3, ih a t g4⟩
    · exact h.ln (fun b g hg => h.ln (fun c t ht => ih c t ht) _ b hg) _ n g
end L62
theorem rR_lt {σ : rf_S} : ∀ d n (t : cT d), rR σ d n t → rLv σ d t → n < 2200 := by
  intro d
  induction d with
  | zero => intro n t h g; rw [show n = t.2 from h]; exact g.1
  | succ d ih =>
    intro n t h g
    rcases t with t | t | ls
    · rw [show n = t.2 from h]; exact g.1
    · exact h.1
    · have h' : lnL σ 0 (fun b g => lnL σ 1 (fun c t => rR σ d c t) b g.reverse) n ls.reverse := h
      cases hl : ls.reverse with
      | nil => rw [hl] at h'; exact absurd h' (fun z => z)
      | cons gg l =>
        rw [hl] at h'
        cases l with
        | cons g2 l => exact h'.1
        | nil =>
          have hmem : gg ∈ ls := List.mem_reverse.mp (by rw [hl]; exact List.mem_cons_self)
          have h2 : lnL σ 1 (fun c t => rR σ d c t) n gg.reverse := h'
          cases hg : gg.reverse with
          | nil => rw [hg] at h2; exact absurd h2 (fun z => z)
          | cons t l2 =>
            rw [hg] at h2
            cases l2 with
            | cons t2 l2 => exact h2.1
            | nil => exact ih n t h2 (g gg hmem t (List.mem_reverse.mp (by rw [hg]; exact List.mem_cons_self)))
/-- an answer of the reference's holds: the state behind, and by how many rounds of its loop -/
def rAn (W : (Int32 → rf_S → Prop) → Nat → Prop) (σ : rf_S) (X : Prop) : Prop := ∃ (v : Int32) (σ' : rf_S), l62 σ σ' ∧ ((v = 1 ∧ X) ∨ (v = 0 ∧ ¬ X)) ∧ ∃ f, ∀ Q : Int32 → rf_S → Prop, Q v σ' → W Q f
section REV
variable {te e m : Nat}
theorem rEv (hte : te ≤ 24000) : ∀ d (t : cT d) (n D : Nat) (σ : rf_S), eW σ te e m → rR σ d n t → rLv σ d t → 3 * d + 1 ≤ D → rAn (fun Q f => w_X12_holds_2 Q (wp_X12_holds D) f σ (nI e) (nI n)) σ (cTr σ e d t) ∧ rAn (fun Q f => w_X12_holds_47 Q (wp_X12_holds D) f σ (nI e) (nI n)) σ (cTr σ e d t) := by
  -- from the loop's head to the call
  have call : ∀ (D n : Nat) (σ : rf_S) (X : Prop), rAn (fun Q f => w_X12_holds_2 Q (wp_X12_holds D) f σ (nI e) (nI n)) σ X → ∃ (v : Int32) (σ' : rf_S), l62 σ σ' ∧ ((v = 1 ∧ X) ∨ (v = 0 ∧ ¬ X)) ∧ ∀ Q : Int32 → rf_S → Prop, Q v σ' → wp_X12_holds (D + 1) Q σ (nI n) (nI e) := by
    intro D n σ X ⟨v, σ', g1, g2, f, g3⟩
    exact ⟨v, σ', g1, g2, fun Q hQ => ⟨f, g3 Q hQ⟩⟩
  have nar : ∀ {v : Int32} {X : Prop}, ((v = 1 ∧ X) ∨ (v = 0 ∧ ¬ X)) → narrow .boolean (.int v) = .int v := by
    intro v X h
    rcases h with ⟨rfl, -⟩ | ⟨rfl, -⟩ <;> rfl
  -- in the loop over and: what is no and is called
  have fall : ∀ (D n : Nat) (σ : rf_S) (X : Prop), n < 2200 → ¬ σ.2.2.1 47 n = 1 → rAn (fun Q f => w_X12_holds_2 Q (wp_X12_holds D) f σ (nI e) (nI n)) σ X → rAn (fun Q f => w_X12_holds_47 Q (wp_X12_holds (D + 1)) f σ (nI e) (nI n)) σ X := by
    intro D n σ X hn h1 h
    obtain ⟨v, σ', g1, g2, g3⟩ := call D n σ X h
    refine ⟨v, σ', g1, g2, 1, fun Q hQ => ⟨nI_in (N := 2200) hn (by decide), fun _ => g3 _ ⟨nar g2, hQ⟩, fun hc => ?_⟩⟩
    rw [nI_clamp (by omega)] at hc
    exact absurd hc h1
  have leaf : ∀ (n D : Nat) (σ : rf_S), eW σ te e m → nW σ n → 1 ≤ D → rAn (fun Q f => w_X12_holds_2 Q (wp_X12_holds D) f σ (nI e) (nI n)) σ (lT σ n e) ∧ rAn (fun Q f => w_X12_holds_47 Q (wp_X12_holds D) f σ (nI e) (nI n)) σ (lT σ n e) := by
    intro n D σ hE hN hD
    obtain ⟨v, σ', g1, g2, g3⟩ := rlf hN hE hte
    obtain ⟨o, ho1, ho2, eo⟩ := id hN.2.1
    refine ⟨⟨v, σ', g1, g2, 1, fun Q hQ => g3 Q _ 0 hQ⟩, ?_⟩
    obtain ⟨D', rfl⟩ : ∃ D', D = D' + 1 := ⟨D - 1, by omega⟩
    exact fall D' n σ _ hN.1 (op_ne (o' := 1) eo (by omega) (by decide) (by omega)) ⟨v, σ', g1, g2, 1, fun Q hQ => g3 Q _ 0 hQ⟩
  intro d
  induction d with
  | zero =>
    intro t n D σ hE hR hL hD
    have : n = t.2 := hR
    subst this
    exact leaf t.2 D σ hE hL (by omega)
  | succ d ih =>
    intro t n D σ hE hR hL hD
    rcases t with t | t | ls
    · have : n = t.2 := hR
      subst this
      exact leaf t.2 D σ hE hL (by omega)
    · -- not
      obtain ⟨hn, h2, a, ha, hRa⟩ := hR
      have i47 : vp_in (nI n) (rf_n 47) := nI_in (N := 2200) hn (by decide)
      have key : ∀ D', 3 * d + 1 ≤ D' → rAn (fun Q f => w_X12_holds_2 Q (wp_X12_holds (D' + 1)) f σ (nI e) (nI n)) σ (¬ cTr σ e d t) := by
        intro D' hD'
        obtain ⟨v, σ', g1, g2, g3⟩ := call D' a σ _ (ih t a D' σ hE hRa hL hD').1
        refine ⟨1 - v, σ', g1, ?_, 1, fun Q hQ => ⟨i47, ?_⟩⟩
        · rcases g2 with ⟨e1, e2⟩ | ⟨e1, e2⟩
          · exact Or.inr ⟨by rw [e1]; decide, fun w => w e2⟩
          · exact Or.inl ⟨by rw [e1]; decide, e2⟩
        · rw [nI_clamp (by omega), h2, ha]
          refine ⟨fun _ => ⟨i47, fun _ => ⟨i47, fun hc => absurd hc (by decide), fun _ => ⟨nI_in (N := 2200) hn (by decide), g3 _ ?_⟩, fun hc => absurd hc (by decide), fun hc => absurd hc (by decide), fun hc => absurd hc (by decide)⟩, fun hc => absurd hc (by decide)⟩, fun hc => absurd hc (by decide)⟩
          rcases g2 with ⟨e1, -⟩ | ⟨e1, -⟩
          · rw [e1] at hQ ⊢
            exact ⟨fun _ => ⟨rfl, hQ⟩, fun w => absurd w (by decide)⟩
          · rw [e1] at hQ ⊢
            exact ⟨fun w => absurd rfl w, fun _ => ⟨rfl, hQ⟩⟩
      obtain ⟨D', rfl⟩ : ∃ D', D = D' + 1 + 1 := ⟨D - 2, by omega⟩
      exact ⟨key (D' + 1) (by omega), fall (D' + 1) n σ _ hn (by rw [h2]; decide) (key D' (by omega))⟩
    · -- groups
      -- all of a group, from the loop over and
      have andA : ∀ (g : List (cT d)) (n D : Nat) (σ : rf_S), eW σ te e m → lnL σ 1 (fun c t => rR σ d c t) n g → (∀ t, t ∈ g → rLv σ d t) → 3 * d + 2 ≤ D → rAn (fun Q f => w_X12_holds_47 Q (wp_X12_holds D) f σ (nI e) (nI n)) σ (∀ t, t ∈ g → cTr σ e d t) := by
        intro g
        induction g with
        | nil => intro n D σ _ h; exact absurd h (fun z => z)
        | cons t g ihg =>
          intro n D σ hE h hLg hD
          cases g with
          | nil =>
            obtain ⟨v, σ', g1, g2, f, g3⟩ := (ih t n D σ hE h (hLg t List.mem_cons_self) (by omega)).2
            refine ⟨v, σ', g1, ?_, f, g3⟩
            rcases g2 with ⟨e1, e2⟩ | ⟨e1, e2⟩
            · exact Or.inl ⟨e1, fun t' ht' => by rw [List.mem_singleton.mp ht']; exact e2⟩
            · exact Or.inr ⟨e1, fun w => e2 (w t List.mem_cons_self)⟩
          | cons t2 g =>
            obtain ⟨hn, h1, a, b, ha, hb, hRb, hrest⟩ := h
            obtain ⟨D', rfl⟩ : ∃ D', D = D' + 1 := ⟨D - 1, by omega⟩
            have i47 : vp_in (nI n) (rf_n 47) := nI_in (N := 2200) hn (by decide)
            obtain ⟨v, σ1, g1, g2, g3⟩ := call D' b σ _ (ih t b D' σ hE hRb (hLg t List.mem_cons_self) (by omega)).1
            rcases g2 with ⟨e1, e2⟩ | ⟨e1, e2⟩
            · obtain ⟨v2, σ2, k1, k2, f, k3⟩ := ihg a (D' + 1) σ1 (g1.ew hE) (g1.ln (fun c t ht => g1.rr d c t ht) _ a hrest) (fun t' ht' => g1.lv d t' (hLg t' (List.mem_cons_of_mem _ ht'))) hD
              refine ⟨v2, σ2, g1.trans k1, ?_, f + 1, fun Q hQ => ⟨i47, fun hc => ?_, fun _ => ⟨nI_in (N := 2200) hn (by decide), ?_⟩⟩⟩
              · rcases k2 with ⟨d1, d2⟩ | ⟨d1, d2⟩
                · refine Or.inl ⟨d1, fun t' ht' => ?_⟩
                  rcases List.mem_cons.mp ht' with rfl | ht'
                  · exact e2
                  · exact (g1.tr d t').mp (d2 t' ht')
                · exact Or.inr ⟨d1, fun w => d2 (fun t' ht' => (g1.tr d t').mpr (w t' (List.mem_cons_of_mem _ ht')))⟩
              · rw [nI_clamp (by omega)] at hc; exact absurd h1 hc
              · rw [nI_clamp (by omega), hb]
                refine g3 _ ?_
                rw [e1]
                refine ⟨fun _ => ⟨nI_in (N := 2200) hn (by decide), ?_⟩, fun w => absurd w (by decide)⟩
                rw [g1.2.2.1 48 (by decide), ha]
                exact k3 Q hQ
            · refine ⟨0, σ1, g1, Or.inr ⟨rfl, fun w => e2 (w t List.mem_cons_self)⟩, 1, fun Q hQ => ⟨i47, fun hc => ?_, fun _ => ⟨nI_in (N := 2200) hn (by decide), ?_⟩⟩⟩
              · rw [nI_clamp (by omega)] at hc; exact absurd h1 hc
              · rw [nI_clamp (by omega), hb]
                refine g3 _ ?_
                rw [e1]
                exact ⟨fun w => absurd rfl w, fun _ => hQ⟩
      -- .. from the outer loop
      have andB : ∀ (g : List (cT d)) (n D : Nat) (σ : rf_S), eW σ te e m → lnL σ 1 (fun c t => rR σ d c t) n g → (∀ t, t ∈ g → rLv σ d t) → 3 * d + 2 ≤ D → rAn (fun Q f => w_X12_holds_2 Q (wp_X12_holds D) f σ (nI e) (nI n)) σ (∀ t, t ∈ g → cTr σ e d t) := by
        intro g n D σ hE h hLg hD
        cases g with
        | nil => exact absurd h (fun z => z)
        | cons t g =>
          cases g with
          | nil =>
            obtain ⟨v, σ', g1, g2, f, g3⟩ := (ih t n D σ hE h (hLg t List.mem_cons_self) (by omega)).1
            refine ⟨v, σ', g1, ?_, f, g3⟩
            rcases g2 with ⟨e1, e2⟩ | ⟨e1, e2⟩
            · exact Or.inl ⟨e1, fun t' ht' => by rw [List.mem_singleton.mp ht']; exact e2⟩
            · exact Or.inr ⟨e1, fun w => e2 (w t List.mem_cons_self)⟩
          | cons t2 g =>
            obtain ⟨v, σ', g1, g2, f, g3⟩ := andA (t :: t2 :: g) n D σ hE h hLg hD
            obtain ⟨hn, h1, -⟩ := h
            have i47 : vp_in (nI n) (rf_n 47) := nI_in (N := 2200) hn (by decide)
            refine ⟨v, σ', g1, g2, 1, fun Q hQ => ⟨i47, fun _ => ⟨i47, fun hc => ?_, fun _ => ⟨f, g3 Q hQ⟩⟩, fun hc => ?_⟩⟩
            · rw [nI_clamp (by omega)] at hc; exact absurd h1 hc
            · rw [nI_clamp (by omega), h1] at hc; exact absurd hc (by decide)
      -- one of the groups
      have orA : ∀ (ls : List (List (cT d))) (n D : Nat) (σ : rf_S), eW σ te e m → lnL σ 0 (fun b g => lnL σ 1 (fun c t => rR σ d c t) b g.reverse) n ls → (∀ g, g ∈ ls → ∀ t, t ∈ g → rLv σ d t) → 3 * d + 3 ≤ D → rAn (fun Q f => w_X12_holds_2 Q (wp_X12_holds D) f σ (nI e) (nI n)) σ (∃ g, g ∈ ls ∧ ∀ t, t ∈ g → cTr σ e d t) := by
        intro ls
        induction ls with
        | nil => intro n D σ _ h; exact absurd h (fun z => z)
        | cons g ls ihl =>
          intro n D σ hE h hLg hD
          cases ls with
          | nil =>
            obtain ⟨v, σ', g1, g2, f, g3⟩ := andB g.reverse n D σ hE h (fun t ht => hLg g List.mem_cons_self t (List.mem_reverse.mp ht)) (by omega)
            refine ⟨v, σ', g1, ?_, f, g3⟩
            rcases g2 with ⟨e1, e2⟩ | ⟨e1, e2⟩
            · exact Or.inl ⟨e1, g, List.mem_cons_self, fun t ht => e2 t (List.mem_reverse.mpr ht)⟩
            · refine Or.inr ⟨e1, fun ⟨g', hg', w⟩ => e2 (fun t ht => ?_)⟩
              rw [List.mem_singleton.mp hg'] at w
              exact w t (List.mem_reverse.mp ht)
          | cons g2 ls =>
            obtain ⟨hn, h0, a, b, ha, hb, hRb, hrest⟩ := h
            obtain ⟨D', rfl⟩ : ∃ D', D = D' + 1 := ⟨D - 1, by omega⟩
            have i47 : vp_in (nI n) (rf_n 47) := nI_in (N := 2200) hn (by decide)
            obtain ⟨v, σ1, g1, g2', g3⟩ := call D' b σ _ (andB g.reverse b D' σ hE hRb (fun t ht => hLg g List.mem_cons_self t (List.mem_reverse.mp ht)) (by omega))
            rcases g2' with ⟨e1, e2⟩ | ⟨e1, e2⟩
            · refine ⟨1, σ1, g1, Or.inl ⟨rfl, g, List.mem_cons_self, fun t ht => e2 t (List.mem_reverse.mpr ht)⟩, 1, fun Q hQ => ⟨i47, fun hc => ?_, fun _ => ⟨nI_in (N := 2200) hn (by decide), ?_⟩⟩⟩
              · rw [nI_clamp (by omega)] at hc; exact absurd h0 hc
              · rw [nI_clamp (by omega), hb]
                refine g3 _ ?_
                rw [e1]
                exact ⟨fun w => absurd w (by decide), fun _ => hQ⟩
            · obtain ⟨v2, σ2, k1, k2, f, k3⟩ := ihl a (D' + 1) σ1 (g1.ew hE) (g1.ln (fun b g hg => g1.ln (fun c t ht => g1.rr d c t ht) _ b hg) _ a hrest) (fun g' hg' t' ht' => g1.lv d t' (hLg g' (List.mem_cons_of_mem _ hg') t' ht')) hD
              refine ⟨v2, σ2, g1.trans k1, ?_, f + 1, fun Q hQ => ⟨i47, fun hc => ?_, fun _ => ⟨nI_in (N := 2200) hn (by decide), ?_⟩⟩⟩
              · rcases k2 with ⟨d1, g', hg', d2⟩ | ⟨d1, d2⟩
                · exact Or.inl ⟨d1, g', List.mem_cons_of_mem _ hg', fun t ht => (g1.tr d t).mp (d2 t ht)⟩
                · refine Or.inr ⟨d1, fun ⟨g', hg', w⟩ => ?_⟩
                  rcases List.mem_cons.mp hg' with rfl | hg'
                  · exact e2 (fun t ht => w t (List.mem_reverse.mp ht))
                  · exact d2 ⟨g', hg', fun t ht => (g1.tr d t).mpr (w t ht)⟩
              · rw [nI_clamp (by omega)] at hc; exact absurd h0 hc
              · rw [nI_clamp (by omega), hb]
                refine g3 _ ?_
                rw [e1]
                refine ⟨fun _ => ⟨nI_in (N := 2200) hn (by decide), ?_⟩, fun w => absurd rfl w⟩
                rw [g1.2.2.1 48 (by decide), ha]
                exact k3 Q hQ
      have hLr : ∀ g, g ∈ ls.reverse → ∀ t, t ∈ g → rLv σ d t := fun g hg => hL g (List.mem_reverse.mp hg)
      have conv : ∀ {W : (Int32 → rf_S → Prop) → Nat → Prop}, rAn W σ (∃ g, g ∈ ls.reverse ∧ ∀ t, t ∈ g → cTr σ e d t) → rAn W σ (cTr σ e (d + 1) (.inr (.inr ls))) := by
        rintro W ⟨v, σ', g1, g2, g3⟩
        refine ⟨v, σ', g1, ?_, g3⟩
        rcases g2 with ⟨e1, g, hg, e2⟩ | ⟨e1, e2⟩
        · exact Or.inl ⟨e1, g, List.mem_reverse.mp hg, e2⟩
        · exact Or.inr ⟨e1, fun ⟨g, hg, w⟩ => e2 ⟨g, List.mem_reverse.mpr hg, w⟩⟩
      refine ⟨conv (orA ls.reverse n D σ hE hR hLr (by omega)), ?_⟩
      -- in the loop over and
      have hR' : lnL σ 0 (fun b g => lnL σ 1 (fun c t => rR σ d c t) b g.reverse) n ls.reverse := hR
      cases hl : ls.reverse with
      | nil => rw [hl] at hR'; exact absurd hR' (fun z => z)
      | cons g l =>
        cases l with
        | nil =>
          rw [hl] at hR' hLr conv
          obtain ⟨v, σ', g1, g2, f, g3⟩ := andA g.reverse n D σ hE hR' (fun t ht => hLr g List.mem_cons_self t (List.mem_reverse.mp ht)) (by omega)
          refine conv ⟨v, σ', g1, ?_, f, g3⟩
          rcases g2 with ⟨e1, e2⟩ | ⟨e1, e2⟩
          · exact Or.inl ⟨e1, g, List.mem_cons_self, fun t ht => e2 t (List.mem_reverse.mpr ht)⟩
          · refine Or.inr ⟨e1, fun ⟨g', hg', w⟩ => e2 (fun t ht => ?_)⟩
            rw [List.mem_singleton.mp hg'] at w
            exact w t (List.mem_reverse.mp ht)
        | cons g2 l =>
          have h0 : n < 2200 ∧ σ.2.2.1 47 n = 0 := by rw [hl] at hR'; exact ⟨hR'.1, hR'.2.1⟩
          obtain ⟨D', rfl⟩ : ∃ D', D = D' + 1 := ⟨D - 1, by omega⟩
          exact fall D' n σ _ h0.1 (by rw [h0.2]; decide) (conv (orA ls.reverse n D' σ hE hR hLr (by omega)))
end REV
