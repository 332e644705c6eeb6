/-! ===== conditions as trees ===== -/
/-- a tree of depth d: a test (the class's Cond, the reference's node), not, or groups: one of them, in it all -/
def cT : Nat → Type
  | 0 => Nat × Nat
  | d + 1 => Sum (Nat × Nat) (Sum (cT d) (List (List (cT d))))
/-- what it says of event e -/
def cTr (σ : rf_S) (e : Nat) : (d : Nat) → cT d → Prop
  | 0, x => lT σ x.2 e
  | _ + 1, .inl x => lT σ x.2 e
  | d + 1, .inr (.inl t) => ¬ cTr σ e d t
  | d + 1, .inr (.inr ls) => ∃ g, g ∈ ls ∧ ∀ t, t ∈ g → cTr σ e d t
/-- its tests are tests on both sides; in the reference alone -/
def cLv (S : cs_S) (σ : rf_S) : (d : Nat) → cT d → Prop
  | 0, x => lfR S σ x.1 x.2
  | _ + 1, .inl x => lfR S σ x.1 x.2
  | d + 1, .inr (.inl t) => cLv S σ d t
  | d + 1, .inr (.inr ls) => ∀ g, g ∈ ls → ∀ t, t ∈ g → cLv S σ d t
def rLv (σ : rf_S) : (d : Nat) → cT d → Prop
  | 0, x => nW σ x.2
  | _ + 1, .inl x => nW σ x.2
  | d + 1, .inr (.inl t) => rLv σ d t
  | d + 1, .inr (.inr ls) => ∀ g, g ∈ ls → ∀ t, t ∈ g → rLv σ d t
/-- the class's: parts behind one another -/
def chL (S : cs_S) {α : Type} (R : Nat → α → Prop) : Option Nat → List α → Prop
  | hd, [] => hd = none
  | hd, t :: l => ∃ a, hd = some a ∧ cs_k S a = 3 ∧ R a t ∧ chL S R (cs_r S 206 a) l
def cR (S : cs_S) : (d : Nat) → Nat → cT d → Prop
  | 0, a, x => a = x.1
  | _ + 1, a, .inl x => a = x.1
  | d + 1, a, .inr (.inl t) => cs_k S a = 3 ∧ cs_i S 200 a = 34 ∧ ∃ b, cs_r S 204 a = some b ∧ cR S d b t
  | d + 1, a, .inr (.inr ls) => cs_k S a = 3 ∧ cs_i S 200 a = 32 ∧ chL S (fun b g => cs_i S 200 b = 33 ∧ chL S (fun c t => cR S d c t) (cs_r S 204 b) g) (cs_r S 204 a) ls
/-- the reference's: from the last one on, to the left -/
def lnL (σ : rf_S) (op : Int32) {α : Type} (R : Nat → α → Prop) : Nat → List α → Prop
  | _, [] => False
  | n, [t] => R n t
  | n, t :: t2 :: l => n < 2200 ∧ σ.2.2.1 47 n = op ∧ ∃ a b, σ.2.2.1 48 n = nI a ∧ σ.2.2.1 49 n = nI b ∧ R b t ∧ lnL σ op R a (t2 :: l)
def rR (σ : rf_S) : (d : Nat) → Nat → cT d → Prop
  | 0, n, x => n = x.2
  | _ + 1, n, .inl x => n = x.2
  | d + 1, n, .inr (.inl t) => n < 2200 ∧ σ.2.2.1 47 n = 2 ∧ ∃ a, σ.2.2.1 48 n = nI a ∧ rR σ d a t
  | d + 1, n, .inr (.inr ls) => lnL σ 0 (fun b g => lnL σ 1 (fun c t => rR σ d c t) b g.reverse) n ls.reverse
section CEV
variable {G : Nat → Nat} {S : cs_S} {σ : rf_S} {te q e m : Nat}
/-- the class looks at a condition -/
theorem cEv (hev : evR S σ te q e m) (he : e ≤ 4000) (hte : te ≤ 24000) (hmk : cs_i S 402 q = σ.2.2.1 10 e) : ∀ d (t : cT d) (a x D : Nat) (post : Int32 → cs_S → Prop), cR S d a t → cLv S σ d t → x + 2 * d ≤ 40 → 2 * d + 1 ≤ D → (cTr σ e d t → post 1 S) → (¬ cTr σ e d t → post 0 S) → wp_X1_holds D post G S (some a) (some q) (nI x) := by
  have leaf : ∀ (c n x D : Nat) (post : Int32 → cs_S → Prop), lfR S σ c n → x ≤ 40 → 1 ≤ D → (lT σ n e → post 1 S) → (¬ lT σ n e → post 0 S) → wp_X1_holds D post G S (some c) (some q) (nI x) := by
    intro c n x D post hlf hx hD hy hno
    obtain ⟨D', rfl⟩ : ∃ D', D = D' + 1 := ⟨D - 1, by omega⟩
    have hs : ∃ s, 11 ≤ s ∧ s ≤ 39 ∧ s ≠ 32 ∧ s ≠ 33 ∧ s ≠ 34 ∧ cs_i S 200 c = nI s := by
      rcases hlf.2.2 with ⟨h, -⟩ | ⟨h, -⟩ | ⟨h, -⟩ | ⟨s, o, ho, h, -⟩
      · exact ⟨35, by omega, by omega, by omega, by omega, by omega, h⟩
      · exact ⟨36, by omega, by omega, by omega, by omega, by omega, h⟩
      · exact ⟨37, by omega, by omega, by omega, by omega, by omega, h⟩
      · refine ⟨s, ?_, ?_, ?_, ?_, ?_, h⟩ <;> (rcases ho with h | h | h | h | h | h | h | h <;> omega)
    obtain ⟨s, s1, s2, s3, s4, s5, es⟩ := hs
    have hne : ∀ y, y ≤ 39 → s ≠ y → ¬ cs_i S 200 c = nI y := fun y h1 h2 => op_ne es (by omega) (by omega) h2
    refine ⟨fun z => (nomatch z), fun b e1 => ?_⟩
    cases e1
    refine ⟨fun _ => ⟨hlf.1, fun _ => ⟨fun hc => absurd hc (hne 32 (by omega) s3), fun _ => ⟨fun hc => absurd hc (hne 33 (by omega) s4), fun _ => clf hlf hev he hte hmk (fun z => ⟨rfl, hy z⟩) (fun z => ⟨rfl, hno z⟩)⟩⟩, fun hc => absurd hc (hne 34 (by omega) s5)⟩, fun hc => absurd (nI_le (b := 40) hx (by decide)) hc⟩
  intro d
  induction d with
  | zero =>
    intro t a x D post hR hL hx hD hy hno
    have : a = t.1 := hR
    subst this
    exact leaf t.1 t.2 x D post hL (by omega) (by omega) hy hno
  | succ d ih =>
    intro t a x D post hR hL hx hD hy hno
    rcases t with t | t | ls
    · have : a = t.1 := hR
      subst this
      exact leaf t.1 t.2 x D post hL (by omega) (by omega) hy hno
    · -- not
      obtain ⟨k3, s34, b, hb, hRb⟩ := hR
      obtain ⟨D', rfl⟩ : ∃ D', D = D' + 1 := ⟨D - 1, by omega⟩
      refine ⟨fun z => (nomatch z), fun b1 e1 => ?_⟩
      cases e1
      refine ⟨fun _ => ⟨k3, fun hc => absurd s34 hc, fun _ r23 e23 => ?_⟩, fun hc => absurd (nI_le (b := 40) (by omega) (by decide)) hc⟩
      rw [e23, hb, nI_1]
      exact ih t b (x + 1) D' _ hRb hL (by omega) (by omega) (fun z => ⟨fun _ => ⟨rfl, hno (fun w => w z)⟩, fun w => absurd w (by decide)⟩) (fun z => ⟨fun w => absurd rfl w, fun _ => ⟨rfl, hy z⟩⟩)
    · -- groups
      obtain ⟨k3, s32, hch⟩ := hR
      obtain ⟨D', rfl⟩ : ∃ D', D = D' + 1 + 1 := ⟨D - 2, by omega⟩
      -- one group
      have grp : ∀ (g : List (cT d)) (b : Nat) (post : Int32 → cs_S → Prop), cs_k S b = 3 → cs_i S 200 b = 33 → chL S (fun c t => cR S d c t) (cs_r S 204 b) g → (∀ t, t ∈ g → cLv S σ d t) → ((∀ t, t ∈ g → cTr σ e d t) → post 1 S) → ((¬ ∀ t, t ∈ g → cTr σ e d t) → post 0 S) → wp_X1_holds (D' + 1) post G S (some b) (some q) (nI (x + 1)) := by
        intro g b post kb sb hg hLg h1 h0
        have loop : ∀ (g : List (cT d)) (hd : Option Nat), chL S (fun c t => cR S d c t) hd g → (∀ t, t ∈ g → cLv S σ d t) → ((∀ t, t ∈ g → cTr σ e d t) → post 1 S) → ((¬ ∀ t, t ∈ g → cTr σ e d t) → post 0 S) → w_X1_holds_86 post G (fun post S a0 a1 a2 => wp_X1_holds D' post G S a0 a1 a2) (g.length + 1) S (some q) (nI (x + 1)) 0 hd := by
          intro g
          induction g with
          | nil =>
            intro hd hh _ h1 _
            have : hd = none := hh
            subst this
            exact ⟨fun _ => ⟨fun w => absurd rfl w, fun _ => ⟨rfl, h1 (fun t ht => absurd ht (List.not_mem_nil))⟩⟩, fun b11 e11 => (nomatch e11)⟩
          | cons t g ihg =>
            intro hd hh hLg h1 h0
            obtain ⟨c, e1, k1, hRc, hrest⟩ := hh
            subst e1
            refine ⟨fun w => (nomatch w), fun b11 e11 => ?_⟩
            cases e11
            rw [nI_1]
            refine ih t c (x + 1 + 1) D' _ hRc (hLg t List.mem_cons_self) (by omega) (by omega) (fun z => ⟨fun _ => ⟨k1, fun r14 e14 => ?_⟩, fun w => absurd w (by decide)⟩) (fun z => ⟨fun w => absurd rfl w, fun _ => ⟨rfl, h0 (fun w => z (w t List.mem_cons_self))⟩⟩)
            rw [e14]
            exact ihg _ hrest (fun t' ht' => hLg t' (List.mem_cons_of_mem _ ht')) (fun z2 => h1 (fun t' ht' => by
              rcases List.mem_cons.mp ht' with rfl | ht'
              · exact z
              · exact z2 t' ht')) (fun z2 => h0 (fun w => z2 (fun t' ht' => w t' (List.mem_cons_of_mem _ ht'))))
        refine ⟨fun z => (nomatch z), fun b1 e1 => ?_⟩
        cases e1
        have s34 : ¬ cs_i S 200 b = 34 := by rw [sb]; decide
        have s32' : ¬ cs_i S 200 b = 32 := by rw [sb]; decide
        refine ⟨fun _ => ⟨kb, fun _ => ⟨fun hc => absurd hc s32', fun _ => ⟨fun _ => ⟨b, rfl, kb, fun _ => ⟨b, rfl, kb, fun r17 e17 => ⟨g.length + 1, ?_⟩⟩, fun hc => absurd hc s32'⟩, fun hc => absurd sb hc⟩⟩, fun hc => absurd hc s34⟩, fun hc => absurd (nI_le (b := 40) (by omega) (by decide)) hc⟩
        rw [e17]
        exact loop g _ hg hLg h1 h0
      have loop : ∀ (ls : List (List (cT d))) (hd : Option Nat), chL S (fun b g => cs_i S 200 b = 33 ∧ chL S (fun c t => cR S d c t) (cs_r S 204 b) g) hd ls → (∀ g, g ∈ ls → ∀ t, t ∈ g → cLv S σ d t) → ((∃ g, g ∈ ls ∧ ∀ t, t ∈ g → cTr σ e d t) → post 1 S) → ((¬ ∃ g, g ∈ ls ∧ ∀ t, t ∈ g → cTr σ e d t) → post 0 S) → w_X1_holds_86 post G (fun post S a0 a1 a2 => wp_X1_holds (D' + 1) post G S a0 a1 a2) (ls.length + 1) S (some q) (nI x) 1 hd := by
        intro ls
        induction ls with
        | nil =>
          intro hd hh _ _ h0
          have : hd = none := hh
          subst this
          exact ⟨fun _ => ⟨fun _ => ⟨rfl, h0 (fun ⟨g, hg, _⟩ => absurd hg (List.not_mem_nil))⟩, fun w => absurd w (by decide)⟩, fun b11 e11 => (nomatch e11)⟩
        | cons g ls ihl =>
          intro hd hh hLg h1 h0
          obtain ⟨b, e1, kb, ⟨sb, hg⟩, hrest⟩ := hh
          subst e1
          refine ⟨fun w => (nomatch w), fun b11 e11 => ?_⟩
          cases e11
          rw [nI_1]
          refine grp g b _ kb sb hg (hLg g List.mem_cons_self) (fun z => ⟨fun w => absurd rfl w, fun _ => ⟨rfl, h1 ⟨g, List.mem_cons_self, z⟩⟩⟩) (fun z => ⟨fun _ => ⟨kb, fun r14 e14 => ?_⟩, fun w => absurd w (by decide)⟩)
          rw [e14]
          refine ihl _ hrest (fun g' hg' => hLg g' (List.mem_cons_of_mem _ hg')) (fun ⟨g', hg', w⟩ => h1 ⟨g', List.mem_cons_of_mem _ hg', w⟩) (fun z2 => h0 (fun ⟨g', hg', w⟩ => ?_))
          rcases List.mem_cons.mp hg' with rfl | hg'
          · exact z w
          · exact z2 ⟨g', hg', w⟩
      refine ⟨fun z => (nomatch z), fun b1 e1 => ?_⟩
      cases e1
      have s34 : ¬ cs_i S 200 a = 34 := by rw [s32]; decide
      refine ⟨fun _ => ⟨k3, fun _ => ⟨fun _ => ⟨a, rfl, k3, fun hc => absurd s32 hc, fun _ => ⟨a, rfl, k3, fun r17 e17 => ⟨ls.length + 1, ?_⟩⟩⟩, fun hc => absurd s32 hc⟩, fun hc => absurd hc s34⟩, fun hc => absurd (nI_le (b := 40) (by omega) (by decide)) hc⟩
      rw [e17]
      exact loop ls _ hch hL hy hno
end CEV
