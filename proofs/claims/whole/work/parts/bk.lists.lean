/-! ===== sums over chains of keys ===== -/
/-- the sum over a list -/
def lsm (g : Nat → Int) : List Nat → Int
  | [] => 0
  | a :: l => g a + lsm g l
theorem lsm_app (g : Nat → Int) : ∀ l l', lsm g (l ++ l') = lsm g l + lsm g l' := by
  intro l l'
  induction l with
  | nil => show lsm g l' = 0 + lsm g l'; omega
  | cons a l ih => show g a + lsm g (l ++ l') = g a + lsm g l + lsm g l'; rw [ih]; omega
theorem sS_one {v : Nat → Int} {N f0 : Nat} (h : f0 < N) : sS (fun f => f = f0) v 0 N = v f0 := by
  have e1 : sS (fun f => f = f0) v 0 (N - 0) = sS (fun f => f = f0) v f0 (N - f0) := sS_skip (Nat.zero_le _) (by omega) (fun x _ h2 h3 => by omega)
  rw [show N = N - 0 from rfl, e1, sS_fst (P := fun f => f = f0) h rfl, sS_zero (lo := f0 + 1) _ (fun x h1 _ h3 => by omega), Int.add_zero]
theorem lsm_sS {ko : Nat → Nat} {g : Nat → Int} {N : Nat} : ∀ (l : List Nat) (P : Nat → Prop), (∀ a, a ∈ l → ∃ f, f < N ∧ P f ∧ a = ko f) → (∀ f, f < N → P f → ko f ∈ l) → (∀ f f', f < N → f' < N → P f → P f' → ko f = ko f' → f = f') → l.Nodup → lsm g l = sS P (fun f => g (ko f)) 0 N := by
  intro l
  induction l with
  | nil =>
    intro P _ h2 _ _
    rw [sS_zero (lo := 0) N (fun x _ hx hP => by have := h2 x (by omega) hP; cases this)]
    rfl
  | cons a l ih =>
    intro P h1 h2 h3 hn
    obtain ⟨f0, a1, a2, rfl⟩ := h1 a (List.mem_cons_self ..)
    obtain ⟨n1, n2⟩ := List.nodup_cons.mp hn
    have e : sS P (fun f => g (ko f)) 0 N = sS (fun f => f = f0) (fun f => g (ko f)) 0 N + sS (fun f => P f ∧ f ≠ f0) (fun f => g (ko f)) 0 N := sS_dis N (fun x _ _ => ⟨⟨fun z => by
      by_cases c : x = f0
      · exact Or.inl c
      · exact Or.inr ⟨z, c⟩, fun z => by
      rcases z with z | z
      · rw [z]; exact a2
      · exact z.1⟩, fun z => z.2.2 z.1⟩)
    rw [e, sS_one a1]
    show g (ko f0) + lsm g l = _
    rw [ih (fun f => P f ∧ f ≠ f0) (fun b hb => ?_) (fun f hf hP => ?_) (fun f f' b1 b2 b3 b4 => h3 f f' b1 b2 b3.1 b4.1) n2]
    · obtain ⟨f, b1, b2, b3⟩ := h1 b (List.mem_cons_of_mem _ hb)
      exact ⟨f, b1, ⟨b2, fun z => n1 (by rw [← z, ← b3]; exact hb)⟩, b3⟩
    · rcases List.mem_cons.mp (h2 f hf hP.1) with z | z
      · exact absurd (h3 f f0 hf a1 hP.1 a2 z) hP.2
      · exact z
theorem chn_uni {S : cs_S} {fi : Nat} : ∀ (l l' : List Nat) r, chn S fi l r → chn S fi l' r → l = l' := by
  intro l
  induction l with
  | nil =>
    intro l' r h h'
    cases l' with
    | nil => rfl
    | cons b l' =>
      have e1 : r = none := h
      have e2 : r = some b := h'.1
      rw [e1] at e2; cases e2
  | cons a l ih =>
    intro l' r h h'
    obtain ⟨h1, h2⟩ := h
    cases l' with
    | nil =>
      have e2 : r = none := h'
      rw [h1] at e2; cases e2
    | cons b l' =>
      obtain ⟨g1, g2⟩ := h'
      have e : a = b := Option.some.inj (h1.symm.trans g1)
      subst e
      rw [ih l' _ h2 g2]
theorem chn_suf {S : cs_S} {fi : Nat} : ∀ (l l' : List Nat) r, chn S fi (l ++ l') r → ∃ r', chn S fi l' r' := by
  intro l
  induction l with
  | nil => intro l' r h; exact ⟨r, h⟩
  | cons a l ih => intro l' r h; exact ih l' _ h.2
theorem chn_nd {S : cs_S} {fi : Nat} : ∀ (l : List Nat) r, chn S fi l r → l.Nodup := by
  intro l
  induction l with
  | nil => intro r _; exact List.nodup_nil
  | cons a l ih =>
    intro r h
    obtain ⟨h1, h2⟩ := id h
    refine List.nodup_cons.mpr ⟨fun hm => ?_, ih _ h2⟩
    obtain ⟨l1, l2, e⟩ := List.append_of_mem hm
    have h2' := h2
    rw [e] at h2'
    obtain ⟨r', h3⟩ := chn_suf l1 _ _ h2'
    have h4 : chn S fi (a :: l2) (some a) := ⟨rfl, h3.2⟩
    have h5 : chn S fi (a :: l) (some a) := ⟨rfl, h2⟩
    have e2 := chn_uni _ _ _ h4 h5
    have e3 : l2 = l := (List.cons.inj e2).2
    have e4 := congrArg List.length e
    rw [← e3, List.length_append, List.length_cons] at e4
    omega
/-- the chains one behind the other -/
def flt (bl : Nat → List Nat) : Nat → List Nat
  | 0 => []
  | n + 1 => flt bl n ++ bl n
theorem flt_mem {bl : Nat → List Nat} {a : Nat} : ∀ n, a ∈ flt bl n ↔ ∃ i, i < n ∧ a ∈ bl i := by
  intro n
  induction n with
  | zero =>
    constructor
    · intro h
      cases h
    · rintro ⟨i, h, -⟩
      omega
  | succ n ih =>
    show a ∈ flt bl n ++ bl n ↔ _
    rw [List.mem_append, ih]
    constructor
    · rintro (⟨i, h1, h2⟩ | h)
      · exact ⟨i, by omega, h2⟩
      · exact ⟨n, by omega, h⟩
    · rintro ⟨i, h1, h2⟩
      by_cases c : i = n
      · rw [c] at h2; exact Or.inr h2
      · exact Or.inl ⟨i, by omega, h2⟩
theorem flt_nd {bl : Nat → List Nat} : ∀ n, (∀ i, i < n → (bl i).Nodup) → (∀ i j a, i < n → j < n → a ∈ bl i → a ∈ bl j → i = j) → (flt bl n).Nodup := by
  intro n
  induction n with
  | zero => intro _ _; exact List.nodup_nil
  | succ n ih =>
    intro h1 h2
    show (flt bl n ++ bl n).Nodup
    refine List.nodup_append.mpr ⟨ih (fun i hi => h1 i (by omega)) (fun i j a b1 b2 => h2 i j a (by omega) (by omega)), h1 n (by omega), fun a ha b hb e => ?_⟩
    obtain ⟨i, i1, i2⟩ := (flt_mem n).mp ha
    rw [← e] at hb
    have := h2 i n a (by omega) (by omega) i2 hb
    omega
