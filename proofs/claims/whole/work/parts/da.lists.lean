/-! ===== lists of conditions that grow ===== -/
/-- the parts l, and then z, the last -/
def chQ (S : cs_S) {α : Type} (R : Nat → α → Prop) : Option Nat → List α → Nat → Prop
  | hd, [], z => hd = some z
  | hd, t :: l, z => ∃ a, hd = some a ∧ cs_k S a = 3 ∧ R a t ∧ chQ S R (cs_r S 206 a) l z
section CHQ
variable {S S' : cs_S} {α : Type} {R R' : Nat → α → Prop}
theorem chQ.mono : ∀ (l : List α) (hd : Option Nat) (z : Nat), (∀ a t, cs_k S a = 3 → R a t → cs_k S' a = 3 ∧ R' a t ∧ cs_r S' 206 a = cs_r S 206 a) → chQ S R hd l z → chQ S' R' hd l z := by
  intro l
  induction l with
  | nil => intro hd z _ h; exact h
  | cons t l ih =>
    rintro hd z hR ⟨a, h1, h2, h3, h4⟩
    obtain ⟨r1, r2, r3⟩ := hR a t h2 h3
    exact ⟨a, h1, r1, r2, by rw [r3]; exact ih _ z hR h4⟩
theorem chQ.app : ∀ (l : List α) (hd : Option Nat) (z q : Nat) (t : α), chQ S R hd l z → cs_k S z = 3 → R z t → cs_r S 206 z = some q → chQ S R hd (l ++ [t]) q := by
  intro l
  induction l with
  | nil => intro hd z q t h h1 h2 h3; exact ⟨z, h, h1, h2, h3⟩
  | cons t0 l ih =>
    rintro hd z q t ⟨a, a1, a2, a3, a4⟩ h1 h2 h3
    exact ⟨a, a1, a2, a3, ih _ z q t a4 h1 h2 h3⟩
theorem chQ.fin : ∀ (l : List α) (hd : Option Nat) (z : Nat) (t : α), chQ S R hd l z → cs_k S z = 3 → R z t → cs_r S 206 z = none → chL S R hd (l ++ [t]) := by
  intro l
  induction l with
  | nil => intro hd z t h h1 h2 h3; exact ⟨z, h, h1, h2, h3⟩
  | cons t0 l ih =>
    rintro hd z t ⟨a, a1, a2, a3, a4⟩ h1 h2 h3
    exact ⟨a, a1, a2, a3, ih _ z t a4 h1 h2 h3⟩
end CHQ
def rcC (S : cs_S) (Fz : Nat → Prop) (D : Nat) (c : Nat) (t : cT D) : Prop := Fz c ∧ cN S Fz D c t
def rcB (S : cs_S) (Fz : Nat → Prop) (D : Nat) (b : Nat) (g : List (cT D)) : Prop := Fz b ∧ cs_i S 200 b = 33 ∧ chL S (rcC S Fz D) (cs_r S 204 b) g
/-- the class in the midst of a condition: E either, b the last both, its parts ts and tl; ls the groups ahead of it -/
def LI (G cx : Nat → Nat) (bf : Nat → Nat) (z c nr : Nat) (ra : Nat → Nat) (nm : Nat → Int64) (D i1 : Nat) (σ : rf_S) (na : Nat) (pend : Option Nat) (S Sx : cs_S) (E b : Nat) (ls : List (List (cT D))) (ts : List (cT D)) (tl : cT D) : Prop :=
  ∃ (cc : Nat) (Fz : Nat → Prop),
    pA G cx bf z c nr ra nm i1 Sx ∧ fX (pE (cx 0)) S Sx ∧ (cs_k S E = 0 ∧ cs_k Sx E = 3 ∧ cs_i Sx 200 E = 32 ∧ cs_r Sx 206 E = none ∧ cs_r Sx 205 E = some b) ∧
    (cs_k S b = 0 ∧ cs_k Sx b = 3 ∧ b ≠ E ∧ cs_i Sx 200 b = 33 ∧ cs_r Sx 206 b = none ∧ cs_r Sx 205 b = some cc) ∧
    (cs_k S cc = 0 ∧ cs_k Sx cc = 3 ∧ cc ≠ E ∧ cc ≠ b ∧ cs_r Sx 206 cc = none ∧ cN Sx Fz D cc tl) ∧
    (∀ y, Fz y → cs_k S y = 0 ∧ cs_k Sx y ≠ 0 ∧ y ≠ E ∧ y ≠ b ∧ y ≠ cc) ∧
    chQ Sx (rcB Sx Fz D) (cs_r Sx 204 E) ls b ∧ chQ Sx (rcC Sx Fz D) (cs_r Sx 204 b) ts cc ∧
    rR σ (D + 1) na (.inr (.inr [ts ++ [tl]])) ∧ ((pend = none ∧ ls = []) ∨ ∃ no, pend = some no ∧ ls ≠ [] ∧ rR σ (D + 1) no (.inr (.inr ls))) ∧
    cLv Sx σ (D + 1) (.inr (.inr (ls ++ [ts ++ [tl]]))) ∧ rLv σ (D + 1) (.inr (.inr (ls ++ [ts ++ [tl]])))
section LIS
variable {G cx : Nat → Nat} {bf : Nat → Nat} {z c bk nr i1 D na : Nat} {ra : Nat → Nat} {nm : Nat → Int64} {σ : rf_S} {S Sx : cs_S} {E b : Nat} {pend : Option Nat} {ls : List (List (cT D))} {ts : List (cT D)} {tl : cT D}
theorem rcC.st {S' : cs_S} {Fz Fz' : Nat → Prop} (hF : ∀ y, Fz y → Fz' y ∧ cs_k Sx y ≠ 0 ∧ cs_k S' y = cs_k Sx y ∧ cs_i S' 200 y = cs_i Sx 200 y ∧ cs_r S' 204 y = cs_r Sx 204 y ∧ cs_r S' 206 y = cs_r Sx 206 y) {a : Nat} {t : cT D} (h : rcC Sx Fz D a t) : rcC S' Fz' D a t := by
  obtain ⟨f1, f2, f3, f4, f5, f6⟩ := hF a h.1
  exact ⟨f1, cN.st (fun y hy _ => ⟨(hF y hy).1, (hF y hy).2.2⟩) (fun y hy => (hF y hy).2.1) D a t f3 f4 f5 h.2⟩
theorem rcB.st {S' : cs_S} {Fz Fz' : Nat → Prop} (hF : ∀ y, Fz y → Fz' y ∧ cs_k Sx y ≠ 0 ∧ cs_k S' y = cs_k Sx y ∧ cs_i S' 200 y = cs_i Sx 200 y ∧ cs_r S' 204 y = cs_r Sx 204 y ∧ cs_r S' 206 y = cs_r Sx 206 y) {a : Nat} {g : List (cT D)} (h : rcB Sx Fz D a g) : rcB S' Fz' D a g := by
  obtain ⟨h1, h2, h3⟩ := h
  obtain ⟨f1, f2, f3, f4, f5, f6⟩ := hF a h1
  refine ⟨f1, f4.trans h2, ?_⟩
  rw [f5]
  exact chL_mono _ _ (fun x t _ hk hr => ⟨rcC.st hF hr, by rw [(hF x hr.1).2.2.1]; exact hk, (hF x hr.1).2.2.2.2.2⟩) h3
/-- at the end -/
theorem LI.fin (h : LI G cx bf z c nr ra nm D i1 σ na pend S Sx E b ls ts tl) : cN Sx (nO S Sx E) (D + 1) E (.inr (.inr (ls ++ [ts ++ [tl]]))) := by
  obtain ⟨cc, Fz, -, -, ⟨e1, e2, e3, e4, e5⟩, ⟨b1, b2, b3, b4, b5, b6⟩, ⟨c1, c2, c3, c4, c5, c6⟩, hF, q1, q2, -⟩ := h
  have hst : ∀ y, Fz y → nO S Sx E y ∧ cs_k Sx y ≠ 0 ∧ cs_k Sx y = cs_k Sx y ∧ cs_i Sx 200 y = cs_i Sx 200 y ∧ cs_r Sx 204 y = cs_r Sx 204 y ∧ cs_r Sx 206 y = cs_r Sx 206 y := fun y hy => ⟨⟨(hF y hy).1, (hF y hy).2.1, (hF y hy).2.2.1⟩, (hF y hy).2.1, rfl, rfl, rfl, rfl⟩
  refine ⟨e2, e3, ?_⟩
  refine chQ.fin ls _ b _ (chQ.mono (R' := fun b g => nO S Sx E b ∧ cs_i Sx 200 b = 33 ∧ chL Sx (fun c t => nO S Sx E c ∧ cN Sx (nO S Sx E) D c t) (cs_r Sx 204 b) g) ls _ b (fun a g hk hr => ⟨hk, rcB.st hst hr, rfl⟩) q1) b2 ⟨⟨b1, by rw [b2]; decide, b3⟩, b4, ?_⟩ b5
  exact chQ.fin ts _ cc _ (chQ.mono ts _ cc (fun a t hk hr => ⟨hk, rcC.st hst hr, rfl⟩) q2) c2 ⟨⟨c1, by rw [c2]; decide, c3⟩, cN.st (fun y hy _ => ⟨(hst y hy).1, (hst y hy).2.2⟩) (fun y hy => (hst y hy).2.1) D cc tl rfl rfl rfl c6⟩ c5
/-- the last state behind one part more -/
theorem aL.tE {a b : Nat} (ha : cs_k Sx a = 3) (hb : cs_k Sx b = 3) : tE (fun s f x => s = 2 ∧ ((f = 206 ∧ x = a) ∨ (f = 205 ∧ x = b))) Sx := by
  rintro s f x ⟨rfl, ⟨rfl, rfl⟩ | ⟨rfl, rfl⟩⟩
  · rw [ha]; exact ⟨by decide, by decide, fun _ => ⟨rfl, by decide⟩⟩
  · rw [hb]; exact ⟨by decide, by decide, fun _ => ⟨rfl, by decide⟩⟩
theorem pE.tE (h : cs_k Sx (cx 0) = 7) : tE (pE (cx 0)) Sx := fun s f a q => by
  rw [q.2.1, h]; exact ⟨by decide, by decide, fun w => absurd w (by decide)⟩
theorem lv_app {σ : rf_S} {l : List (List (cT D))} {g : List (cT D)} {t : cT D} : rLv σ (D + 1) (.inr (.inr (l ++ [g ++ [t]]))) ↔ rLv σ (D + 1) (.inr (.inr l)) ∧ (∀ x, x ∈ g → rLv σ D x) ∧ rLv σ D t := by
  constructor
  · intro h
    refine ⟨fun g' hg' x hx => h g' (List.mem_append_left _ hg') x hx, fun x hx => h _ (List.mem_append_right _ (List.mem_singleton.mpr rfl)) x (List.mem_append_left _ hx), h _ (List.mem_append_right _ (List.mem_singleton.mpr rfl)) t (List.mem_append_right _ (List.mem_singleton.mpr rfl))⟩
  · rintro ⟨h1, h2, h3⟩ g' hg' x hx
    rcases List.mem_append.mp hg' with q | q
    · exact h1 g' q x hx
    · rw [List.mem_singleton.mp q] at hx
      rcases List.mem_append.mp hx with q | q
      · exact h2 x q
      · rw [List.mem_singleton.mp q]; exact h3
theorem cv_app {S : cs_S} {σ : rf_S} {l : List (List (cT D))} {g : List (cT D)} {t : cT D} : cLv S σ (D + 1) (.inr (.inr (l ++ [g ++ [t]]))) ↔ cLv S σ (D + 1) (.inr (.inr l)) ∧ (∀ x, x ∈ g → cLv S σ D x) ∧ cLv S σ D t := by
  constructor
  · intro h
    refine ⟨fun g' hg' x hx => h g' (List.mem_append_left _ hg') x hx, fun x hx => h _ (List.mem_append_right _ (List.mem_singleton.mpr rfl)) x (List.mem_append_left _ hx), h _ (List.mem_append_right _ (List.mem_singleton.mpr rfl)) t (List.mem_append_right _ (List.mem_singleton.mpr rfl))⟩
  · rintro ⟨h1, h2, h3⟩ g' hg' x hx
    rcases List.mem_append.mp hg' with q | q
    · exact h1 g' q x hx
    · rw [List.mem_singleton.mp q] at hx
      rcases List.mem_append.mp hx with q | q
      · exact h2 x q
      · rw [List.mem_singleton.mp q]; exact h3
/-- the reference's node of one more part in the last group -/
theorem rR_and {σ : rf_S} {N na nd : Nat} {g : List (cT D)} {t0 t : cT D} (hN : N < 2200) (h47 : σ.2.2.1 47 N = 1) (h48 : σ.2.2.1 48 N = nI na) (h49 : σ.2.2.1 49 N = nI nd) (h1 : rR σ (D + 1) na (.inr (.inr [g ++ [t0]]))) (h2 : rR σ D nd t) : rR σ (D + 1) N (.inr (.inr [g ++ [t0] ++ [t]])) := by
  have h1 : lnL σ 1 (fun c t => rR σ D c t) na (g ++ [t0]).reverse := h1
  show lnL σ 1 (fun c t => rR σ D c t) N (g ++ [t0] ++ [t]).reverse
  rw [List.reverse_append, List.reverse_append] at *
  exact ⟨hN, h47, na, nd, h48, h49, h2, h1⟩
theorem rR_or {σ : rf_S} {N na no : Nat} {ls : List (List (cT D))} {g : List (cT D)} (hN : N < 2200) (h47 : σ.2.2.1 47 N = 0) (h48 : σ.2.2.1 48 N = nI no) (h49 : σ.2.2.1 49 N = nI na) (hl : ls ≠ []) (h1 : rR σ (D + 1) no (.inr (.inr ls))) (h2 : rR σ (D + 1) na (.inr (.inr [g]))) : rR σ (D + 1) N (.inr (.inr (ls ++ [g]))) := by
  have h1 : lnL σ 0 (fun b g => lnL σ 1 (fun c t => rR σ D c t) b g.reverse) no ls.reverse := h1
  have h2 : lnL σ 1 (fun c t => rR σ D c t) na g.reverse := h2
  show lnL σ 0 (fun b g => lnL σ 1 (fun c t => rR σ D c t) b g.reverse) N (ls ++ [g]).reverse
  rw [List.reverse_append]
  cases hr : ls.reverse with
  | nil => exact absurd (List.reverse_eq_nil_iff.mp hr) hl
  | cons g2 l2 =>
    rw [hr] at h1
    exact ⟨hN, h47, no, na, h48, h49, h2, h1⟩
end LIS
