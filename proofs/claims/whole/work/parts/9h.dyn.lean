/-! ===== the reference alone: what the rules know, as it grows ===== -/
theorem sS_mono {P P' : Nat → Prop} {lo : Nat} : ∀ r, (∀ x, lo ≤ x → x < lo + r → P x → P' x) → sS P (fun _ => 1) lo r ≤ sS P' (fun _ => 1) lo r := by
  intro r
  induction r with
  | zero => intro _; exact Int.le_refl _
  | succ r ih =>
    intro h
    have h1 := ih (fun x a b => h x a (by omega))
    rw [sS, sS]
    by_cases c : P (lo + r)
    · rw [one_y c, one_y (h (lo + r) (by omega) (by omega) c)]
      omega
    · rw [one_n c]
      by_cases c' : P' (lo + r)
      · rw [one_y c']
        simp only [Int.natCast_zero, Int.zero_mul, Int.natCast_one, Int.one_mul]
        omega
      · rw [one_n c']
        omega
theorem sS_inc {v v' : Nat → Int} {N r0 : Nat} {d : Int} (hr : r0 < N) (h : ∀ x, x ≠ r0 → v' x = v x) (h0 : v' r0 = v r0 + d) : sS (fun _ => True) v' 0 N = sS (fun _ => True) v 0 N + d := by
  rw [show N = r0 + ((N - r0 - 1) + 1) from by omega, sS_app, sS_app (v := v), sS_down, sS_down, one_y trivial]
  rw [sS_cong (P := fun _ => True) (P' := fun _ => True) (v := v') (v' := v) r0 (fun x _ hx => ⟨Iff.rfl, fun _ => h x (by omega)⟩), sS_cong (lo := 0 + r0 + 1) (P := fun _ => True) (P' := fun _ => True) (v := v') (v' := v) (N - r0 - 1) (fun x hx _ => ⟨Iff.rfl, fun _ => h x (by omega)⟩)]
  simp only [Int.natCast_one, Int.one_mul, Nat.zero_add]
  rw [h0]
  omega
theorem sS_le {v v' : Nat → Int} {lo : Nat} : ∀ r, (∀ x, lo ≤ x → x < lo + r → v x ≤ v' x) → sS (fun _ => True) v lo r ≤ sS (fun _ => True) v' lo r := by
  intro r
  induction r with
  | zero => intro _; exact Int.le_refl _
  | succ r ih =>
    intro h
    have h1 := ih (fun x a b => h x a (by omega))
    have h2 := h (lo + r) (by omega) (by omega)
    rw [sS, sS, one_y trivial]
    omega
/-- lacks of rule r that still wait -/
noncomputable def wct (σ : rf_S) (r nl : Nat) : Int := sS (fun j => σ.2.2.1 69 j = nI r ∧ σ.2.2.1 71 j = 0) (fun _ => 1) 0 nl
/-- how often anything was found -/
noncomputable def fct (σ : rf_S) (nr : Nat) : Int := sS (fun _ => True) (fun r => (σ.2.2.1 67 r).toInt) 0 nr
/-- rule r by itself, having looked at p events -/
def jDr (σ : rf_S) (r b n nl p : Nat) : Prop := p ≤ 4000 ∧ kI σ r b n 4000 ∧ (∀ o, p ≤ o → o < 4000 → σ.2.2.1 63 (4000 * r + o) = -1) ∧ (∀ o, o < 4000 → ¬ σ.2.2.1 63 (4000 * r + o) = -1 → ∃ B, B < 64 ∧ σ.2.2.1 64 (4000 * r + o) = nI B) ∧
  ∃ F, σ.2.2.1 67 r = nI F ∧ (F : Int) + wct σ r nl ≤ p ∧ ∀ f, f < 4000 → (σ.2.2.1 65 (4000 * r + f) = -1 ∨ ∃ la, la ≤ 2000000000 ∧ σ.2.2.1 65 (4000 * r + f) = nI la) ∧ ∃ h, h ≤ F ∧ σ.2.2.1 66 (4000 * r + f) = nI h
/-- the lacks -/
def jDl (σ : rf_S) (nr nl : Nat) (pr lr le : Nat → Nat) : Prop := σ.1 72 = nI nl ∧ (nl : Int) ≤ sS (fun _ => True) (fun r => (pr r : Int)) 0 nr ∧ ∀ j, j < nl → lr j < nr ∧ le j < pr (lr j) ∧ σ.2.2.1 69 j = nI (lr j) ∧ σ.2.2.1 70 j = nI (le j) ∧ (σ.2.2.1 71 j = 0 ∨ σ.2.2.1 71 j = 1) ∧ ∃ f, f ≤ le j ∧ σ.2.2.1 63 (4000 * lr j + le j) = nI f
def jD (σ : rf_S) (nr bk nl na ns : Nat) (bn pr lr le : Nat → Nat) : Prop := (∀ r, r < nr → jDr σ r (12 * bk + r) (bn r) nl (pr r)) ∧ jDl σ nr nl pr lr le ∧ σ.1 78 = nI na ∧ (na : Int) ≤ fct σ nr ∧ σ.1 83 = nI ns ∧ (ns : Int) ≤ fct σ nr
theorem pr_sum {pr : Nat → Nat} {nr : Nat} (h : ∀ r, r < nr → pr r ≤ 4000) : sS (fun _ => True) (fun r => (pr r : Int)) 0 nr ≤ 4000 * nr := by
  induction nr with
  | zero => exact Int.le_refl _
  | succ nr ih =>
    have h1 := ih (fun r hr => h r (by omega))
    have h2 := h nr (by omega)
    rw [sS, one_y trivial, Nat.zero_add]
    omega
/-- the sum of all progress, where rule r has one event still to look at -/
theorem pr_lt {pr : Nat → Nat} {nr r : Nat} (hr : r < nr) (hnr : nr ≤ 12) (h : ∀ r, r < nr → pr r ≤ 4000) (hp : pr r < 4000) : sS (fun _ => True) (fun r => (pr r : Int)) 0 nr < 48000 := by
  have h1 := pr_sum (pr := fun x => if x = r then pr x + 1 else pr x) (nr := nr) (fun x hx => by
    show (if x = r then pr x + 1 else pr x) ≤ 4000
    by_cases c : x = r
    · rw [if_pos c, c]; omega
    · rw [if_neg c]; exact h x hx)
  have h2 := sS_inc (v := fun x => (pr x : Int)) (v' := fun x => ((if x = r then pr x + 1 else pr x : Nat) : Int)) (N := nr) (r0 := r) (d := 1) hr (fun x hx => by show ((if x = r then pr x + 1 else pr x : Nat) : Int) = _; rw [if_neg hx]) (by show ((if r = r then pr r + 1 else pr r : Nat) : Int) = _; rw [if_pos rfl]; omega)
  omega
theorem fct_le {σ : rf_S} {nr bk nl na ns : Nat} {bn pr lr le : Nat → Nat} (h : jD σ nr bk nl na ns bn pr lr le) : fct σ nr ≤ sS (fun _ => True) (fun r => (pr r : Int)) 0 nr := by
  refine sS_le nr (fun r _ hr => ?_)
  obtain ⟨-, -, -, -, F, h1, h2, -⟩ := h.1 r (by omega)
  have h3 : 0 ≤ wct σ r nl := sS_nn (fun _ => by decide) nl
  have hp := (h.1 r (by omega)).1
  show (σ.2.2.1 67 r).toInt ≤ (pr r : Int)
  rw [h1, nI_toInt (by omega)]
  omega
/-- progress may be raised -/
theorem jD.up {σ : rf_S} {nr bk nl na ns : Nat} {bn pr pr' lr le : Nat → Nat} (h : jD σ nr bk nl na ns bn pr lr le) (hp : ∀ r, r < nr → pr r ≤ pr' r ∧ pr' r ≤ 4000) : jD σ nr bk nl na ns bn pr' lr le := by
  obtain ⟨h1, ⟨l1, l2, l3⟩, h3⟩ := h
  refine ⟨fun r hr => ?_, ⟨l1, ?_, fun j hj => ?_⟩, h3⟩
  · obtain ⟨a1, a2, a3, a4, F, a5, a6, a7⟩ := h1 r hr
    have := hp r hr
    exact ⟨this.2, a2, fun o x y => a3 o (by omega) y, a4, F, a5, by omega, a7⟩
  · have := sS_le (v := fun r => (pr r : Int)) (v' := fun r => (pr' r : Int)) (lo := 0) nr (fun x _ hx => by have := (hp x (by omega)).1; omega)
    omega
  · obtain ⟨b1, b2, b3⟩ := l3 j hj
    exact ⟨b1, by have := (hp (lr j) b1).1; omega, b3⟩
