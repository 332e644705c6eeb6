/-! ===== the class's heap: by addresses, what each field holds ===== -/
/-- kinds of addresses; ints, longs, references by field and address; rows: how long, ints, longs, references -/
abbrev cs_S : Type := (Nat → Nat) × (Nat → Nat → Int32) × (Nat → Nat → Int64) × (Nat → Nat → Option Nat) × (Nat → Nat) × (Nat → Nat → Int32) × (Nat → Nat → Int64) × (Nat → Nat → Option Nat)
def cs_k (S : cs_S) (a : Nat) : Nat := S.1 a
def cs_i (S : cs_S) (f a : Nat) : Int32 := S.2.1 f a
def cs_l (S : cs_S) (f a : Nat) : Int64 := S.2.2.1 f a
def cs_r (S : cs_S) (f a : Nat) : Option Nat := S.2.2.2.1 f a
def cs_n (S : cs_S) (a : Nat) : Nat := S.2.2.2.2.1 a
def cs_ai (S : cs_S) (a j : Nat) : Int32 := S.2.2.2.2.2.1 a j
def cs_al (S : cs_S) (a j : Nat) : Int64 := S.2.2.2.2.2.2.1 a j
def cs_ar (S : cs_S) (a j : Nat) : Option Nat := S.2.2.2.2.2.2.2 a j
def cs_up2 {α : Type} (g : Nat → Nat → α) (f a : Nat) (x : α) : Nat → Nat → α := fun f' a' => if f' = f ∧ a' = a then x else g f' a'
def cs_at0 {α : Type} (g : Nat → Nat → α) (a : Nat) (x : α) : Nat → Nat → α := fun f' a' => if a' = a then x else g f' a'
def cs_ui (S : cs_S) (f a : Nat) (x : Int32) : cs_S := (S.1, cs_up2 S.2.1 f a x, S.2.2)
def cs_ul (S : cs_S) (f a : Nat) (x : Int64) : cs_S := (S.1, S.2.1, cs_up2 S.2.2.1 f a x, S.2.2.2)
def cs_ur (S : cs_S) (f a : Nat) (x : Option Nat) : cs_S := (S.1, S.2.1, S.2.2.1, cs_up2 S.2.2.2.1 f a x, S.2.2.2.2)
def cs_uai (S : cs_S) (a j : Nat) (x : Int32) : cs_S := (S.1, S.2.1, S.2.2.1, S.2.2.2.1, S.2.2.2.2.1, cs_up2 S.2.2.2.2.2.1 a j x, S.2.2.2.2.2.2)
def cs_ual (S : cs_S) (a j : Nat) (x : Int64) : cs_S := (S.1, S.2.1, S.2.2.1, S.2.2.2.1, S.2.2.2.2.1, S.2.2.2.2.2.1, cs_up2 S.2.2.2.2.2.2.1 a j x, S.2.2.2.2.2.2.2)
def cs_uar (S : cs_S) (a j : Nat) (x : Option Nat) : cs_S := (S.1, S.2.1, S.2.2.1, S.2.2.2.1, S.2.2.2.2.1, S.2.2.2.2.2.1, S.2.2.2.2.2.2.1, cs_up2 S.2.2.2.2.2.2.2 a j x)
/-- a new object of class number ci, all fields 0 and null -/
def cs_new (S : cs_S) (q ci : Nat) : cs_S := (va_up S.1 q (ci + 1), cs_at0 S.2.1 q 0, cs_at0 S.2.2.1 q 0, cs_at0 S.2.2.2.1 q none, S.2.2.2.2)
/-- a new row of kind k and length n, all 0 or null -/
def cs_newA (S : cs_S) (q k n : Nat) : cs_S := (va_up S.1 q k, S.2.1, S.2.2.1, S.2.2.2.1, va_up S.2.2.2.2.1 q n, va_up S.2.2.2.2.2.1 q (fun _ => 0), va_up S.2.2.2.2.2.2.1 q (fun _ => 0), va_up S.2.2.2.2.2.2.2 q (fun _ => none))
def cs_ty (ci : Nat) : Nat → FieldType := match ci with
  | 0 => tyJx4a65c | 1 => tyX0 | 2 => tyX1 | 3 => tyX2 | 4 => tyX3 | 5 => tyX4 | 6 => tyX5 | 7 => tyX6 | 8 => tyX7 | 9 => tyX8 | 10 => tyX9 | 11 => tyX10 | 12 => tyX11 | _ => fun _ => .int
def cs_aty (k : Nat) : FieldType := match k with
  | 20 => .int | 21 => .long | 22 => .object "WatchHouse$Rule" | 23 => .object "WatchHouse$Event" | 24 => .object "WatchHouse$Cond" | 25 => .object "WatchHouse$Key" | 26 => .object "WatchHouse$Value" | _ => .object "java/lang/Object"
def cs_V (S : cs_S) (ci a : Nat) : Nat → Value := fun k => match cs_ty ci k with
  | .int => .int (cs_i S (100 * ci + k) a)
  | .long => .long (cs_l S (100 * ci + k) a)
  | _ => va_rf (cs_r S (100 * ci + k) a)
def cs_row (S : cs_S) (a k : Nat) : Nat → Value := if k = 20 then fun j => .int (cs_ai S a j) else if k = 21 then fun j => .long (cs_al S a j) else fun j => va_rf (cs_ar S a j)
def cs_M (S : cs_S) : hw_M := fun a => if cs_k S a = 0 then none else if cs_k S a < 20 then some (.inl (cs_k S a - 1, cs_V S (cs_k S a - 1) a)) else some (.inr (cs_aty (cs_k S a), cs_n S a, cs_row S a (cs_k S a)))
theorem cs_M_obj {S : cs_S} {a ci : Nat} (h : cs_k S a = ci + 1) (hc : ci < 19) : cs_M S a = some (.inl (ci, cs_V S ci a)) := by
  have h0 : ¬ cs_k S a = 0 := by omega
  have h1 : cs_k S a < 20 := by omega
  have h2 : cs_k S a - 1 = ci := by omega
  simp only [cs_M, if_neg h0, if_pos h1, h2]
theorem cs_M_arr {S : cs_S} {a k : Nat} (h : cs_k S a = k) (hc : 20 ≤ k) : cs_M S a = some (.inr (cs_aty k, cs_n S a, cs_row S a k)) := by
  have h0 : ¬ cs_k S a = 0 := by omega
  have h1 : ¬ cs_k S a < 20 := by omega
  simp only [cs_M, if_neg h0, if_neg h1]
  rw [h]
theorem cs_M_none {S : cs_S} {a : Nat} (h : cs_M S a = none) : cs_k S a = 0 := by
  by_cases h0 : cs_k S a = 0
  · exact h0
  · by_cases h1 : cs_k S a < 20
    · simp [cs_M, h0, h1] at h
    · simp [cs_M, h0, h1] at h
/-- two heaps that agree at an address -/
theorem cs_M_same {S S' : cs_S} {a : Nat} (hk : cs_k S' a = cs_k S a) (hi : ∀ f, cs_i S' f a = cs_i S f a) (hl : ∀ f, cs_l S' f a = cs_l S f a) (hr : ∀ f, cs_r S' f a = cs_r S f a) (hn : cs_n S' a = cs_n S a) (h1 : ∀ j, cs_ai S' a j = cs_ai S a j) (h2 : ∀ j, cs_al S' a j = cs_al S a j) (h3 : ∀ j, cs_ar S' a j = cs_ar S a j) : cs_M S' a = cs_M S a := by
  have e1 : ∀ ci, cs_V S' ci a = cs_V S ci a := fun ci => funext fun k => by simp only [cs_V, hi, hl, hr]
  have e2 : ∀ k, cs_row S' a k = cs_row S a k := fun k => by simp only [cs_row, h1, h2, h3]
  simp only [cs_M, hk, hn, e1, e2]
theorem cs_M_ui {S : cs_S} {a ci k f : Nat} {x : Int32} (h : cs_k S a = ci + 1) (hc : ci < 19) (hf : 100 * ci + k = f) (ht : cs_ty ci k = .int) : hw_up (cs_M S) a (.inl (ci, updV (cs_V S ci a) k (.int x))) = cs_M (cs_ui S f a x) := by
  funext q
  by_cases hq : q = a
  · subst hq
    rw [hw_up_eq, cs_M_obj (S := cs_ui S f q x) h hc]
    congr 3
    funext j
    by_cases hj : j = k
    · subst hj
      simp [updV, cs_V, ht, cs_i, cs_ui, cs_up2, hf]
    · have : ¬ 100 * ci + j = f := by omega
      simp [updV, cs_V, cs_i, cs_l, cs_r, cs_ui, cs_up2, hj, this]
  · rw [hw_up_ne hq]
    refine Eq.symm (cs_M_same (S := S) (S' := (cs_ui S f a x)) rfl (fun f' => ?_) (fun _ => rfl) (fun _ => rfl) rfl (fun _ => rfl) (fun _ => rfl) (fun _ => rfl))
    simp [cs_i, cs_ui, cs_up2, hq]
theorem cs_M_ul {S : cs_S} {a ci k f : Nat} {x : Int64} (h : cs_k S a = ci + 1) (hc : ci < 19) (hf : 100 * ci + k = f) (ht : cs_ty ci k = .long) : hw_up (cs_M S) a (.inl (ci, updV (cs_V S ci a) k (.long x))) = cs_M (cs_ul S f a x) := by
  funext q
  by_cases hq : q = a
  · subst hq
    rw [hw_up_eq, cs_M_obj (S := cs_ul S f q x) h hc]
    congr 3
    funext j
    by_cases hj : j = k
    · subst hj
      simp [updV, cs_V, ht, cs_l, cs_ul, cs_up2, hf]
    · have : ¬ 100 * ci + j = f := by omega
      simp [updV, cs_V, cs_i, cs_l, cs_r, cs_ul, cs_up2, hj, this]
  · rw [hw_up_ne hq]
    refine Eq.symm (cs_M_same (S := S) (S' := (cs_ul S f a x)) rfl (fun _ => rfl) (fun f' => ?_) (fun _ => rfl) rfl (fun _ => rfl) (fun _ => rfl) (fun _ => rfl))
    simp [cs_l, cs_ul, cs_up2, hq]
/-- a field that holds a reference -/
def cs_isR : FieldType → Bool
  | .object _ => true
  | .array _ => true
  | _ => false
theorem cs_M_ur {S : cs_S} {a ci k f : Nat} {x : Option Nat} (h : cs_k S a = ci + 1) (hc : ci < 19) (hf : 100 * ci + k = f) (ht : cs_isR (cs_ty ci k) = true) : hw_up (cs_M S) a (.inl (ci, updV (cs_V S ci a) k (va_rf x))) = cs_M (cs_ur S f a x) := by
  funext q
  by_cases hq : q = a
  · subst hq
    rw [hw_up_eq, cs_M_obj (S := cs_ur S f q x) h hc]
    congr 3
    funext j
    by_cases hj : j = k
    · subst hj
      cases hy : cs_ty ci j <;> simp [hy, cs_isR] at ht <;> simp [updV, cs_V, hy, cs_r, cs_ur, cs_up2, hf]
    · have : ¬ 100 * ci + j = f := by omega
      simp [updV, cs_V, cs_i, cs_l, cs_r, cs_ur, cs_up2, hj, this]
  · rw [hw_up_ne hq]
    refine Eq.symm (cs_M_same (S := S) (S' := (cs_ur S f a x)) rfl (fun _ => rfl) (fun _ => rfl) (fun f' => ?_) rfl (fun _ => rfl) (fun _ => rfl) (fun _ => rfl))
    simp [cs_r, cs_ur, cs_up2, hq]
theorem cs_M_uai {S : cs_S} {a j : Nat} {x : Int32} (h : cs_k S a = 20) : hw_up (cs_M S) a (.inr (.int, cs_n S a, updV (cs_row S a 20) j (.int x))) = cs_M (cs_uai S a j x) := by
  funext q
  by_cases hq : q = a
  · subst hq
    rw [hw_up_eq, cs_M_arr (S := cs_uai S q j x) (k := 20) h (by decide)]
    congr 4
    funext i
    by_cases hi : i = j <;> simp [updV, cs_row, cs_ai, cs_uai, cs_up2, hi]
  · rw [hw_up_ne hq]
    refine Eq.symm (cs_M_same (S := S) (S' := (cs_uai S a j x)) rfl (fun _ => rfl) (fun _ => rfl) (fun _ => rfl) rfl (fun i => ?_) (fun _ => rfl) (fun _ => rfl))
    simp [cs_ai, cs_uai, cs_up2, hq]
theorem cs_M_ual {S : cs_S} {a j : Nat} {x : Int64} (h : cs_k S a = 21) : hw_up (cs_M S) a (.inr (.long, cs_n S a, updV (cs_row S a 21) j (.long x))) = cs_M (cs_ual S a j x) := by
  funext q
  by_cases hq : q = a
  · subst hq
    rw [hw_up_eq, cs_M_arr (S := cs_ual S q j x) (k := 21) h (by decide)]
    congr 4
    funext i
    by_cases hi : i = j <;> simp [updV, cs_row, cs_al, cs_ual, cs_up2, hi]
  · rw [hw_up_ne hq]
    refine Eq.symm (cs_M_same (S := S) (S' := (cs_ual S a j x)) rfl (fun _ => rfl) (fun _ => rfl) (fun _ => rfl) rfl (fun _ => rfl) (fun i => ?_) (fun _ => rfl))
    simp [cs_al, cs_ual, cs_up2, hq]
theorem cs_M_uar {S : cs_S} {a j k : Nat} {x : Option Nat} (h : cs_k S a = k) (hk : 22 ≤ k) : hw_up (cs_M S) a (.inr (cs_aty k, cs_n S a, updV (cs_row S a k) j (va_rf x))) = cs_M (cs_uar S a j x) := by
  funext q
  by_cases hq : q = a
  · subst hq
    rw [hw_up_eq, cs_M_arr (S := cs_uar S q j x) (k := k) h (by omega)]
    congr 4
    have h1 : ¬ k = 20 := by omega
    have h2 : ¬ k = 21 := by omega
    funext i
    by_cases hi : i = j <;> simp [updV, cs_row, cs_ar, cs_uar, cs_up2, hi, h1, h2]
  · rw [hw_up_ne hq]
    refine Eq.symm (cs_M_same (S := S) (S' := (cs_uar S a j x)) rfl (fun _ => rfl) (fun _ => rfl) (fun _ => rfl) rfl (fun _ => rfl) (fun _ => rfl) (fun i => ?_))
    simp [cs_ar, cs_uar, cs_up2, hq]
def cs_dv : FieldType → Value
  | .int => .int 0
  | .long => .long 0
  | _ => .null
theorem cs_M_new {S : cs_S} {q ci : Nat} (hc : ci < 19) (hd : ∀ k, defaultValue (cs_ty ci k) = cs_dv (cs_ty ci k)) : hw_up (cs_M S) q (.inl (ci, fun k => defaultValue (cs_ty ci k))) = cs_M (cs_new S q ci) := by
  funext x
  by_cases hx : x = q
  · subst hx
    rw [hw_up_eq, cs_M_obj (S := cs_new S x ci) (ci := ci) (by simp [cs_k, cs_new, va_up]) hc]
    congr 3
    funext k
    rw [hd k]
    cases hy : cs_ty ci k <;> simp [cs_dv, cs_V, hy, cs_i, cs_l, cs_r, cs_new, cs_at0, va_rf]
  · rw [hw_up_ne hx]
    refine Eq.symm (cs_M_same (S := S) (S' := (cs_new S q ci)) (by simp [cs_k, cs_new, va_up, hx]) (fun _ => by simp [cs_i, cs_new, cs_at0, hx]) (fun _ => by simp [cs_l, cs_new, cs_at0, hx]) (fun _ => by simp [cs_r, cs_new, cs_at0, hx]) rfl (fun _ => rfl) (fun _ => rfl) (fun _ => rfl))
theorem cs_M_newA {S : cs_S} {q k n : Nat} {v : Value} (hk : 20 ≤ k) (hv : v = if k = 20 then .int 0 else if k = 21 then .long 0 else .null) : hw_up (cs_M S) q (.inr (cs_aty k, n, fun _ => v)) = cs_M (cs_newA S q k n) := by
  funext x
  by_cases hx : x = q
  · subst hx
    rw [hw_up_eq, cs_M_arr (S := cs_newA S x k n) (k := k) (by simp [cs_k, cs_newA, va_up]) hk]
    subst hv
    by_cases h1 : k = 20
    · simp [cs_n, cs_newA, va_up, cs_row, h1, cs_ai]
    · by_cases h2 : k = 21
      · simp [cs_n, cs_newA, va_up, cs_row, h2, cs_al]
      · simp [cs_n, cs_newA, va_up, cs_row, h1, h2, cs_ar, va_rf]
  · rw [hw_up_ne hx]
    refine Eq.symm (cs_M_same (S := S) (S' := (cs_newA S q k n)) (by simp [cs_k, cs_newA, va_up, hx]) (fun _ => rfl) (fun _ => rfl) (fun _ => rfl) (by simp [cs_n, cs_newA, va_up, hx]) (fun _ => by simp [cs_ai, cs_newA, va_up, hx]) (fun _ => by simp [cs_al, cs_newA, va_up, hx]) (fun _ => by simp [cs_ar, cs_newA, va_up, hx]))
