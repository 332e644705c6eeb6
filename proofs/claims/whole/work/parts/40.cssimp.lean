/-! ===== reading the class's heap behind a write ===== -/
section CSS
variable {S : cs_S} {f g a b q j k n ci : Nat} {x : Int32} {y : Int64} {z : Option Nat}
theorem kui : cs_k (cs_ui S f a x) b = cs_k S b := rfl
theorem kul : cs_k (cs_ul S f a y) b = cs_k S b := rfl
theorem kur : cs_k (cs_ur S f a z) b = cs_k S b := rfl
theorem kuai : cs_k (cs_uai S a j x) b = cs_k S b := rfl
theorem kual : cs_k (cs_ual S a j y) b = cs_k S b := rfl
theorem kuar : cs_k (cs_uar S a j z) b = cs_k S b := rfl
theorem knew : cs_k (cs_new S q ci) b = if b = q then ci + 1 else cs_k S b := rfl
theorem knewA : cs_k (cs_newA S q k n) b = if b = q then k else cs_k S b := rfl
theorem iui : cs_i (cs_ui S f a x) g b = if g = f ∧ b = a then x else cs_i S g b := rfl
theorem iul : cs_i (cs_ul S f a y) g b = cs_i S g b := rfl
theorem iur : cs_i (cs_ur S f a z) g b = cs_i S g b := rfl
theorem iuai : cs_i (cs_uai S a j x) g b = cs_i S g b := rfl
theorem iual : cs_i (cs_ual S a j y) g b = cs_i S g b := rfl
theorem iuar : cs_i (cs_uar S a j z) g b = cs_i S g b := rfl
theorem inew : cs_i (cs_new S q ci) g b = if b = q then 0 else cs_i S g b := rfl
theorem inewA : cs_i (cs_newA S q k n) g b = cs_i S g b := rfl
theorem lui : cs_l (cs_ui S f a x) g b = cs_l S g b := rfl
theorem lul : cs_l (cs_ul S f a y) g b = if g = f ∧ b = a then y else cs_l S g b := rfl
theorem lur : cs_l (cs_ur S f a z) g b = cs_l S g b := rfl
theorem luai : cs_l (cs_uai S a j x) g b = cs_l S g b := rfl
theorem lual : cs_l (cs_ual S a j y) g b = cs_l S g b := rfl
theorem luar : cs_l (cs_uar S a j z) g b = cs_l S g b := rfl
theorem lnew : cs_l (cs_new S q ci) g b = if b = q then 0 else cs_l S g b := rfl
theorem lnewA : cs_l (cs_newA S q k n) g b = cs_l S g b := rfl
theorem rui : cs_r (cs_ui S f a x) g b = cs_r S g b := rfl
theorem rul : cs_r (cs_ul S f a y) g b = cs_r S g b := rfl
theorem rur : cs_r (cs_ur S f a z) g b = if g = f ∧ b = a then z else cs_r S g b := rfl
theorem ruai : cs_r (cs_uai S a j x) g b = cs_r S g b := rfl
theorem rual : cs_r (cs_ual S a j y) g b = cs_r S g b := rfl
theorem ruar : cs_r (cs_uar S a j z) g b = cs_r S g b := rfl
theorem rnew : cs_r (cs_new S q ci) g b = if b = q then none else cs_r S g b := rfl
theorem rnewA : cs_r (cs_newA S q k n) g b = cs_r S g b := rfl
theorem nui : cs_n (cs_ui S f a x) b = cs_n S b := rfl
theorem nul : cs_n (cs_ul S f a y) b = cs_n S b := rfl
theorem nur : cs_n (cs_ur S f a z) b = cs_n S b := rfl
theorem nuai : cs_n (cs_uai S a j x) b = cs_n S b := rfl
theorem nual : cs_n (cs_ual S a j y) b = cs_n S b := rfl
theorem nuar : cs_n (cs_uar S a j z) b = cs_n S b := rfl
theorem nnew : cs_n (cs_new S q ci) b = cs_n S b := rfl
theorem nnewA : cs_n (cs_newA S q k n) b = if b = q then n else cs_n S b := rfl
theorem aiui {m : Nat} : cs_ai (cs_ui S f a x) b m = cs_ai S b m := rfl
theorem aiul {m : Nat} : cs_ai (cs_ul S f a y) b m = cs_ai S b m := rfl
theorem aiur {m : Nat} : cs_ai (cs_ur S f a z) b m = cs_ai S b m := rfl
theorem aiuai {m : Nat} : cs_ai (cs_uai S a j x) b m = if b = a ∧ m = j then x else cs_ai S b m := rfl
theorem aiual {m : Nat} : cs_ai (cs_ual S a j y) b m = cs_ai S b m := rfl
theorem aiuar {m : Nat} : cs_ai (cs_uar S a j z) b m = cs_ai S b m := rfl
theorem ainew {m : Nat} : cs_ai (cs_new S q ci) b m = cs_ai S b m := rfl
theorem ainewA {m : Nat} : cs_ai (cs_newA S q k n) b m = if b = q then 0 else cs_ai S b m := by
  by_cases h : b = q <;> simp [cs_ai, cs_newA, va_up, h]
theorem alui {m : Nat} : cs_al (cs_ui S f a x) b m = cs_al S b m := rfl
theorem alul {m : Nat} : cs_al (cs_ul S f a y) b m = cs_al S b m := rfl
theorem alur {m : Nat} : cs_al (cs_ur S f a z) b m = cs_al S b m := rfl
theorem aluai {m : Nat} : cs_al (cs_uai S a j x) b m = cs_al S b m := rfl
theorem alual {m : Nat} : cs_al (cs_ual S a j y) b m = if b = a ∧ m = j then y else cs_al S b m := rfl
theorem aluar {m : Nat} : cs_al (cs_uar S a j z) b m = cs_al S b m := rfl
theorem alnew {m : Nat} : cs_al (cs_new S q ci) b m = cs_al S b m := rfl
theorem alnewA {m : Nat} : cs_al (cs_newA S q k n) b m = if b = q then 0 else cs_al S b m := by
  by_cases h : b = q <;> simp [cs_al, cs_newA, va_up, h]
theorem arui {m : Nat} : cs_ar (cs_ui S f a x) b m = cs_ar S b m := rfl
theorem arul {m : Nat} : cs_ar (cs_ul S f a y) b m = cs_ar S b m := rfl
theorem arur {m : Nat} : cs_ar (cs_ur S f a z) b m = cs_ar S b m := rfl
theorem aruai {m : Nat} : cs_ar (cs_uai S a j x) b m = cs_ar S b m := rfl
theorem arual {m : Nat} : cs_ar (cs_ual S a j y) b m = cs_ar S b m := rfl
theorem aruar {m : Nat} : cs_ar (cs_uar S a j z) b m = if b = a ∧ m = j then z else cs_ar S b m := rfl
theorem arnew {m : Nat} : cs_ar (cs_new S q ci) b m = cs_ar S b m := rfl
theorem arnewA {m : Nat} : cs_ar (cs_newA S q k n) b m = if b = q then none else cs_ar S b m := by
  by_cases h : b = q <;> simp [cs_ar, cs_newA, va_up, h]
end CSS
section RFS2
variable {σ : rf_S} {f g j : Nat} {x : Int32} {y : Int64}
theorem r1ui : (rf_ui σ f x).1 g = if g = f then x else σ.1 g := rfl
theorem r2ui : (rf_ui σ f x).2.1 g = σ.2.1 g := rfl
theorem r3ui {m : Nat} : (rf_ui σ f x).2.2.1 g m = σ.2.2.1 g m := rfl
theorem r4ui {m : Nat} : (rf_ui σ f x).2.2.2 g m = σ.2.2.2 g m := rfl
theorem r1ul : (rf_ul σ f y).1 g = σ.1 g := rfl
theorem r2ul : (rf_ul σ f y).2.1 g = if g = f then y else σ.2.1 g := rfl
theorem r3ul {m : Nat} : (rf_ul σ f y).2.2.1 g m = σ.2.2.1 g m := rfl
theorem r4ul {m : Nat} : (rf_ul σ f y).2.2.2 g m = σ.2.2.2 g m := rfl
theorem r1ua : (rf_ua σ f j x).1 g = σ.1 g := rfl
theorem r2ua : (rf_ua σ f j x).2.1 g = σ.2.1 g := rfl
theorem r3ua {m : Nat} : (rf_ua σ f j x).2.2.1 g m = if g = f ∧ m = j then x else σ.2.2.1 g m := by
  by_cases h : g = f
  · subst h
    by_cases h2 : m = j <;> simp [rf_ua, upd, h2]
  · simp [rf_ua, h]
theorem r4ua {m : Nat} : (rf_ua σ f j x).2.2.2 g m = σ.2.2.2 g m := rfl
theorem r1ub : (rf_ub σ f j y).1 g = σ.1 g := rfl
theorem r2ub : (rf_ub σ f j y).2.1 g = σ.2.1 g := rfl
theorem r3ub {m : Nat} : (rf_ub σ f j y).2.2.1 g m = σ.2.2.1 g m := rfl
theorem r4ub {m : Nat} : (rf_ub σ f j y).2.2.2 g m = if g = f ∧ m = j then y else σ.2.2.2 g m := by
  by_cases h : g = f
  · subst h
    by_cases h2 : m = j <;> simp [rf_ub, vp_updL, h2]
  · simp [rf_ub, h]
end RFS2
