/-! ===== a world by addresses: what lies at each; a contract speaks of the whole of it ===== -/
abbrev hw_E : Type := (Nat × (Nat → Value)) ⊕ (FieldType × Nat × (Nat → Value))
abbrev hw_M : Type := Nat → Option hw_E
/-- an entry that may be written: any object, any array of at least one place -/
def hw_w : hw_E → Bool
  | .inl _ => true
  | .inr q => decide (q.2.1 ≠ 0)
/-- the launch's numbers: classes and slots, array classes by their component, the first address that is ours -/
abbrev hw_G : Type := va_G × (FieldType → ClassId) × Nat
def hw_at (P : hw_G) (a : Nat) (e : hw_E) (H : Heap) : Prop := match e with
  | .inl o => ∃ r : vw_C, vwCl[o.1]? = some r ∧ t_OB a (P.1.1 o.1) r.2.2 (P.1.2 o.1) H o.2
  | .inr q => (q.2.1 ≠ 0 → H[a]? = some (arrV (P.2.1 q.1) q.2.1 q.2.2)) ∧ (q.2.1 = 0 → ∃ cell : Cell, H[a]? = some cell ∧ (∀ k, cell.vm ≠ .statics k) ∧ (cell.cls = P.2.1 q.1 ∨ (q.1 = .int ∧ cell.cls = P.2.2)) ∧ cell.slots.size.toInt32 = 0)
theorem hw_at.arr {P : hw_G} {a : Nat} {ty : FieldType} {n : Nat} {f : Nat → Value} {H : Heap} (h : H[a]? = some (arrV (P.2.1 ty) n f)) : hw_at P a (.inr (ty, n, f)) H :=
  ⟨fun _ => h, fun h0 => ⟨_, h, fun k q => (by cases q), Or.inl rfl, by have h0 : n = 0 := h0; rw [arrV_size, h0]; rfl⟩⟩
theorem hw_at.eq {P : hw_G} {a : Nat} {ty : FieldType} {n : Nat} {f : Nat → Value} {H : Heap} (h : hw_at P a (.inr (ty, n, f)) H) (hn : n ≠ 0) : H[a]? = some (arrV (P.2.1 ty) n f) := h.1 hn
theorem hw_at.in {P : hw_G} {a : Nat} {ty : FieldType} {n : Nat} {f : Nat → Value} {H : Heap} (h : hw_at P a (.inr (ty, n, f)) H) {i : Int32} (hi : vp_in i n) : H[a]? = some (arrV (P.2.1 ty) n f) := h.1 (fun h0 => hi (Or.inr (by have h0 : n = 0 := h0; rw [h0]; exact Nat.zero_le _)))
theorem hw_at.kept {P : hw_G} {a : Nat} {e : hw_E} {H H1 : Heap} (h : hw_at P a e H) (hq : H1[a]? = H[a]?) : hw_at P a e H1 := by
  cases e with
  | inl o =>
    obtain ⟨r, h1, h2⟩ := h
    exact ⟨r, h1, h2.kept hq⟩
  | inr q =>
    refine ⟨fun hn => by rw [hq]; exact h.1 hn, fun h0 => ?_⟩
    obtain ⟨cell, h1, h2⟩ := h.2 h0
    exact ⟨cell, by rw [hq]; exact h1, h2⟩
theorem hw_at.lt {P : hw_G} {a : Nat} {e : hw_E} {H : Heap} (h : hw_at P a e H) : a < H.size := by
  cases e with
  | inl o =>
    obtain ⟨r, h1, cell, h2, -⟩ := h
    exact (Array.getElem?_eq_some_iff.mp h2).1
  | inr q =>
    by_cases h0 : q.2.1 = 0
    · obtain ⟨cell, h1, -⟩ := h.2 h0
      exact (Array.getElem?_eq_some_iff.mp h1).1
    · exact (Array.getElem?_eq_some_iff.mp (h.1 h0)).1
def hw_in (P : hw_G) (M : hw_M) (H : Heap) : Prop := ∀ (a : Nat) (e : hw_E), M a = some e → hw_at P a e H
def hw_up (M : hw_M) (a : Nat) (e : hw_E) : hw_M := fun q => if q = a then some e else M q
theorem hw_up_eq {M : hw_M} {a : Nat} {e : hw_E} : hw_up M a e a = some e := if_pos rfl
theorem hw_up_ne {M : hw_M} {a q : Nat} {e : hw_E} (h : q ≠ a) : hw_up M a e q = M q := if_neg h
/-- the components of the arrays of the two classes -/
def hw_tys : List FieldType := [.int, .long, .byte, .short, .boolean, .object "WatchHouse$Rule", .object "WatchHouse$Event", .object "WatchHouse$Cond", .object "WatchHouse$Key", .object "WatchHouse$Value", .object "java/lang/Object"]
def hw_obs : List String := ["WatchHouse$Rule", "WatchHouse$Event", "WatchHouse$Cond", "WatchHouse$Key", "WatchHouse$Value", "java/lang/Object"]
/-- what the tables say, at any state of this launch -/
def hw_K (P : hw_G) (U : State) : Prop :=
  (∀ w ∈ lw_tbl, goodWord w = true → w.before #[] U = true) ∧
  (∀ (c : Nat) (q : vw_C), vwCl[c]? = some q → u_Kn U q.1 q.2.1 q.2.2 (P.1.1 c) (P.1.2 c) ∧ (∀ w ∈ u_ws q.1 q.2.1 q.2.2, w ∈ lw_tbl ∧ goodWord w = true) ∧ ∀ x y, x < q.2.2 → y < q.2.2 → x ≠ y → P.1.2 c x ≠ P.1.2 c y) ∧
  (∀ ty ∈ hw_tys, ArrOfT U (P.2.1 ty) ty ∧ va_RA U (P.2.1 ty) ty) ∧ (∀ C ∈ hw_obs, va_AO C U) ∧ ArrOfT U P.2.2 .int
theorem hw_K.word {P : hw_G} {s : State} {args : Array Value} {w : Cond} (h : hw_K P s) (hw : w ∈ lw_tbl) (hg : goodWord w = true) : w.before args s = true := word_at (State.WarmedH.refl s) (good_of_word hg) (h.1 w hw hg)
theorem hw_K.warm {P : hw_G} {s U : State} (hW : s.WarmedH U.vm) (h : hw_K P s) : hw_K P U :=
  ⟨fun w hw hg => word_at hW (good_of_word hg) (h.1 w hw hg), fun c q hq => ⟨u_Kn_moved hW.alike (h.2.1 c q hq).1, (h.2.1 c q hq).2⟩, fun ty ht => ⟨arrOfT_moved hW.alike (h.2.2.1 ty ht).1, (h.2.2.1 ty ht).2.moved hW.alike⟩, fun C hC => va_AO.moved hW.alike (h.2.2.2.1 C hC), arrOfT_moved hW.alike h.2.2.2.2⟩
theorem hw_K.same {P : hw_G} {s U : State} (hv : U.vm = s.vm) (h : hw_K P s) : hw_K P U := h.warm (by rw [hv]; exact State.WarmedH.refl s)
theorem hw_K.lays {P : hw_G} {s : State} {args : Array Value} {c : Nat} {q : vw_C} (h : hw_K P s) (hc : vwCl[c]? = some q) : ∀ w ∈ u_ws q.1 q.2.1 q.2.2, w.before args s = true := fun w hw => h.word ((h.2.1 c q hc).2.1 w hw).1 ((h.2.1 c q hc).2.1 w hw).2
/-- the state of a run: s the method's start, A what it may write -/
def hw_St (P : hw_G) (s : State) (A : Nat → Prop) (M : hw_M) (H : Heap) (locs : List Loc) : Prop :=
  va_S A s.heap H locs ∧ hw_in P M H ∧ (∀ (a : Nat) (e : hw_E), M a = some e → hw_w e = true → A a) ∧ ∀ q, s.heap.size ≤ q → A q
theorem hw_in.set {P : hw_G} {M : hw_M} {H H1 : Heap} {a : Nat} {e : hw_E} (h : hw_in P M H) (he : hw_at P a e H1) (oq : ∀ q, q ≠ a → H1[q]? = H[q]?) : hw_in P (hw_up M a e) H1 := by
  intro q x hx
  by_cases hq : q = a
  · subst hq
    rw [hw_up_eq] at hx
    cases hx
    exact he
  · rw [hw_up_ne hq] at hx
    exact (h q x hx).kept (oq q hq)
theorem hw_St.set {P : hw_G} {s : State} {A : Nat → Prop} {M : hw_M} {H H1 : Heap} {locs : List Loc} {a k : Nat} {e0 e : hw_E} (h : hw_St P s A M H locs) (h0 : M a = some e0) (hw : hw_w e0 = true) (he : hw_at P a e H1) (z : H1.size = H.size) (oq : ∀ q, q ≠ a → H1[q]? = H[q]?) : hw_St P s A (hw_up M a e) H1 (locs ++ [⟨a, k⟩]) := by
  have hA := h.2.2.1 a e0 h0 hw
  refine ⟨h.1.put z oq hA, h.2.1.set he oq, fun q x hx hw' => ?_, h.2.2.2⟩
  by_cases hq : q = a
  · rw [hq]; exact hA
  · rw [hw_up_ne hq] at hx
    exact h.2.2.1 q x hx hw'
theorem hw_St.new {P : hw_G} {s : State} {A : Nat → Prop} {M : hw_M} {H H1 : Heap} {locs : List Loc} {e : hw_E} (h : hw_St P s A M H locs) (he : hw_at P H.size e H1) (z : H1.size = H.size + 1) (oq : ∀ q, q < H.size → H1[q]? = H[q]?) : hw_St P s A (hw_up M H.size e) H1 locs := by
  refine ⟨⟨Nat.le_trans h.1.1 (by omega), fun x h1 h2 => (oq x (Nat.lt_of_lt_of_le h1 h.1.1)).trans (h.1.2.1 x h1 h2), h.1.2.2⟩, fun q x hx => ?_, fun q x hx hw' => ?_, h.2.2.2⟩
  · by_cases hq : q = H.size
    · subst hq
      rw [hw_up_eq] at hx
      cases hx
      exact he
    · rw [hw_up_ne hq] at hx
      exact (h.2.1 q x hx).kept (oq q (h.2.1 q x hx).lt)
  · by_cases hq : q = H.size
    · rw [hq]; exact h.2.2.2 _ h.1.1
    · rw [hw_up_ne hq] at hx
      exact h.2.2.1 q x hx hw'
theorem hw_St.fresh {P : hw_G} {s : State} {A : Nat → Prop} {M : hw_M} {H : Heap} {locs : List Loc} (h : hw_St P s A M H locs) : M H.size = none := by
  cases hx : M H.size with
  | none => rfl
  | some e => exact absurd (h.2.1 _ _ hx).lt (Nat.lt_irrefl _)
section HWR
variable {p : Program} {l : Launch} {e : Env} {R : Room} {s : State} {m : MethodId} {args : Array Value} {below : List Frame} {meth : Method} {c : Code} {H : Heap} {locs : List Loc} {cells slots : Nat} {Q : State → Prop}
variable {cc : ByteArray} {pc : Nat} {ls : Array Slot} {rest : List Value} {P : hw_G} {A : Nat → Prop} {a : Nat} {M : hw_M}
/-- getfield -/
theorem hw_get (hexec : p.tables.exec = Jvm.exec) (hb : c.code = cc) (hK : hw_K P s) (hT : hw_St P s A M H locs) {own : String} (hown : s.vm.findClass own = some m.cls) {C : String} {T : u_T} {N ci index : Nat} {V : Nat → Value} (hM : M a = some (.inl (ci, V))) (hc : vwCl[ci]? = some (C, T, N)) (k : Nat) (hk : k < N) (hlink : Cond.fieldLink own index (T k).1 (T k).2.1 (T k).2.2.1 ∈ lw_tbl) {v : Value} (hv : V k = v) (hdg : decode cc pc = .ok (.getfield index, 3))
    (kk : W p l e R s m args below meth c H locs cells slots Q (F0 m (pc + 3) ls (v :: rest))) : W p l e R s m args below meth c H locs cells slots Q (F0 m pc ls (.ref a :: rest)) := by
  obtain ⟨r, h1, cell, q1, q2, q3, q4⟩ := hT.2.1 _ _ hM
  have hr : r = (C, T, N) := Option.some.inj (h1.symm.trans hc)
  subst hr
  obtain ⟨⟨hS, hfc, kC, hkC, hkind⟩, -, -⟩ := hK.2.1 ci _ hc
  obtain ⟨cf, kf, fi, f, hi, hsl⟩ := hS k hk
  refine W.getf hexec hb hown (hK.word hlink rfl) hi (u_facts hfc hkC (u_lays (hK.lays (args := args) hc) (fun _ h => h) hk) hi).1 q1 (by rw [q3]; exact fun h => by cases h) (v := v) ?_ rfl rfl hdg kk
  rw [hsl, q4 k hk, ← hv]
/-- putfield -/
theorem hw_put (hexec : p.tables.exec = Jvm.exec) (hb : c.code = cc) (hK : hw_K P s) (hT : hw_St P s A M H locs) {own : String} (hown : s.vm.findClass own = some m.cls) {C : String} {T : u_T} {N ci index : Nat} {V : Nat → Value} (hM : M a = some (.inl (ci, V))) (hc : vwCl[ci]? = some (C, T, N)) (k : Nat) (hk : k < N) (hlink : Cond.fieldLink own index (T k).1 (T k).2.1 (T k).2.2.1 ∈ lw_tbl) (hfin : (T k).2.2.2 = false) {ty : FieldType} {v : Value} (hd : parseFieldDescriptor (T k).2.2.1 = some ty) (hn : narrow ty v = v) (hfit : fits ty v = true) (hdg : decode cc pc = .ok (.putfield index, 3))
    (kk : ∀ (H1 : Heap) (locs1 : List Loc), hw_St P s A (hw_up M a (.inl (ci, updV V k v))) H1 locs1 → W p l e R s m args below meth c H1 locs1 cells slots Q (F0 m (pc + 3) ls rest)) : W p l e R s m args below meth c H locs cells slots Q (F0 m pc ls (v :: .ref a :: rest)) := by
  obtain ⟨r, h1, cell, q1, q2, q3, q4⟩ := hT.2.1 _ _ hM
  have hr : r = (C, T, N) := Option.some.inj (h1.symm.trans hc)
  subst hr
  obtain ⟨⟨hS, hfc, kC, hkC, hkind⟩, hin, hap⟩ := hK.2.1 ci _ hc
  obtain ⟨cf, kf, fi, f, hi, hsl⟩ := hS k hk
  have hlay : (u_lay C T k).before args s = true := hK.lays (args := args) hc _ (u_in_lay hk)
  unfold u_lay at hlay
  rw [if_neg (by rw [hfin]; decide)] at hlay
  have hst := (u_facts hfc hkC (u_lays (hK.lays (args := args) hc) (fun _ h => h) hk) hi).1
  have h6 := u_store hfc hkC hkind hlay hi hd hn hfit
  refine W.putK hexec hb (f := f) ⟨hown, hK.word hlink rfl, ⟨_, _, _, hi⟩, hst⟩ (by rw [q2]; exact h6) q1 q3 (by rw [hsl]; exact k2_hasslot (q4 k hk)) rfl rfl hdg fun H' e1 e2 e3 => ?_
  rw [hsl] at e1 ⊢
  exact kk H' _ (hT.set hM rfl ⟨_, hc, _, e1, q2, q3, t_set q4 hap hk v⟩ e2 e3)
/-- putfield of a final field, in its constructor -/
theorem hw_putF (hexec : p.tables.exec = Jvm.exec) (hb : c.code = cc) (hK : hw_K P s) (hT : hw_St P s A M H locs) {own : String} (hown : s.vm.findClass own = some m.cls) (hin2 : meth.name = "<init>") {C : String} {T : u_T} {N ci index : Nat} {V : Nat → Value} (hM : M a = some (.inl (ci, V))) (hc : vwCl[ci]? = some (C, T, N)) (k : Nat) (hk : k < N) (hlink : Cond.fieldLink own index (T k).1 (T k).2.1 (T k).2.2.1 ∈ lw_tbl) (hfin : (T k).2.2.2 = true) (hdecl : (T k).1 = own) {ty : FieldType} {v : Value} (hd : parseFieldDescriptor (T k).2.2.1 = some ty) (hn : narrow ty v = v) (hfit : fits ty v = true) (hdg : decode cc pc = .ok (.putfield index, 3))
    (kk : ∀ (H1 : Heap) (locs1 : List Loc), hw_St P s A (hw_up M a (.inl (ci, updV V k v))) H1 locs1 → W p l e R s m args below meth c H1 locs1 cells slots Q (F0 m (pc + 3) ls rest)) : W p l e R s m args below meth c H locs cells slots Q (F0 m pc ls (v :: .ref a :: rest)) := by
  obtain ⟨r, h1, cell, q1, q2, q3, q4⟩ := hT.2.1 _ _ hM
  have hr : r = (C, T, N) := Option.some.inj (h1.symm.trans hc)
  subst hr
  obtain ⟨⟨hS, hfc, kC, hkC, hkind⟩, hin, hap⟩ := hK.2.1 ci _ hc
  obtain ⟨cf, kf, fi, f, hi, hsl⟩ := hS k hk
  have hlay : (u_lay C T k).before args s = true := hK.lays (args := args) hc _ (u_in_lay hk)
  unfold u_lay at hlay
  rw [if_pos hfin] at hlay
  have hst := (u_facts hfc hkC (u_lays (hK.lays (args := args) hc) (fun _ h => h) hk) hi).1
  have hcf : m.cls = cf := by
    obtain ⟨_, _, c', _, _, _, -, -, hf', -, -, -, hown2, -⟩ := Cond.laysFinal_spec hlay
    have e1 : c' = cf := by have := hi.symm.trans hf'; simp at this; exact this.1.symm
    rw [hdecl] at hown2
    rw [← e1]; exact Option.some.inj (hown.symm.trans hown2)
  have h6 := u_fits hfc hkC hkind (Or.inr hlay) hi hd hn hfit
  refine W.putFinK hexec hb hown (hK.word hlink rfl) hi hst hcf hin2 (by rw [q2]; exact h6) q1 q3 (by rw [hsl]; exact k2_hasslot (q4 k hk)) rfl rfl hdg fun H' e1 e2 e3 => ?_
  rw [hsl] at e1 ⊢
  exact kk H' _ (hT.set hM rfl ⟨_, hc, _, e1, q2, q3, t_set q4 hap hk v⟩ e2 e3)
/-- new: an object with the fields' first values -/
theorem hw_new (hexec : p.tables.exec = Jvm.exec) (hb : c.code = cc) (hK : hw_K P s) (hT : hw_St P s A M H locs) {own : String} (hown : s.vm.findClass own = some m.cls) {C : String} {T : u_T} {N ci index : Nat} (hc : vwCl[ci]? = some (C, T, N)) (ty : Nat → FieldType) (hty : ∀ k, k < N → parseFieldDescriptor (T k).2.2.1 = some (ty k)) (hcl : Cond.classLink own index C ∈ lw_tbl) (hinst : Cond.instantiable C N ∈ lw_tbl) (hini : Cond.initialized C ∈ lw_tbl) (hcells : cells + 1 ≤ R.cells) (hslots : slots + N ≤ R.slots) (hdg : decode cc pc = .ok (.new index, 3))
    (kk : ∀ (q : Nat) (H1 : Heap), M q = none → s.heap.size ≤ q → q = H.size → hw_St P s A (hw_up M q (.inl (ci, fun k => defaultValue (ty k)))) H1 locs → W p l e R s m args below meth c H1 locs (cells + 1) (slots + N) Q (F0 m (pc + 3) ls (.ref q :: rest))) : W p l e R s m args below meth c H locs cells slots Q (F0 m pc ls rest) := by
  have hKn := (hK.2.1 ci _ hc).1
  refine W.newcK hexec hb hown (hK.word hcl rfl) (hK.word hinst rfl) (hK.word hini rfl) rfl hdg hcells hslots hKn.2.1 rfl fun H1 kC hkC e1 z1 o1 => ?_
  exact kk H.size H1 hT.fresh hT.1.1 rfl (hT.new ⟨_, hc, u_born ty (hK.lays (args := args) hc) (fun _ h => h) hKn hkC e1 hty⟩ z1 o1)
/-- newarray -/
theorem hw_newa (hexec : p.tables.exec = Jvm.exec) (hb : c.code = cc) (hK : hw_K P s) (hT : hw_St P s A M H locs) {atype : ArrayType} {ty : FieldType} (hty : newarray.typeOf atype = ty) (harr : Cond.arrayClass ty ∈ lw_tbl) (hin : ty ∈ hw_tys) {n : Int32} {N : Nat} (hn : ¬ n < 0) (hN : n.toNatClampNeg = N) (hbytes : N * componentBytes ty ≤ 536870912) (hcells : cells + 1 ≤ R.cells) (hslots : slots + N ≤ R.slots) (hdg : decode cc pc = .ok (.newarray atype, 2))
    (kk : ∀ (q : Nat) (H1 : Heap), M q = none → s.heap.size ≤ q → q = H.size → hw_St P s A (hw_up M q (.inr (ty, N, fun _ => defaultValue ty))) H1 locs → W p l e R s m args below meth c H1 locs (cells + 1) (slots + N) Q (F0 m (pc + 2) ls (.ref q :: rest))) : W p l e R s m args below meth c H locs cells slots Q (F0 m pc ls (.int n :: rest)) := by
  subst hty
  refine va_newaK hexec hb (hK.word harr rfl) rfl hdg rfl hn hN hbytes hcells hslots rfl fun H1 cA e1 z1 o1 hAr hNm => ?_
  have hcA : cA = P.2.1 (newarray.typeOf atype) := by
    have h2 := (hK.2.2.1 _ hin).2
    have h3 : s.vm.findClass ("[" ++ (newarray.typeOf atype).toString) = some (P.2.1 (newarray.typeOf atype)) := by
      cases atype <;> exact h2
    exact Option.some.inj (hNm.symm.trans h3)
  subst hcA
  exact kk H.size H1 hT.fresh hT.1.1 rfl (hT.new (hw_at.arr e1) z1 o1)
/-- arraylength -/
theorem hw_alen (hexec : p.tables.exec = Jvm.exec) (hb : c.code = cc) (hK : hw_K P s) (hT : hw_St P s A M H locs) {ty : FieldType} {n : Nat} {f : Nat → Value} (hM : M a = some (.inr (ty, n, f))) (hin : ty ∈ hw_tys) {v : Int32} (hv : Int32.ofNat n = v) (hdg : decode cc pc = .ok (.arraylength, 1))
    (kk : W p l e R s m args below meth c H locs cells slots Q (F0 m (pc + 1) ls (.int v :: rest))) : W p l e R s m args below meth c H locs cells slots Q (F0 m pc ls (.ref a :: rest)) := by
  subst hv
  by_cases h0 : n = 0
  · obtain ⟨cell, h1, h2, h3, h4⟩ := (hT.2.1 _ _ hM).2 h0
    refine W.alen (n := Int32.ofNat n) hexec hb h1 (ty := ty) ?_ (by rw [h4, h0] <;> rfl) rfl rfl hdg kk
    rcases h3 with h3 | ⟨h3, h5⟩
    · exact ⟨h2, by rw [h3]; exact ((hK.2.2.1 _ hin).1 n f).2⟩
    · have h3 : ty = .int := h3
      subst h3
      exact ⟨h2, by rw [h5]; exact (hK.2.2.2.2 n f).2⟩
  · exact W.alen (n := Int32.ofNat n) hexec hb ((hT.2.1 _ _ hM).eq h0) ((hK.2.2.1 _ hin).1 n f) (by rw [arrV_size] <;> rfl) rfl rfl hdg kk
/-- iaload of a row of int -/
theorem hw_iald (hexec : p.tables.exec = Jvm.exec) (hb : c.code = cc) (hK : hw_K P s) (hT : hw_St P s A M H locs) {n : Nat} {f : Nat → Value} (hM : M a = some (.inr (.int, n, f))) {i : Int32} (hin : vp_in i n) {v : Value} (hv : f i.toNatClampNeg = v) (hdg : decode cc pc = .ok (.iaload, 1))
    (kk : W p l e R s m args below meth c H locs cells slots Q (F0 m (pc + 1) ls (v :: rest))) : W p l e R s m args below meth c H locs cells slots Q (F0 m pc ls (.int i :: .ref a :: rest)) := by
  have hlt : i.toNatClampNeg < n := Nat.not_le.mp fun q => hin (Or.inr q)
  subst hv
  exact W.iald (v := f i.toNatClampNeg) hexec hb ((hT.2.1 _ _ hM).in hin) ((hK.2.2.1 .int (by decide)).1 n f) (fun q => by cases q) (by show ¬ (i < 0 ∨ (arrV _ _ _).slots.size ≤ _); rw [arrV_size]; exact hin) (by show (arrV _ _ _).slots[_]? = _; rw [arrV_read _ _ hlt]) rfl rfl hdg kk
/-- baload of a row of byte -/
theorem hw_bald (hexec : p.tables.exec = Jvm.exec) (hb : c.code = cc) (hK : hw_K P s) (hT : hw_St P s A M H locs) {n : Nat} {f : Nat → Value} (hM : M a = some (.inr (.byte, n, f))) {i : Int32} (hin : vp_in i n) {v : Value} (hv : f i.toNatClampNeg = v) (hdg : decode cc pc = .ok (.baload, 1))
    (kk : W p l e R s m args below meth c H locs cells slots Q (F0 m (pc + 1) ls (v :: rest))) : W p l e R s m args below meth c H locs cells slots Q (F0 m pc ls (.int i :: .ref a :: rest)) := by
  have hlt : i.toNatClampNeg < n := Nat.not_le.mp fun q => hin (Or.inr q)
  subst hv
  exact W.bald (v := f i.toNatClampNeg) hexec hb ((hT.2.1 _ _ hM).in hin) ((hK.2.2.1 .byte (by decide)).1 n f) (fun q => by cases q) (by show ¬ (i < 0 ∨ (arrV _ _ _).slots.size ≤ _); rw [arrV_size]; exact hin) (by show (arrV _ _ _).slots[_]? = _; rw [arrV_read _ _ hlt]) rfl rfl hdg kk
/-- saload of a row of short -/
theorem hw_sald (hexec : p.tables.exec = Jvm.exec) (hb : c.code = cc) (hK : hw_K P s) (hT : hw_St P s A M H locs) {n : Nat} {f : Nat → Value} (hM : M a = some (.inr (.short, n, f))) {i : Int32} (hin : vp_in i n) {v : Value} (hv : f i.toNatClampNeg = v) (hdg : decode cc pc = .ok (.saload, 1))
    (kk : W p l e R s m args below meth c H locs cells slots Q (F0 m (pc + 1) ls (v :: rest))) : W p l e R s m args below meth c H locs cells slots Q (F0 m pc ls (.int i :: .ref a :: rest)) := by
  have hlt : i.toNatClampNeg < n := Nat.not_le.mp fun q => hin (Or.inr q)
  subst hv
  exact W.sald (v := f i.toNatClampNeg) hexec hb ((hT.2.1 _ _ hM).in hin) ((hK.2.2.1 .short (by decide)).1 n f) (fun q => by cases q) (by show ¬ (i < 0 ∨ (arrV _ _ _).slots.size ≤ _); rw [arrV_size]; exact hin) (by show (arrV _ _ _).slots[_]? = _; rw [arrV_read _ _ hlt]) rfl rfl hdg kk
/-- baload of a row of boolean -/
theorem hw_zald (hexec : p.tables.exec = Jvm.exec) (hb : c.code = cc) (hK : hw_K P s) (hT : hw_St P s A M H locs) {n : Nat} {f : Nat → Value} (hM : M a = some (.inr (.boolean, n, f))) {i : Int32} (hin : vp_in i n) {v : Value} (hv : f i.toNatClampNeg = v) (hdg : decode cc pc = .ok (.baload, 1))
    (kk : W p l e R s m args below meth c H locs cells slots Q (F0 m (pc + 1) ls (v :: rest))) : W p l e R s m args below meth c H locs cells slots Q (F0 m pc ls (.int i :: .ref a :: rest)) := by
  have hlt : i.toNatClampNeg < n := Nat.not_le.mp fun q => hin (Or.inr q)
  subst hv
  exact W.zald (v := f i.toNatClampNeg) hexec hb ((hT.2.1 _ _ hM).in hin) ((hK.2.2.1 .boolean (by decide)).1 n f) (fun q => by cases q) (by show ¬ (i < 0 ∨ (arrV _ _ _).slots.size ≤ _); rw [arrV_size]; exact hin) (by show (arrV _ _ _).slots[_]? = _; rw [arrV_read _ _ hlt]) rfl rfl hdg kk
/-- laload of a row of long -/
theorem hw_lald (hexec : p.tables.exec = Jvm.exec) (hb : c.code = cc) (hK : hw_K P s) (hT : hw_St P s A M H locs) {n : Nat} {f : Nat → Value} (hM : M a = some (.inr (.long, n, f))) {i : Int32} (hin : vp_in i n) {v : Value} (hv : f i.toNatClampNeg = v) (hdg : decode cc pc = .ok (.laload, 1))
    (kk : W p l e R s m args below meth c H locs cells slots Q (F0 m (pc + 1) ls (v :: rest))) : W p l e R s m args below meth c H locs cells slots Q (F0 m pc ls (.int i :: .ref a :: rest)) := by
  have hlt : i.toNatClampNeg < n := Nat.not_le.mp fun q => hin (Or.inr q)
  subst hv
  exact W.lald (v := f i.toNatClampNeg) hexec hb ((hT.2.1 _ _ hM).in hin) ((hK.2.2.1 .long (by decide)).1 n f) (fun q => by cases q) (by show ¬ (i < 0 ∨ (arrV _ _ _).slots.size ≤ _); rw [arrV_size]; exact hin) (by show (arrV _ _ _).slots[_]? = _; rw [arrV_read _ _ hlt]) rfl rfl hdg kk
/-- iastore of a row of int -/
theorem hw_iast (hexec : p.tables.exec = Jvm.exec) (hb : c.code = cc) (hK : hw_K P s) (hT : hw_St P s A M H locs) {n : Nat} {f : Nat → Value} (hM : M a = some (.inr (.int, n, f))) {i : Int32} {x : Int32} (hin : vp_in i n) (hdg : decode cc pc = .ok (.iastore, 1))
    (kk : ∀ (H1 : Heap) (locs1 : List Loc), hw_St P s A (hw_up M a (.inr (.int, n, updV f i.toNatClampNeg (.int x)))) H1 locs1 → W p l e R s m args below meth c H1 locs1 cells slots Q (F0 m (pc + 1) ls rest)) : W p l e R s m args below meth c H locs cells slots Q (F0 m pc ls (.int x :: .int i :: .ref a :: rest)) := by
  have hn : n ≠ 0 := fun h => hin (Or.inr (by rw [h]; exact Nat.zero_le _))
  refine W.iast hexec hb ((hT.2.1 _ _ hM).in hin) ((hK.2.2.1 .int (by decide)).1 n f) (fun q => by cases q) (by show ¬ (i < 0 ∨ (arrV _ _ _).slots.size ≤ _); rw [arrV_size]; exact hin) rfl rfl hdg fun H1 e z oq => ?_
  refine kk H1 _ (hT.set hM (by simp [hw_w, hn]) (hw_at.arr ?_) z oq)
  rw [e, arrV_store]
/-- bastore of a row of byte -/
theorem hw_bast (hexec : p.tables.exec = Jvm.exec) (hb : c.code = cc) (hK : hw_K P s) (hT : hw_St P s A M H locs) {n : Nat} {f : Nat → Value} (hM : M a = some (.inr (.byte, n, f))) {i : Int32} {x : Int32} (hin : vp_in i n) (hdg : decode cc pc = .ok (.bastore, 1))
    (kk : ∀ (H1 : Heap) (locs1 : List Loc), hw_St P s A (hw_up M a (.inr (.byte, n, updV f i.toNatClampNeg (narrow .byte (.int x))))) H1 locs1 → W p l e R s m args below meth c H1 locs1 cells slots Q (F0 m (pc + 1) ls rest)) : W p l e R s m args below meth c H locs cells slots Q (F0 m pc ls (.int x :: .int i :: .ref a :: rest)) := by
  have hn : n ≠ 0 := fun h => hin (Or.inr (by rw [h]; exact Nat.zero_le _))
  refine W.bast hexec hb ((hT.2.1 _ _ hM).in hin) ((hK.2.2.1 .byte (by decide)).1 n f) (fun q => by cases q) (by show ¬ (i < 0 ∨ (arrV _ _ _).slots.size ≤ _); rw [arrV_size]; exact hin) rfl rfl hdg fun H1 e z oq => ?_
  refine kk H1 _ (hT.set hM (by simp [hw_w, hn]) (hw_at.arr ?_) z oq)
  rw [e, arrV_store]
/-- sastore of a row of short -/
theorem hw_sast (hexec : p.tables.exec = Jvm.exec) (hb : c.code = cc) (hK : hw_K P s) (hT : hw_St P s A M H locs) {n : Nat} {f : Nat → Value} (hM : M a = some (.inr (.short, n, f))) {i : Int32} {x : Int32} (hin : vp_in i n) (hdg : decode cc pc = .ok (.sastore, 1))
    (kk : ∀ (H1 : Heap) (locs1 : List Loc), hw_St P s A (hw_up M a (.inr (.short, n, updV f i.toNatClampNeg (narrow .short (.int x))))) H1 locs1 → W p l e R s m args below meth c H1 locs1 cells slots Q (F0 m (pc + 1) ls rest)) : W p l e R s m args below meth c H locs cells slots Q (F0 m pc ls (.int x :: .int i :: .ref a :: rest)) := by
  have hn : n ≠ 0 := fun h => hin (Or.inr (by rw [h]; exact Nat.zero_le _))
  refine W.sast hexec hb ((hT.2.1 _ _ hM).in hin) ((hK.2.2.1 .short (by decide)).1 n f) (fun q => by cases q) (by show ¬ (i < 0 ∨ (arrV _ _ _).slots.size ≤ _); rw [arrV_size]; exact hin) rfl rfl hdg fun H1 e z oq => ?_
  refine kk H1 _ (hT.set hM (by simp [hw_w, hn]) (hw_at.arr ?_) z oq)
  rw [e, arrV_store]
/-- bastore of a row of boolean -/
theorem hw_zast (hexec : p.tables.exec = Jvm.exec) (hb : c.code = cc) (hK : hw_K P s) (hT : hw_St P s A M H locs) {n : Nat} {f : Nat → Value} (hM : M a = some (.inr (.boolean, n, f))) {i : Int32} {x : Int32} (hin : vp_in i n) (hdg : decode cc pc = .ok (.bastore, 1))
    (kk : ∀ (H1 : Heap) (locs1 : List Loc), hw_St P s A (hw_up M a (.inr (.boolean, n, updV f i.toNatClampNeg (narrow .boolean (.int x))))) H1 locs1 → W p l e R s m args below meth c H1 locs1 cells slots Q (F0 m (pc + 1) ls rest)) : W p l e R s m args below meth c H locs cells slots Q (F0 m pc ls (.int x :: .int i :: .ref a :: rest)) := by
  have hn : n ≠ 0 := fun h => hin (Or.inr (by rw [h]; exact Nat.zero_le _))
  refine W.zast hexec hb ((hT.2.1 _ _ hM).in hin) ((hK.2.2.1 .boolean (by decide)).1 n f) (fun q => by cases q) (by show ¬ (i < 0 ∨ (arrV _ _ _).slots.size ≤ _); rw [arrV_size]; exact hin) rfl rfl hdg fun H1 e z oq => ?_
  refine kk H1 _ (hT.set hM (by simp [hw_w, hn]) (hw_at.arr ?_) z oq)
  rw [e, arrV_store]
/-- lastore of a row of long -/
theorem hw_last (hexec : p.tables.exec = Jvm.exec) (hb : c.code = cc) (hK : hw_K P s) (hT : hw_St P s A M H locs) {n : Nat} {f : Nat → Value} (hM : M a = some (.inr (.long, n, f))) {i : Int32} {x : Int64} (hin : vp_in i n) (hdg : decode cc pc = .ok (.lastore, 1))
    (kk : ∀ (H1 : Heap) (locs1 : List Loc), hw_St P s A (hw_up M a (.inr (.long, n, updV f i.toNatClampNeg (.long x)))) H1 locs1 → W p l e R s m args below meth c H1 locs1 cells slots Q (F0 m (pc + 1) ls rest)) : W p l e R s m args below meth c H locs cells slots Q (F0 m pc ls (.long x :: .int i :: .ref a :: rest)) := by
  have hn : n ≠ 0 := fun h => hin (Or.inr (by rw [h]; exact Nat.zero_le _))
  refine W.last hexec hb ((hT.2.1 _ _ hM).in hin) ((hK.2.2.1 .long (by decide)).1 n f) (fun q => by cases q) (by show ¬ (i < 0 ∨ (arrV _ _ _).slots.size ≤ _); rw [arrV_size]; exact hin) rfl rfl hdg fun H1 e z oq => ?_
  refine kk H1 _ (hT.set hM (by simp [hw_w, hn]) (hw_at.arr ?_) z oq)
  rw [e, arrV_store]
/-- aaload -/
theorem hw_aald (hexec : p.tables.exec = Jvm.exec) (hb : c.code = cc) (hK : hw_K P s) (hT : hw_St P s A M H locs) {C : String} {n : Nat} {f : Nat → Value} (hM : M a = some (.inr (.object C, n, f))) (hC : FieldType.object C ∈ hw_tys) {i : Int32} (hin : vp_in i n) {v : Value} (hv : f i.toNatClampNeg = v) (hdg : decode cc pc = .ok (.aaload, 1))
    (kk : W p l e R s m args below meth c H locs cells slots Q (F0 m (pc + 1) ls (v :: rest))) : W p l e R s m args below meth c H locs cells slots Q (F0 m pc ls (.int i :: .ref a :: rest)) := by
  have hlt : i.toNatClampNeg < n := Nat.not_le.mp fun q => hin (Or.inr q)
  subst hv
  exact W.aald (v := f i.toNatClampNeg) (ty := .object C) hexec hb ((hT.2.1 _ _ hM).in hin) ((hK.2.2.1 _ hC).1 n f) rfl (fun q => by cases q) (by show ¬ (i < 0 ∨ (arrV _ _ _).slots.size ≤ _); rw [arrV_size]; exact hin) (by show (arrV _ _ _).slots[_]? = _; rw [arrV_read _ _ hlt]) rfl rfl hdg kk
/-- aastore of an object of the row's class -/
theorem hw_aast (hexec : p.tables.exec = Jvm.exec) (hb : c.code = cc) (hK : hw_K P s) (hT : hw_St P s A M H locs) {C : String} {T : u_T} {N ci n b : Nat} {f V : Nat → Value} (hM : M a = some (.inr (.object C, n, f))) (hC : FieldType.object C ∈ hw_tys) (hMb : M b = some (.inl (ci, V))) (hc : vwCl[ci]? = some (C, T, N)) {i : Int32} (hin : vp_in i n) (hdg : decode cc pc = .ok (.aastore, 1))
    (kk : ∀ (H1 : Heap) (locs1 : List Loc), hw_St P s A (hw_up M a (.inr (.object C, n, updV f i.toNatClampNeg (.ref b)))) H1 locs1 → W p l e R s m args below meth c H1 locs1 cells slots Q (F0 m (pc + 1) ls rest)) : W p l e R s m args below meth c H locs cells slots Q (F0 m pc ls (.ref b :: .int i :: .ref a :: rest)) := by
  have hn : n ≠ 0 := fun h => hin (Or.inr (by rw [h]; exact Nat.zero_le _))
  obtain ⟨r, h1, cell, g1, g2, g3, -⟩ := hT.2.1 _ _ hMb
  have hr : r = (C, T, N) := Option.some.inj (h1.symm.trans hc)
  subst hr
  have hcls := (hK.2.1 ci _ hc).1.2
  obtain ⟨kA, comp, k1, k2, k3, k4⟩ := (hK.2.2.1 _ hC).2
  have hcomp : comp = P.1.1 ci := Option.some.inj (k3.symm.trans hcls.1)
  subst hcomp
  obtain ⟨kC, hkC, -⟩ := hcls.2
  have h0 : ¬ i < 0 := fun h => hin (Or.inl h)
  have hlt : i.toNatClampNeg < n := Nat.not_le.mp fun q => hin (Or.inr q)
  refine W.aast hexec hb ((hT.2.1 _ _ hM).in hin) (fun q h => by cases h) (fun h => by cases h) k1 k2 rfl hkC ⟨h0, by show _ < (arrV _ _ _).slots.size; rw [arrV_size]; exact hlt⟩ g1 (fun q h => by rw [g3] at h; cases h) (by rw [g2]; exact hkC) (by rw [g2]; exact va_assign hcls) rfl rfl hdg fun H1 e z oq => ?_
  refine kk H1 _ (hT.set hM (by simp [hw_w, hn]) (hw_at.arr ?_) z oq)
  rw [e, arrV_store]
/-- aastore of null -/
theorem hw_aastN (hexec : p.tables.exec = Jvm.exec) (hb : c.code = cc) (hK : hw_K P s) (hT : hw_St P s A M H locs) {C : String} {n : Nat} {f : Nat → Value} (hM : M a = some (.inr (.object C, n, f))) (hC : FieldType.object C ∈ hw_tys) {i : Int32} (hin : vp_in i n) (hdg : decode cc pc = .ok (.aastore, 1))
    (kk : ∀ (H1 : Heap) (locs1 : List Loc), hw_St P s A (hw_up M a (.inr (.object C, n, updV f i.toNatClampNeg .null))) H1 locs1 → W p l e R s m args below meth c H1 locs1 cells slots Q (F0 m (pc + 1) ls rest)) : W p l e R s m args below meth c H locs cells slots Q (F0 m pc ls (.null :: .int i :: .ref a :: rest)) := by
  have hn : n ≠ 0 := fun h => hin (Or.inr (by rw [h]; exact Nat.zero_le _))
  refine va_WaastN (C := C) hexec hb ((hT.2.1 _ _ hM).in hin) ((hK.2.2.1 _ hC).1 n f) (fun h => by cases h) (by show ¬ (i < 0 ∨ (arrV _ _ _).slots.size ≤ _); rw [arrV_size]; exact hin) rfl rfl hdg fun H1 e z oq => ?_
  refine kk H1 _ (hT.set hM (by simp [hw_w, hn]) (hw_at.arr ?_) z oq)
  rw [e, arrV_store]
/-- anewarray -/
theorem hw_anew (hexec : p.tables.exec = Jvm.exec) (hb : c.code = cc) (hK : hw_K P s) (hT : hw_St P s A M H locs) {own : String} (hown : s.vm.findClass own = some m.cls) {C : String} {index : Nat} (hcl : Cond.classLink own index C ∈ lw_tbl) (hC : FieldType.object C ∈ hw_tys) (hO : C ∈ hw_obs) {n : Int32} {N : Nat} (hn : ¬ n < 0) (hN : n.toNatClampNeg = N) (hbytes : N * 4 ≤ 536870912) (hcells : cells + 1 ≤ R.cells) (hslots : slots + N ≤ R.slots) (hdg : decode cc pc = .ok (.anewarray index, 3))
    (kk : ∀ (q : Nat) (H1 : Heap), M q = none → s.heap.size ≤ q → q = H.size → hw_St P s A (hw_up M q (.inr (.object C, N, fun _ => .null))) H1 locs → W p l e R s m args below meth c H1 locs (cells + 1) (slots + N) Q (F0 m (pc + 3) ls (.ref q :: rest))) : W p l e R s m args below meth c H locs cells slots Q (F0 m pc ls (.int n :: rest)) := by
  subst hN
  refine W.anew hexec hb hown (hK.word hcl rfl) (va_AO.use (hK.2.2.2.1 C hO)) rfl hdg rfl hn hbytes hcells hslots fun cA kA comp f1 f2 f3 f4 => ?_
  obtain ⟨kA2, comp2, -, -, -, k4⟩ := (hK.2.2.1 _ hC).2
  have hcA : cA = P.2.1 (.object C) := Option.some.inj (f1.symm.trans k4)
  subst hcA
  generalize hH1 : H.push ({ cls := P.2.1 (.object C), slots := Array.replicate n.toNatClampNeg .null, vm := .none } : Cell) = H1
  have z1 : H1.size = H.size + 1 := by rw [← hH1, Array.size_push]
  have e1 : H1[H.size]? = some (arrV (P.2.1 (.object C)) n.toNatClampNeg (fun _ => .null)) := by rw [← hH1, Array.getElem?_push_size, ← arrV_new]
  have o1 : ∀ q : Nat, q < H.size → H1[q]? = H[q]? := fun q hq => by rw [← hH1, Array.getElem?_push, if_neg (Nat.ne_of_lt hq)]
  exact kk H.size H1 hT.fresh hT.1.1 rfl (hT.new (hw_at.arr e1) z1 o1)
/-- references that may be null -/
theorem hw_aload (hexec : p.tables.exec = Jvm.exec) (hb : c.code = cc) {i : Nat} {x : Option Nat} (hdg : decode cc pc = .ok (.aload i, 2)) (hl : ls[i]? = some (.val (va_rf x)))
    (k : W p l e R s m args below meth c H locs cells slots Q (F0 m (pc + 2) ls (va_rf x :: rest))) : W p l e R s m args below meth c H locs cells slots Q (F0 m pc ls rest) := by
  cases x with
  | none => exact lv_aloadN hexec hb hdg hl k
  | some y => exact lv_aload hexec hb hdg hl k
theorem hw_aload_n (hexec : p.tables.exec = Jvm.exec) (hb : c.code = cc) {k : Fin 4} {i : Nat} {x : Option Nat} (hdg : decode cc pc = .ok (.aload_n k, 1)) (hi : (k : Nat) = i) (hl : ls[i]? = some (.val (va_rf x)))
    (k : W p l e R s m args below meth c H locs cells slots Q (F0 m (pc + 1) ls (va_rf x :: rest))) : W p l e R s m args below meth c H locs cells slots Q (F0 m pc ls rest) := by
  cases x with
  | none => exact lv_aload_nN hexec hb hdg hi hl k
  | some y => exact lv_aload_n hexec hb hdg hi hl k
theorem hw_astore (hexec : p.tables.exec = Jvm.exec) (hb : c.code = cc) {i nL : Nat} {x : Option Nat} {lv lv' : List (Nat × Value)} (hdg : decode cc pc = .ok (.astore i, 2)) (h : lv_has ls nL lv) (hn : i < nL) (hl : (i, va_rf x) :: lv.filter (fun q => !(q.1 == i) && !(q.1 + 1 == i && q.2.category == 2)) = lv')
    (kk : ∀ ls' : Array Slot, lv_has ls' nL lv' → W p l e R s m args below meth c H locs cells slots Q (F0 m (pc + 2) ls' rest)) : W p l e R s m args below meth c H locs cells slots Q (F0 m pc ls (va_rf x :: rest)) := by
  cases x with
  | none => exact lv_astoreN hexec hb hdg h hn hl kk
  | some y => exact lv_astore hexec hb hdg h hn hl kk
theorem hw_astore_n (hexec : p.tables.exec = Jvm.exec) (hb : c.code = cc) {k : Fin 4} {i nL : Nat} {x : Option Nat} {lv lv' : List (Nat × Value)} (hdg : decode cc pc = .ok (.astore_n k, 1)) (hi : (k : Nat) = i) (h : lv_has ls nL lv) (hn : i < nL) (hl : (i, va_rf x) :: lv.filter (fun q => !(q.1 == i) && !(q.1 + 1 == i && q.2.category == 2)) = lv')
    (kk : ∀ ls' : Array Slot, lv_has ls' nL lv' → W p l e R s m args below meth c H locs cells slots Q (F0 m (pc + 1) ls' rest)) : W p l e R s m args below meth c H locs cells slots Q (F0 m pc ls (va_rf x :: rest)) := by
  cases x with
  | none => exact lv_astore_nN hexec hb hdg hi h hn hl kk
  | some y => exact lv_astore_n hexec hb hdg hi h hn hl kk
theorem hw_ifnull (hexec : p.tables.exec = Jvm.exec) (hb : c.code = cc) {x : Option Nat} {off : Int} {tgt : Nat} (hdg : decode cc pc = .ok (.ifnull off, 3)) (ht : (pc : Int) + off = (tgt : Int)) (kt : x = none → W p l e R s m args below meth c H locs cells slots Q (F0 m tgt ls rest)) (kf : ∀ y, x = some y → W p l e R s m args below meth c H locs cells slots Q (F0 m (pc + 3) ls rest)) : W p l e R s m args below meth c H locs cells slots Q (F0 m pc ls (va_rf x :: rest)) := by
  cases x with
  | none => exact lv_ifnullN hexec hb hdg ht (kt rfl)
  | some y => exact lv_ifnull hexec hb hdg (kf y rfl)
theorem hw_ifnonnull (hexec : p.tables.exec = Jvm.exec) (hb : c.code = cc) {x : Option Nat} {off : Int} {tgt : Nat} (hdg : decode cc pc = .ok (.ifnonnull off, 3)) (ht : (pc : Int) + off = (tgt : Int)) (kt : ∀ y, x = some y → W p l e R s m args below meth c H locs cells slots Q (F0 m tgt ls rest)) (kf : x = none → W p l e R s m args below meth c H locs cells slots Q (F0 m (pc + 3) ls rest)) : W p l e R s m args below meth c H locs cells slots Q (F0 m pc ls (va_rf x :: rest)) := by
  cases x with
  | none => exact lv_ifnonnullN hexec hb hdg (kf rfl)
  | some y => exact lv_ifnonnull hexec hb hdg ht (kt y rfl)
theorem hw_null (hexec : p.tables.exec = Jvm.exec) (hb : c.code = cc) (hdg : decode cc pc = .ok (.aconst_null, 1)) (k : W p l e R s m args below meth c H locs cells slots Q (F0 m (pc + 1) ls (va_rf none :: rest))) : W p l e R s m args below meth c H locs cells slots Q (F0 m pc ls rest) := lv_null hexec hb hdg k
theorem hw_topr {x : Option Nat} (k : ∀ y : Option Nat, y = x → W p l e R s m args below meth c H locs cells slots Q (F0 m pc ls (va_rf y :: rest))) : W p l e R s m args below meth c H locs cells slots Q (F0 m pc ls (va_rf x :: rest)) := k x rfl
end HWR
