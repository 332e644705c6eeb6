/-! ===== members of classes that have entries; casts; references stored in rows of Object, and copied between them ===== -/
theorem kd_getC : Cond.declares ⟨"java/lang/Object", "getClass", "()Ljava/lang/Class;"⟩ ∈ lw_tbl := List.mem_of_getElem? (i := 1935) (by decide +kernel)
theorem ks_getC : Cond.selects "[Ljava/lang/Object;" ⟨"java/lang/Object", "getClass", "()Ljava/lang/Class;"⟩ ⟨"java/lang/Object", "getClass", "()Ljava/lang/Class;"⟩ ∈ lw_tbl := List.mem_of_getElem? (i := 1934) (by decide +kernel)
theorem ki_getC : Cond.instanceMethod ⟨"java/lang/Object", "getClass", "()Ljava/lang/Class;"⟩ ∈ lw_tbl := List.mem_of_getElem? (i := 891) (by decide +kernel)
theorem kt_getC : Cond.native ⟨"java/lang/Object", "getClass", "()Ljava/lang/Class;"⟩ ∈ lw_tbl := List.mem_of_getElem? (i := 908) (by decide +kernel)
theorem kt_acp : Cond.native arraycopyName ∈ lw_tbl := List.mem_of_getElem? (i := 918) (by decide +kernel)
theorem ki_acp : Cond.static arraycopyName ∈ lw_tbl := List.mem_of_getElem? (i := 917) (by decide +kernel)
theorem kn_acp : Cond.initialized "java/lang/System" ∈ lw_tbl := List.mem_of_getElem? (i := 141) (by decide +kernel)
theorem cs_metF {l : Launch} {P : hw_G} {G : Nat → Nat} {S : cs_S} {sz : Nat} {y : MethodName} {cc : ByteArray} {nL mc ms : Nat} {ret : Option FieldType} {rm : Room} {Qc : Array Value → State → Outcome → State → Prop} {av : List Value} {own : String} (hy : plainFor y = true) (hcl : y.cls = own) (hlen : (lg_sl av).length ≤ nL)
    (body : ∀ (p : Program) (e : Env) (s : State) (m : MethodId) (below : List Frame) (meth : Method) (c : Code) (ls : Array Slot), rf_C P own p s m meth c cc nL ret → meth.name = y.name → cs_O G (cs_A S sz) s s.heap → cs_T P s (cs_A S sz) S s.heap [] → lv_has ls nL (lv_args 0 av) →
      W p l e rm s m av.toArray below meth c s.heap [] 0 0 (MQ below Qc av.toArray s mc ms (cs_A S sz)) (F0 m 0 ls [])) : Met l y [Cond.code y cc nL ret] rm (cs_Pc P G S sz av) Qc mc ms (cs_A S sz) := by
  refine va_MetF (cc := cc) (maxL := nL) (ret := ret) hy rfl ?_
  intro p e s m args below meth c s₁ B hml hv
  obtain ⟨rfl, hsz, hat, hK, hO⟩ := hv
  have hl := lv_entry av (n := nL) hlen
  rw [lg_entry_eq]
  subst hsz
  exact body p e s m below meth c _ ⟨B.exec, B.bytes, hml, by rw [← hcl]; exact findClass_of_methodNamed B.named, hK, B.returns, B.notSynchronized⟩ (name_of_methodNamed B.named B.method).1 hO ⟨va_S.rf, hat, fun a e h1 h2 => Or.inl ⟨e, h1, h2⟩, fun q h => Or.inr h⟩ hl
/-- an inherited field under the name of the class itself -/
theorem hw_sf {args : Array Value} {s : State} {r o n d : String} (h : (Cond.sameField r o n d).before args s = true) {cf fi : Nat} {kf : Class} {f : Field} (hi : s.fieldFound? o n d = some (cf, kf, fi, f)) : s.fieldFound? r n d = some (cf, kf, fi, f) := by
  cases hr : s.fieldFound? r n d with
  | none => simp [Cond.before, Cond.holds, Cond.value, hr] at h
  | some y =>
    obtain ⟨a1, a2, a3, a4⟩ := y
    have h9 := Cond.sameField_spec hr h
    rw [h9] at hi
    exact hi
section CSS
variable {p : Program} {l : Launch} {e : Env} {R : Room} {s : State} {m : MethodId} {args : Array Value} {below : List Frame} {meth : Method} {c : Code} {H : Heap} {locs : List Loc} {cells slots : Nat} {Q : State → Prop}
variable {cc : ByteArray} {pc : Nat} {ls : Array Slot} {rest : List Value} {P : hw_G} {A : Nat → Prop} {a : Nat} {S : cs_S}
theorem cs_getS (hexec : p.tables.exec = Jvm.exec) (hb : c.code = cc) (hK : hw_K P s) (hT : cs_T P s A S H locs) {own ref : String} (hown : s.vm.findClass own = some m.cls) {C : String} {T : u_T} {N index : Nat} (ci : Nat) (hk : cs_k S a = ci + 1) (hci : ci < 19) (hc : vwCl[ci]? = some (C, T, N)) (k : Nat) (hkN : k < N) (hlink : Cond.fieldLink own index ref (T k).2.1 (T k).2.2.1 ∈ lw_tbl) (hsf : Cond.sameField ref (T k).1 (T k).2.1 (T k).2.2.1 ∈ lw_tbl) {v : Value} (hv : cs_V S ci a k = v) (hdg : decode cc pc = .ok (.getfield index, 3))
    (kk : W p l e R s m args below meth c H locs cells slots Q (F0 m (pc + 3) ls (v :: rest))) : W p l e R s m args below meth c H locs cells slots Q (F0 m pc ls (.ref a :: rest)) := by
  obtain ⟨r, h1, cell, q1, q2, q3, q4⟩ := hT.2.1 _ _ (cs_M_obj hk hci)
  have hr : r = (C, T, N) := Option.some.inj (h1.symm.trans hc)
  subst hr
  obtain ⟨⟨hS, hfc, kC, hkC, hkind⟩, -, -⟩ := hK.2.1 ci _ hc
  obtain ⟨cf, kf, fi, f, hi, hsl⟩ := hS k hkN
  refine W.getf hexec hb hown (hK.word hlink rfl) (hw_sf (hK.word (args := args) hsf rfl) hi) (u_facts hfc hkC (u_lays (hK.lays (args := args) hc) (fun _ h => h) hkN) hi).1 q1 (by rw [q3]; exact fun h => by cases h) (v := v) ?_ rfl rfl hdg kk
  rw [hsl, q4 k hkN, ← hv]
theorem cs_putiS (hexec : p.tables.exec = Jvm.exec) (hb : c.code = cc) (hK : hw_K P s) (hT : cs_T P s A S H locs) {own ref : String} (hown : s.vm.findClass own = some m.cls) {C : String} {T : u_T} {N index : Nat} (ci : Nat) (hk : cs_k S a = ci + 1) (hci : ci < 19) (hc : vwCl[ci]? = some (C, T, N)) (k : Nat) (hkN : k < N) (hlink : Cond.fieldLink own index ref (T k).2.1 (T k).2.2.1 ∈ lw_tbl) (hsf : Cond.sameField ref (T k).1 (T k).2.1 (T k).2.2.1 ∈ lw_tbl) (hfin : (T k).2.2.2 = false) (hd : parseFieldDescriptor (T k).2.2.1 = some (cs_ty ci k)) (ht : cs_ty ci k = .int) (f : Nat) (hf : 100 * ci + k = f) {x : Int32} (hdg : decode cc pc = .ok (.putfield index, 3))
    (kk : ∀ (H1 : Heap) (locs1 : List Loc), cs_T P s A (cs_ui S f a x) H1 locs1 → W p l e R s m args below meth c H1 locs1 cells slots Q (F0 m (pc + 3) ls rest)) : W p l e R s m args below meth c H locs cells slots Q (F0 m pc ls (.int x :: .ref a :: rest)) := by
  obtain ⟨r, h1, cell, q1, q2, q3, q4⟩ := hT.2.1 _ _ (cs_M_obj hk hci)
  have hr : r = (C, T, N) := Option.some.inj (h1.symm.trans hc)
  subst hr
  obtain ⟨⟨hS, hfc, kC, hkC, hkind⟩, hin, hap⟩ := hK.2.1 ci _ hc
  obtain ⟨cf, kf, fi, f0, hi, hsl⟩ := hS k hkN
  have hlay : (u_lay C T k).before args s = true := hK.lays (args := args) hc _ (u_in_lay hkN)
  unfold u_lay at hlay
  rw [if_neg (by rw [hfin]; decide)] at hlay
  have hst := (u_facts hfc hkC (u_lays (hK.lays (args := args) hc) (fun _ h => h) hkN) hi).1
  have h6 := u_store (v := .int x) hfc hkC hkind hlay hi hd (by rw [ht]; rfl) (by rw [ht]; rfl)
  refine W.putK hexec hb (f := f0) ⟨hown, hK.word hlink rfl, ⟨_, _, _, hw_sf (hK.word (args := args) hsf rfl) hi⟩, hst⟩ (by rw [q2]; exact h6) q1 q3 (by rw [hsl]; exact k2_hasslot (q4 k hkN)) rfl rfl hdg fun H' e1 e2 e3 => ?_
  rw [hsl] at e1 ⊢
  have hat : hw_at P a (.inl (ci, updV (cs_V S ci a) k (.int x))) H' := ⟨_, hc, _, e1, q2, q3, t_set q4 hap hkN (.int x)⟩
  have hT1 := hT.set (k := P.1.2 ci k) (cs_M_obj hk hci) rfl hat e2 e3
  exact kk H' _ (by unfold cs_T; rw [← cs_M_ui hk hci hf ht]; exact hT1)
end CSS
/-- a row of references that takes the first n places of another -/
def cs_cpr (S : cs_S) (a0 a n : Nat) : cs_S := (S.1, S.2.1, S.2.2.1, S.2.2.2.1, S.2.2.2.2.1, S.2.2.2.2.2.1, S.2.2.2.2.2.2.1, va_up S.2.2.2.2.2.2.2 a (va_cpy (cs_ar S a0) (cs_ar S a) 0 0 n))
theorem cs_M_cpr {S : cs_S} {a0 a n : Nat} (h : cs_k S a = 27) : hw_up (cs_M S) a (.inr (cs_aty 27, cs_n S a, fun j => va_rf (va_cpy (cs_ar S a0) (cs_ar S a) 0 0 n j))) = cs_M (cs_cpr S a0 a n) := by
  funext q
  by_cases hq : q = a
  · subst hq
    rw [hw_up_eq, cs_M_arr (S := cs_cpr S a0 q n) (k := 27) h (by decide)]
    congr 4
    funext i
    simp [cs_row, cs_ar, cs_cpr, va_up]
  · rw [hw_up_ne hq]
    refine Eq.symm (cs_M_same (S := S) (S' := (cs_cpr S a0 a n)) rfl (fun _ => rfl) (fun _ => rfl) (fun _ => rfl) rfl (fun _ => rfl) (fun _ => rfl) (fun i => ?_))
    simp [cs_ar, cs_cpr, va_up, hq]
section CSO
variable {p : Program} {l : Launch} {e : Env} {R : Room} {s : State} {m : MethodId} {args : Array Value} {below : List Frame} {meth : Method} {c : Code} {H : Heap} {locs : List Loc} {cells slots : Nat} {Q : State → Prop}
variable {cc : ByteArray} {pc nL index : Nat} {ls : Array Slot} {rest : List Value} {P : hw_G} {A : Nat → Prop} {a : Nat} {S : cs_S} {G : Nat → Nat} {own : String} {M : hw_M}
theorem hw_aastO (hexec : p.tables.exec = Jvm.exec) (hb : c.code = cc) (hK : hw_K P s) (hT : hw_St P s A M H locs) {C : String} {T : u_T} {N ci n b : Nat} {f V : Nat → Value} (hM : M a = some (.inr (.object "java/lang/Object", n, f))) (hMb : M b = some (.inl (ci, V))) (hc : vwCl[ci]? = some (C, T, N)) (hca : va_Nw (.castable C "java/lang/Object") s) {i : Int32} (hin : vp_in i n) (hdg : decode cc pc = .ok (.aastore, 1))
    (kk : ∀ (H1 : Heap) (locs1 : List Loc), hw_St P s A (hw_up M a (.inr (.object "java/lang/Object", n, updV f i.toNatClampNeg (.ref b)))) H1 locs1 → W p l e R s m args below meth c H1 locs1 cells slots Q (F0 m (pc + 1) ls rest)) : W p l e R s m args below meth c H locs cells slots Q (F0 m pc ls (.ref b :: .int i :: .ref a :: rest)) := by
  have hn : n ≠ 0 := fun h => hin (Or.inr (by rw [h]; exact Nat.zero_le _))
  obtain ⟨r, h1, cell, g1, g2, g3, -⟩ := hT.2.1 _ _ hMb
  have hr : r = (C, T, N) := Option.some.inj (h1.symm.trans hc)
  subst hr
  have hcls := (hK.2.1 ci _ hc).1.2
  obtain ⟨kA, comp, k1, k2, k3, k4⟩ := (hK.2.2.1 (.object "java/lang/Object") (by decide)).2
  obtain ⟨kC, hkC, -⟩ := hcls.2
  obtain ⟨kE, hkE, -⟩ := Vm.findClass_spec k3
  have h0 : ¬ i < 0 := fun h => hin (Or.inl h)
  have hlt : i.toNatClampNeg < n := Nat.not_le.mp fun q => hin (Or.inr q)
  refine W.aast hexec hb ((hT.2.1 _ _ hM).in hin) (fun q h => by cases h) (fun h => by cases h) k1 k2 rfl hkE ⟨h0, by show _ < (arrV _ _ _).slots.size; rw [arrV_size]; exact hlt⟩ g1 (fun q h => by rw [g3] at h; cases h) (by rw [g2]; exact hkC) (by rw [g2]; exact vb_asgC hca _ _ k3 hcls.1) rfl rfl hdg fun H1 e z oq => ?_
  refine kk H1 _ (hT.set hM (by simp [hw_w, hn]) (hw_at.arr ?_) z oq)
  rw [e, arrV_store]
theorem cs_aastO (hexec : p.tables.exec = Jvm.exec) (hb : c.code = cc) (hK : hw_K P s) (hT : cs_T P s A S H locs) (hk : cs_k S a = 27) {C : String} {T : u_T} {N ci : Nat} (hc : vwCl[ci]? = some (C, T, N)) (hci : ci < 19) (hca : va_Nw (.castable C "java/lang/Object") s) {i : Int32} {x : Option Nat} (hin : vp_in i (cs_n S a)) (hx : ∀ b, x = some b → cs_k S b = ci + 1) (hdg : decode cc pc = .ok (.aastore, 1))
    (kk : ∀ (H1 : Heap) (locs1 : List Loc), cs_T P s A (cs_uar S a i.toNatClampNeg x) H1 locs1 → W p l e R s m args below meth c H1 locs1 cells slots Q (F0 m (pc + 1) ls rest)) : W p l e R s m args below meth c H locs cells slots Q (F0 m pc ls (va_rf x :: .int i :: .ref a :: rest)) := by
  have e : cs_M S a = some (.inr (.object "java/lang/Object", cs_n S a, cs_row S a 27)) := cs_M_arr hk (by decide)
  have e2 : hw_up (cs_M S) a (.inr (.object "java/lang/Object", cs_n S a, updV (cs_row S a 27) i.toNatClampNeg (va_rf x))) = cs_M (cs_uar S a i.toNatClampNeg x) := cs_M_uar (j := i.toNatClampNeg) (x := x) hk (by decide)
  cases x with
  | none => exact hw_aastN (C := "java/lang/Object") hexec hb hK hT e (by decide) hin hdg (fun H1 locs1 hT1 => kk H1 locs1 (by unfold cs_T; rw [← e2]; exact hT1))
  | some b => exact hw_aastO hexec hb hK hT e (cs_M_obj (hx b rfl) hci) hc hca hin hdg (fun H1 locs1 hT1 => kk H1 locs1 (by unfold cs_T; rw [← e2]; exact hT1))
theorem cs_cast (hexec : p.tables.exec = Jvm.exec) (hb : c.code = cc) (hK : hw_K P s) (hT : cs_T P s A S H locs) (hown : s.vm.findClass own = some m.cls) {C : String} {T : u_T} {N : Nat} (ci : Nat) (hci : ci < 19) (hc : vwCl[ci]? = some (C, T, N)) {x : Option Nat} (hx : ∀ b, x = some b → cs_k S b = ci + 1) (hcl : Cond.classLink own index C ∈ lw_tbl) (hdg : decode cc pc = .ok (.checkcast index, 3))
    (kk : W p l e R s m args below meth c H locs cells slots Q (F0 m (pc + 3) ls (va_rf x :: rest))) : W p l e R s m args below meth c H locs cells slots Q (F0 m pc ls (va_rf x :: rest)) := by
  cases x with
  | none => exact lv_castN hexec hb hdg kk
  | some b => exact va_castS hexec hb hown (hK.word hcl rfl) (hK.2.1 ci _ hc).1.2 (cs_recv hK hT (hx b rfl) hci hc) hdg kk
theorem cs_rowO (hK : hw_K P s) (hT : cs_T P s A S H locs) (hk : cs_k S a = 27) (hn : ¬ cs_n S a = 0) : ∃ cell : Cell, H[a]? = some cell ∧ cell.vm.isStatics = false ∧ s.vm.findClass "[Ljava/lang/Object;" = some cell.cls := by
  have e : cs_M S a = some (.inr (.object "java/lang/Object", cs_n S a, cs_row S a 27)) := cs_M_arr hk (by decide)
  exact ⟨_, (hT.2.1 _ _ e).eq hn, rfl, va_nmO (hK.2.2.1 (.object "java/lang/Object") (by decide)).2 (by decide)⟩
theorem cs_getC (hexec : p.tables.exec = Jvm.exec) (hb : c.code = cc) (hml : c.maxLocals = nL) (hs : ls.size = nL) (hown : s.vm.findClass own = some m.cls) (hK : hw_K P s) (hO : cs_O G A s s.heap) (hT : cs_T P s A S H locs) (hk : cs_k S a = 27) (hn : ¬ cs_n S a = 0) (wl : Cond.methodLink own index ⟨"java/lang/Object", "getClass", "()Ljava/lang/Class;"⟩ ∈ lw_tbl) (hf : 1 ≤ R.frames) (hlo : (rest.map fun v => v.category).sum + 14 ≤ R.locals) (hdg : decode cc pc = .ok (.invokevirtual index, 3))
    (kk : W p l e R s m args below meth c H locs cells slots Q (F0 m (pc + 3) ls (.ref (G 2) :: rest))) : W p l e R s m args below meth c H locs cells slots Q (F0 m pc ls (.ref a :: rest)) :=
  va_getC hexec hb (hml.trans hs.symm) hown (hK.word wl rfl) (va_Nw.use rfl (hO.2.2.2.2.2.2.2.2.1 _ kd_getC rfl)) (hK.word ks_getC rfl) (hK.word ki_getC rfl) (hK.word kt_getC rfl) hO.2.2.2.2.2.2.2.2.2 (cs_rowO hK hT hk hn) hf hlo hdg kk
theorem cs_acp (hexec : p.tables.exec = Jvm.exec) (hb : c.code = cc) (hml : c.maxLocals = nL) (hs : ls.size = nL) (hown : s.vm.findClass own = some m.cls) (hK : hw_K P s) (hO : cs_O G A s s.heap) (hT : cs_T P s A S H locs) {a0 : Nat} (hk0 : cs_k S a0 = 27) (hk1 : cs_k S a = 27) {n : Int32} (hn0 : ¬ cs_n S a0 = 0) (hn1 : ¬ cs_n S a = 0) (h3 : ¬ n < 0) (h4 : n.toNatClampNeg ≤ cs_n S a0) (h5 : n.toNatClampNeg ≤ cs_n S a) (hel : ∀ j, j < n.toNatClampNeg → ∀ b, cs_ar S a0 j = some b → cs_k S b = 2)
    (wl : Cond.methodLink own index arraycopyName ∈ lw_tbl) (hf : 1 ≤ R.frames) (hlo : (rest.map fun v => v.category).sum + (nativeFrameWords "java/lang/System" "arraycopy" 5 + 11) ≤ R.locals) (hdg : decode cc pc = .ok (.invokestatic index, 3))
    (kk : ∀ (H1 : Heap) (locs1 : List Loc), cs_T P s A (cs_cpr S a0 a n.toNatClampNeg) H1 locs1 → W p l e R s m args below meth c H1 locs1 cells slots Q (F0 m (pc + 3) ls rest)) : W p l e R s m args below meth c H locs cells slots Q (F0 m pc ls (.int n :: .int 0 :: .ref a :: .int 0 :: .ref a0 :: rest)) := by
  have nn : n.toInt = (n.toNatClampNeg : Int) := by
    have hz0 : (0 : Int) ≤ n.toInt := by
      have := Int32.not_lt.mp h3
      simpa using Int32.le_iff_toInt_le.mp this
    show n.toInt = ((n.toInt.toNat : Nat) : Int)
    omega
  have z0 : (0 : Int32).toNatClampNeg = 0 := rfl
  have hg : FieldType.object "java/lang/Object" ∈ hw_tys := by decide
  have m0 : cs_M S a0 = some (.inr (.object "java/lang/Object", cs_n S a0, cs_row S a0 27)) := cs_M_arr hk0 (by decide)
  have m1 : cs_M S a = some (.inr (.object "java/lang/Object", cs_n S a, cs_row S a 27)) := cs_M_arr hk1 (by decide)
  have hA : A a := hT.2.2.1 a _ m1 (by simp [hw_w, hn1])
  have hc0 : H[a0]? = some (arrV (P.2.1 (.object "java/lang/Object")) (cs_n S a0) (fun j => va_rf (cs_ar S a0 j))) := (hT.2.1 _ _ m0).eq hn0
  have hc1 : H[a]? = some (arrV (P.2.1 (.object "java/lang/Object")) (cs_n S a) (fun j => va_rf (cs_ar S a j))) := (hT.2.1 _ _ m1).eq hn1
  obtain ⟨-, k0, hkk0, cm0, hkk0'⟩ := (hK.2.2.1 _ hg).1 (cs_n S a0) (fun j => va_rf (cs_ar S a0 j))
  obtain ⟨-, k1, hkk1, cm1, hkk1'⟩ := (hK.2.2.1 _ hg).1 (cs_n S a) (fun j => va_rf (cs_ar S a j))
  intro T hT0 X
  obtain ⟨vm', X', step⟩ := X.arraycopy hexec hown (hK.word wl rfl) (hK.word kt_acp rfl) (hK.word ki_acp rfl) (hK.word kn_acp rfl) (src := a0) (dst := a) (cs := arrV (P.2.1 (.object "java/lang/Object")) (cs_n S a0) (fun j => va_rf (cs_ar S a0 j))) (cd := arrV (P.2.1 (.object "java/lang/Object")) (cs_n S a) (fun j => va_rf (cs_ar S a j))) (srcPos := 0) (destPos := 0) (n := n) (by rw [hT0]; exact hc0) (by rw [hT0]; exact hc1)
    (fun _ h => by cases h) (fun _ h => by cases h) (fun h => by cases h) (fun h => by cases h) hkk0 hkk1 hkk0' hkk1' rfl (by decide) (by decide) h3
    (by rw [nn]; show ¬ _ > ((arrV _ _ _).slots.size : Int); rw [arrV_size]; show ¬ (0 : Int) + _ > _; omega)
    (by rw [nn]; show ¬ _ > ((arrV _ _ _).slots.size : Int); rw [arrV_size]; show ¬ (0 : Int) + _ > _; omega)
    (fun vm₁ hal i hi => by
      have e : (arrV (P.2.1 (.object "java/lang/Object")) (cs_n S a0) (fun j => va_rf (cs_ar S a0 j))).slots.getD ((0 : Int32).toNatClampNeg + i) .null = va_rf (cs_ar S a0 i) := by
        rw [z0, Nat.zero_add, Array.getD_eq_getD_getElem?, arrV_read _ _ (by omega)]
        rfl
      rw [e]
      cases hy : cs_ar S a0 i with
      | none => exact ⟨rfl, trivial⟩
      | some y =>
        obtain ⟨cellV, g1, g2, g3⟩ := cs_recv (C := RX0) (T := TX0) (N := 6) (ci := 1) hK hT (hel i hi y hy) (by decide) rfl
        obtain ⟨kA, comp, r1, r2, r3, -⟩ := (hK.2.2.1 _ hg).2
        cases hkk1.symm.trans r1
        cases hkk1'.symm.trans r2
        obtain ⟨kC, hkC, -⟩ := Vm.findClass_spec g3
        obtain ⟨kE, hkE, -⟩ := Vm.findClass_spec r3
        obtain ⟨kC', hkC', -⟩ := hal.2.2 _ _ hkC
        obtain ⟨kE', hkE', -⟩ := hal.2.2 _ _ hkE
        refine ⟨rfl, cellV, (show T.heap[y]? = some cellV by rw [hT0]; exact g1), (fun q h => by rw [h] at g2; cases g2), ⟨kC', hkC'⟩, ?_, ?_⟩
        · exact ⟨kE', hkE'⟩
        · show vm₁.assignable _ _ = true
          rw [hal.assignable]
          exact vb_asgC (hO.2.2.2.2.2.2.2.2.1 _ kca_X0 rfl) _ _ r3 g3)
    (g := F0 m pc ls (.int n :: .int 0 :: .ref a :: .int 0 :: .ref a0 :: rest)) rfl (by rw [hml]; exact hs) (rest := rest) rfl (by rw [hb]; exact hdg) hf (by show 2 * 0 + _ + _ ≤ _; omega)
  have e1 : copied (arrV (P.2.1 (.object "java/lang/Object")) (cs_n S a0) (fun j => va_rf (cs_ar S a0 j))) (arrV (P.2.1 (.object "java/lang/Object")) (cs_n S a) (fun j => va_rf (cs_ar S a j))) 0 0 n = arrV (P.2.1 (.object "java/lang/Object")) (cs_n S a) (fun j => va_rf (va_cpy (cs_ar S a0) (cs_ar S a) 0 0 n.toNatClampNeg j)) :=
    va_copied (sp := 0) (dp := 0) (fun z => va_rf z) _ _ (cs_ar S a0) (cs_ar S a) (by omega)
  rw [e1] at X' step
  have hl : a < H.size := (Array.getElem?_eq_some_iff.mp hc1).1
  generalize hcell : arrV (P.2.1 (.object "java/lang/Object")) (cs_n S a) (fun j => va_rf (va_cpy (cs_ar S a0) (cs_ar S a) 0 0 n.toNatClampNeg j)) = cell at X' step
  have hheap : ((T.setVm vm').setCell a cell).heap = H.setIfInBounds a cell := by rw [← hT0]; rfl
  have oq : ∀ q : Nat, q ≠ a → (H.setIfInBounds a cell)[q]? = H[q]? := fun q hq => by simp [Array.getElem?_setIfInBounds, Ne.symm hq]
  have h9 : hw_in P (cs_M (cs_cpr S a0 a n.toNatClampNeg)) (H.setIfInBounds a cell) := by
    rw [← cs_M_cpr hk1]
    exact hT.2.1.set (hw_at.arr (by show _ = some (arrV (P.2.1 (.object "java/lang/Object")) _ _); rw [hcell]; simp [Array.getElem?_setIfInBounds, hl])) oq
  obtain ⟨t, a1, b1⟩ := kk _ _ ⟨⟨by simp; exact hT.1.1, fun q g1 g2 => by
      rw [oq q (fun e => g2 (by rw [e]; exact hA))]
      exact hT.1.2.1 q g1 g2, fun q hq => by
      rcases List.mem_append.mp hq with h | h
      · exact hT.1.2.2 q h
      · obtain ⟨z, -, hz⟩ := List.mem_map.mp h
        rw [← hz]
        exact hA⟩, h9, fun q x hx hw => by
      by_cases hq : q = a
      · rw [hq]; exact hA
      · rw [← cs_M_cpr hk1, hw_up_ne hq] at hx
        exact hT.2.2.1 q x hx hw, hT.2.2.2⟩ _ hheap X'
  exact ⟨t, step t a1, b1⟩
end CSO
section JCI
variable {l : Launch} {P : hw_G} {G : Nat → Nat} {S : cs_S} {sz : Nat}
abbrev rm_J3_checkIndex_8e157 : Room := { frames := 0, cells := 0, slots := 0, locals := 0 }
def wp_J3_checkIndex_8e157 (post : Int32 → cs_S → Prop) (G : Nat → Nat) (S : cs_S) (p0 p1 : Int32) (p2 : Option Nat) : Prop := ¬ p0 < 0 ∧ p0 < p1 ∧ post p0 S
theorem c_J3_checkIndex_8e157 {p0 p1 : Int32} {p2 : Option Nat} {post : Int32 → cs_S → Prop} (h : wp_J3_checkIndex_8e157 post G S p0 p1 p2) : Met l yJ3_checkIndex_8e157 [Cond.code yJ3_checkIndex_8e157 cJ3_checkIndex_8e157 3 (some .int)] rm_J3_checkIndex_8e157 (cs_Pc P G S sz [.int p0, .int p1, va_rf p2]) (cs_Qi P (cs_A S sz) post) 0 0 (cs_A S sz) := by
  refine cs_met (by decide) rfl (by cases p2 <;> exact Nat.le_of_ble_eq_true rfl) ?_
  intro p e s m below meth c ls hC hin hO hT hl
  obtain ⟨hx, hb, hml, hown, hK, -, -⟩ := id hC
  obtain ⟨h1, h2, h⟩ := h
  replace hl : lv_has ls 3 [(0, .int p0), (1, .int p1), (2, va_rf p2)] := by cases p2 <;> exact hl
  refine lv_iload_n hx hb dJ3_checkIndex_8e157_0 rfl (lv_at hl 0 rfl) ?_
  refine lv_if_lt (tgt := 9) hx hb dJ3_checkIndex_8e157_1 (by decide) (fun hc => absurd hc h1) (fun hc => ?_)
  refine lv_iload_n hx hb dJ3_checkIndex_8e157_4 rfl (lv_at hl 0 rfl) ?_
  refine lv_iload_n hx hb dJ3_checkIndex_8e157_5 rfl (lv_at hl 1 rfl) ?_
  refine lv_icmp_lt (tgt := 16) hx hb dJ3_checkIndex_8e157_6 (by decide) (fun hc => ?_) (fun hc => absurd h2 hc)
  refine lv_iload_n hx hb dJ3_checkIndex_8e157_16 rfl (lv_at hl 0 rfl) ?_
  exact cs_iret hC hT h dJ3_checkIndex_8e157_17 (Nat.le_refl _) (Nat.le_refl _)
end JCI
