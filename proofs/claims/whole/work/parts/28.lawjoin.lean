/-! ===== the law's helpers and its world: class and reference side by side ===== -/
theorem cs_metH {l : Launch} {P : hw_G} {G : Nat → Nat} {S : cs_S} {sz : Nat} {y : MethodName} {cc : ByteArray} {nL mc ms : Nat} {ret : Option FieldType} {rm : Room} {Qc : Array Value → State → Outcome → State → Prop} {av : List Value} {own : String} {hh : List (Nat × Nat × Nat × Nat)} (hy : plainName y.cls = true) (hcl : y.cls = own) (hlen : (lg_sl av).length ≤ nL)
    (body : ∀ (p : Program) (e : Env) (s : State) (m : MethodId) (below : List Frame) (meth : Method) (c : Code) (ls : Array Slot), rf_C P own p s m meth c cc nL ret → c.exceptionTable.toList = tableOf hh → cs_O G (cs_A S sz) s s.heap → cs_T P s (cs_A S sz) S s.heap [] → lv_has ls nL (lv_args 0 av) →
      W p l e rm s m av.toArray below meth c s.heap [] 0 0 (MQ below Qc av.toArray s mc ms (cs_A S sz)) (F0 m 0 ls [])) : Met l y [Cond.codeWith y cc nL ret hh] rm (cs_Pc P G S sz av) Qc mc ms (cs_A S sz) := by
  refine va_MetW (cc := cc) (maxL := nL) (ret := ret) (hh := hh) hy rfl ?_
  intro p e s m args below meth c s₁ B hml hv
  obtain ⟨rfl, hsz, hat, hK, hO⟩ := hv
  have hl := lv_entry av (n := nL) hlen
  rw [lg_entry_eq]
  subst hsz
  exact body p e s m below meth c _ ⟨B.exec, B.bytes, hml, by rw [← hcl]; exact findClass_of_methodNamed B.named, hK, B.returns, B.notSynchronized⟩ (vx_table (x := y) B (atoms_spec (ws := [Cond.codeWith y cc nL ret hh]) B.pre _ List.mem_cons_self)) hO ⟨va_S.rf, hat, fun a e h1 h2 => Or.inl ⟨e, h1, h2⟩, fun q h => Or.inr h⟩ hl
section CSVX
variable {p : Program} {l : Launch} {e : Env} {R : Room} {s : State} {m : MethodId} {args : Array Value} {below : List Frame} {meth : Method} {c : Code} {H : Heap} {locs : List Loc} {cells slots : Nat} {Q : State → Prop}
variable {cc : ByteArray} {pc : Nat} {ls : Array Slot} {rest st0 : List Value} {P : hw_G} {A : Nat → Prop} {S : cs_S} {G : Nat → Nat}
variable {y : MethodName} {bytes : ByteArray} {maxL nL n index mc ms : Nat} {ret : Option FieldType} {rm : Room} {Qc : Array Value → State → Outcome → State → Prop} {XC : String → State → State → Prop} {free : Addr → Prop} {As : List Value} {own : String}
theorem cs_runVX (hx : p.tables.exec = Jvm.exec) (hb : c.code = cc) (hml : c.maxLocals = nL) (hown : s.vm.findClass own = some m.cls) (hK : hw_K P s) (hO : cs_O G A s s.heap) (hT : cs_T P s A S H locs) {b : Nat} (ci : Nat) {C : String} {T : u_T} {N : Nat} (hk : cs_k S b = ci + 1) (hci : ci < 19) (hc : vwCl[ci]? = some (C, T, N)) (hM : vx_Met l y [Cond.code y bytes maxL ret] rm (cs_Pc P G S H.size (.ref b :: As)) Qc XC mc ms free) (hrc : rm.cells = mc) (hrs : rm.slots = ms) (wl : Cond.methodLink own index y ∈ lw_tbl) (wi : Cond.instanceMethod y ∈ lw_tbl) (ws : Cond.selects C y y ∈ lw_tbl) (wn : Cond.initialized C ∈ lw_tbl) (wc : Cond.code y bytes maxL ret ∈ lw_tbl) (n : Nat)
    (hd : y.cls = C ∧ y.cls ≠ "java/lang/invoke/MethodHandle" ∧ y.cls ≠ "java/lang/invoke/VarHandle" ∧ (parseMethodDescriptor y.desc).map (fun d => d.parameters.length) = some n) (hR : rm.frames + 1 ≤ R.frames ∧ 8 + (maxL + 11) + rm.locals ≤ R.locals) (hn : As.length = n) (hs : ls.size = nL) (hst : st0 = As.reverse ++ .ref b :: rest) (hW : (rest.map fun v => v.category).sum ≤ 8) (hf : cells + mc ≤ R.cells ∧ slots + ms ≤ R.slots) (hdg : decode cc pc = .ok (.invokevirtual index, 3)) :
    vx_Run p l e R s m args below meth c H locs cells slots mc ms (F0 m pc ls st0) rest (Qc (Value.ref b :: As).toArray) XC free := by
  obtain ⟨h1, h2⟩ := hw_ws5 (args := args) hK wl wi ws wn wc rfl
  exact vx_runV (As := As) (rest := rest) ⟨hx, hb, hml, hown, h1⟩ hM (cwV n h1 h2 rfl hrc hrs hd hR) ⟨cs_Pc.blind, cs_recv hK hT hk hci hc, cs_Pc.pre hK hO hT _⟩ rfl hn hs hst (lv_room hW) hdg hf
variable {a : Array Value}
theorem cs_callix {post : Int32 → cs_S → Prop} {postx : cs_S → Prop} (hr : vx_Run p l e R s m args below meth c H locs cells slots mc ms (F0 m pc ls st0) rest (cs_Qi P (cs_A S H.size) post a) (cs_X P (cs_A S H.size) postx) (cs_A S H.size)) (hT : cs_T P s A S H locs)
    (kx : ∀ (ce : Cell) (q9 : Addr) (S1 : cs_S) (H1 : Heap) (locs1 : List Loc), postx S1 → cs_T P s A S1 H1 locs1 → H1[q9]? = some ce → ce.vm = .none → s.vm.findClass nx_E = some ce.cls → vx_W p l e R s m args below meth c H1 locs1 (cells + mc) (slots + ms) Q (F0 m pc ls rest) q9)
    (kk : ∀ (r : Int32) (S1 : cs_S) (H1 : Heap) (locs1 : List Loc), post r S1 → cs_T P s A S1 H1 locs1 → W p l e R s m args below meth c H1 locs1 (cells + mc) (slots + ms) Q (F0 m (pc + 3) ls (.int r :: rest))) : W p l e R s m args below meth c H locs cells slots Q (F0 m pc ls st0) :=
  vx_calli hr hT.1 (fun q _ h => cs_A.in hT q h) (fun q h => cs_A.in hT q h) (fun q _ h => cs_A.in hT q h) (fun E ce q9 u t H1 locs1 ht _ hp hB _ _ hS h1 h2 h3 => by
    obtain ⟨rfl, hB⟩ := hB
    exact kx ce q9 u H1 locs1 hp (hT.call ht hB hS) h1 h2 h3) (fun r u t H1 locs1 ht _ hp hB _ _ hS => kk r u H1 locs1 hp (hT.call ht hB hS))
/-- a static call of a method with a table -/
theorem cs_runSW {hh : List (Nat × Nat × Nat × Nat)} (hx : p.tables.exec = Jvm.exec) (hb : c.code = cc) (hml : c.maxLocals = nL) (hown : s.vm.findClass own = some m.cls) (hK : hw_K P s) (hO : cs_O G A s s.heap) (hT : cs_T P s A S H locs) (hM : Met l y [Cond.codeWith y bytes maxL ret hh] rm (cs_Pc P G S H.size As) Qc mc ms free) (hrc : rm.cells = mc) (hrs : rm.slots = ms) (wl : Cond.methodLink own index y ∈ lw_tbl) (wi : Cond.static y ∈ lw_tbl) (wn : Cond.initialized y.cls ∈ lw_tbl) (wc : Cond.codeWith y bytes maxL ret hh ∈ lw_tbl) (gc : goodWord (Cond.codeWith y bytes maxL ret hh) = true) (n : Nat)
    (hd : y.cls ≠ "java/lang/invoke/MethodHandle" ∧ y.cls ≠ "java/lang/invoke/VarHandle" ∧ (parseMethodDescriptor y.desc).map (fun d => d.parameters.length) = some n) (hR : rm.frames + 1 ≤ R.frames ∧ 8 + (maxL + 11) + rm.locals ≤ R.locals) (hn : As.length = n) (hs : ls.size = nL) (hst : st0 = As.reverse ++ rest) (hW : (rest.map fun v => v.category).sum ≤ 8) (hf : cells + mc ≤ R.cells ∧ slots + ms ≤ R.slots) (hdg : decode cc pc = .ok (.invokestatic index, 3)) :
    va_Run p l e R s m args below meth c H locs cells slots mc ms (F0 m pc ls st0) rest (Qc As.toArray) free := by
  obtain ⟨h1, h2⟩ := hw_ws4 (args := args) hK wl wi wn wc gc
  exact vx_runSW (As := As) (rest := rest) ⟨hx, hb, hml, hown, h1⟩ hM (vx_cwSW n h1 h2 rfl hrc hrs hd hR) ⟨cs_Pc.blind, cs_Pc.pre hK hO hT _⟩ rfl hn hs hst (lv_room hW) hdg hf
end CSVX
theorem rf_npos : ∀ k, k < 86 → ∀ t, tyX12 k = .array t → rf_n k ≠ 0 := by
  have h : ∀ k, k < 86 → (match tyX12 k with | .array _ => decide (rf_n k ≠ 0) | _ => true) = true := by decide +kernel
  intro k hk t ht
  have h1 := h k hk
  rw [ht] at h1
  simpa using h1
theorem rf_nsm : ∀ k, k < 86 → rf_n k < 100000 := by decide +kernel
theorem cs_aty_in (k : Nat) : cs_aty k ∈ hw_tys := by
  unfold cs_aty
  split <;> decide
theorem cs_M_ty {S : cs_S} {a : Nat} {x : FieldType × Nat × (Nat → Value)} (h : cs_M S a = some (.inr x)) : x.1 ∈ hw_tys := by
  unfold cs_M at h
  split at h
  · cases h
  · split at h
    · cases h
    · cases h
      exact cs_aty_in _
/-- the reference beside the class's world -/
def lj_J (P : hw_G) (A : Nat → Prop) (o : Nat) (ad : Nat → Nat) (σ : rf_S) (S : cs_S) (H : Heap) : Prop := rf_at P o ad σ H ∧ rf_D o ad ∧ (∀ q, rf_A o ad q → A q) ∧ ∀ q, rf_A o ad q → cs_M S q = none
theorem lj_zero {P : hw_G} {U : State} (hK : hw_K P U) {o : Nat} {ad : Nat → Nat} {σ : rf_S} {H : Heap} (h : rf_at P o ad σ H) {q : Nat} (hq : rf_A o ad q) {e : hw_E} (he : hw_at P q e H) (hin : ∀ x, e = .inr x → x.1 ∈ hw_tys) (hw : ¬ hw_w e = true) : False := by
  cases e with
  | inl x => exact hw rfl
  | inr x =>
    have h0 : x.2.1 = 0 := by
      by_cases h9 : x.2.1 = 0
      · exact h9
      · exact absurd (by simp [hw_w, h9]) hw
    obtain ⟨cell, g1, g2, g3, g4⟩ := he.2 h0
    rcases hq with rfl | ⟨k, t, hk, ht, rfl⟩
    · obtain ⟨cell2, q1, q2, q3, q4⟩ := h.1
      have e1 : cell2 = cell := Option.some.inj (q1.symm.trans g1)
      subst e1
      obtain ⟨-, kC, hkC, hkind⟩ := (hK.2.1 13 _ rf_c13).1.2
      have hno : ∀ (cA : ClassId) (ty : FieldType), ArrOfT U cA ty → cell2.cls = cA → False := by
        intro cA ty hA hc
        obtain ⟨kA, hkA, comp, hkA2⟩ := (hA 0 (fun _ => .null)).2
        have e2 : U.vm.classes[cA]? = some kA := hkA
        rw [← hc, q2, hkC] at e2
        cases e2
        rw [hkind] at hkA2
        cases hkA2
      rcases g3 with g3 | ⟨g3, g5⟩
      · exact hno _ _ (hK.2.2.1 _ (hin x rfl)).1 g3
      · exact hno _ _ hK.2.2.2.2 g5
    · have e1 := Option.some.inj ((h.2 k t hk ht).symm.trans g1)
      rw [← e1, arrV_size] at g4
      have h1 := rf_npos k hk t ht
      have h2 := rf_nsm k hk
      have h3 : (Int32.ofNat (rf_n k)).toInt = (rf_n k : Int) := Int32.toInt_ofNat_of_lt (by omega)
      have h4 : Int32.ofNat (rf_n k) = 0 := g4
      rw [h4] at h3
      have h5 : (0 : Int32).toInt = 0 := rfl
      omega
section LJ
variable {p : Program} {l : Launch} {e : Env} {R : Room} {s : State} {m : MethodId} {args : Array Value} {below : List Frame} {meth : Method} {c : Code} {H : Heap} {locs : List Loc} {cells slots mc ms : Nat} {Q : State → Prop}
variable {cc : ByteArray} {pc : Nat} {ls : Array Slot} {rest st0 : List Value} {P : hw_G} {A : Nat → Prop} {S : cs_S} {G : Nat → Nat} {a : Array Value} {o : Nat} {ad : Nat → Nat} {σ : rf_S}
theorem lj_J.cls (hT : cs_T P s A S H locs) (hJ : lj_J P A o ad σ S H) {S1 : cs_S} {t : State} {H1 : Heap} (ht : t.heap = H1) (hB : cs_B P (cs_A S H.size) S1 t) (hk : ∀ q : Nat, q < H.size → ¬ cs_A S H.size q → H1[q]? = H[q]?) : lj_J P A o ad σ S1 H1 := by
  have hnA : ∀ q, rf_A o ad q → ¬ cs_A S H.size q := by
    rintro q hq (⟨e9, h9, -⟩ | h9)
    · rw [hJ.2.2.2 q hq] at h9; cases h9
    · exact absurd h9 (Nat.not_le.mpr (hJ.1.lt hq))
  have hat : rf_at P o ad σ H1 := hJ.1.kept (fun q hq => hk q (hJ.1.lt hq) (hnA q hq))
  refine ⟨hat, hJ.2.1, hJ.2.2.1, fun q hq => ?_⟩
  cases hM : cs_M S1 q with
  | none => rfl
  | some e9 =>
    exfalso
    by_cases hw : hw_w e9 = true
    · exact hnA q hq (hB.2.1 q e9 hM hw)
    · exact lj_zero hB.2.2 hat hq (by rw [← ht]; exact hB.1 q e9 hM) (fun x hx => cs_M_ty (hM.trans (congrArg some hx))) hw
theorem lj_J.ref (hT : cs_T P s A S H locs) (hJ : lj_J P A o ad σ S H) {σ1 : rf_S} {t : State} {H1 : Heap} {locs1 : List Loc} (ht : t.heap = H1) (hB : rf_B P o ad σ1 t) (hk : ∀ q : Nat, q < H.size → ¬ rf_A o ad q → H1[q]? = H[q]?) (hS : va_S A s.heap H1 locs1) : cs_T P s A S H1 locs1 ∧ lj_J P A o ad σ1 S H1 := by
  refine ⟨⟨hS, fun q e9 h9 => (hT.2.1 q e9 h9).kept (hk q (hT.2.1 q e9 h9).lt (fun hq => ?_)), hT.2.2⟩, by rw [← ht]; exact hB.1, hJ.2.1, hJ.2.2⟩
  rw [hJ.2.2.2 q hq] at h9; cases h9
theorem lj_J.T (hT : cs_T P s A S H locs) (hJ : lj_J P A o ad σ S H) : rf_T P s A o ad σ H locs := ⟨hT.1, hJ.1, hJ.2.1, hJ.2.2.1⟩
theorem lj_runR {own : String} {y : MethodName} {bytes : ByteArray} {maxL nL index : Nat} {ret : Option FieldType} {rm : Room} {Qc : Array Value → State → Outcome → State → Prop} {free : Addr → Prop} {As : List Value} (hx : p.tables.exec = Jvm.exec) (hb : c.code = cc) (hml : c.maxLocals = nL) (hown : s.vm.findClass own = some m.cls) (hK : hw_K P s) (hT : rf_T P s A o ad σ H locs) (hM : Met l y [Cond.code y bytes maxL ret] rm (rf_Pc P o ad σ (.ref o :: As)) Qc 0 0 free) (hrc : rm.cells = 0) (hrs : rm.slots = 0) (wl : Cond.methodLink own index y ∈ lw_tbl) (wi : Cond.instanceMethod y ∈ lw_tbl) (ws : Cond.selects RX12 y y ∈ lw_tbl) (wn : Cond.initialized RX12 ∈ lw_tbl) (wc : Cond.code y bytes maxL ret ∈ lw_tbl) (n : Nat)
    (hd : y.cls = RX12 ∧ y.cls ≠ "java/lang/invoke/MethodHandle" ∧ y.cls ≠ "java/lang/invoke/VarHandle" ∧ (parseMethodDescriptor y.desc).map (fun d => d.parameters.length) = some n) (hR : rm.frames + 1 ≤ R.frames ∧ 8 + (maxL + 11) + rm.locals ≤ R.locals) (hn : As.length = n) (hs : ls.size = nL) (hst : st0 = As.reverse ++ .ref o :: rest) (hW : (rest.map fun v => v.category).sum ≤ 8) (hf : cells ≤ R.cells ∧ slots ≤ R.slots) (hdg : decode cc pc = .ok (.invokevirtual index, 3)) :
    va_Run p l e R s m args below meth c H locs cells slots 0 0 (F0 m pc ls st0) rest (Qc (Value.ref o :: As).toArray) free := by
  obtain ⟨h1, h2⟩ := hw_ws5 (args := args) hK wl wi ws wn wc rfl
  exact va_runV (As := As) (rest := rest) ⟨hx, hb, hml, hown, h1⟩ hM (cwV n h1 h2 rfl hrc hrs hd hR) ⟨rf_Pc.blind, rf_recv hK hT, rf_Pc.pre hK hT _⟩ rfl hn hs hst (lv_room hW) hdg hf
theorem lj_ci {post : Int32 → cs_S → Prop} (hr : va_Run p l e R s m args below meth c H locs cells slots mc ms (F0 m pc ls st0) rest (cs_Qi P (cs_A S H.size) post a) (cs_A S H.size)) (hT : cs_T P s A S H locs) (hJ : lj_J P A o ad σ S H)
    (kk : ∀ (r : Int32) (S1 : cs_S) (H1 : Heap) (locs1 : List Loc), post r S1 → cs_T P s A S1 H1 locs1 → lj_J P A o ad σ S1 H1 → W p l e R s m args below meth c H1 locs1 (cells + mc) (slots + ms) Q (F0 m (pc + 3) ls (.int r :: rest))) : W p l e R s m args below meth c H locs cells slots Q (F0 m pc ls st0) :=
  va_calli hr hT.1 (fun q _ h => cs_A.in hT q h) (fun q h => cs_A.in hT q h) (fun r u t H1 locs1 ht _ hp hB _ hk hS => kk r u H1 locs1 hp (hT.call ht hB hS) (hJ.cls hT ht hB hk))
theorem lj_ci0 {post : Int32 → cs_S → Prop} (hr : va_Run p l e R s m args below meth c H locs cells slots 0 0 (F0 m pc ls st0) rest (cs_Qi P (cs_A S H.size) post a) (cs_A S H.size)) (hT : cs_T P s A S H locs) (hJ : lj_J P A o ad σ S H)
    (kk : ∀ (r : Int32) (S1 : cs_S) (H1 : Heap) (locs1 : List Loc), post r S1 → cs_T P s A S1 H1 locs1 → lj_J P A o ad σ S1 H1 → W p l e R s m args below meth c H1 locs1 cells slots Q (F0 m (pc + 3) ls (.int r :: rest))) : W p l e R s m args below meth c H locs cells slots Q (F0 m pc ls st0) := lj_ci hr hT hJ kk
theorem lj_ri {post : Int32 → rf_S → Prop} (hr : va_Run p l e R s m args below meth c H locs cells slots 0 0 (F0 m pc ls st0) rest (rf_Qi P o ad post a) (rf_A o ad)) (hT : cs_T P s A S H locs) (hJ : lj_J P A o ad σ S H)
    (kk : ∀ (r : Int32) (σ1 : rf_S) (H1 : Heap) (locs1 : List Loc), post r σ1 → cs_T P s A S H1 locs1 → lj_J P A o ad σ1 S H1 → W p l e R s m args below meth c H1 locs1 cells slots Q (F0 m (pc + 3) ls (.int r :: rest))) : W p l e R s m args below meth c H locs cells slots Q (F0 m pc ls st0) :=
  va_calli hr hT.1 (fun q _ h => hJ.2.2.1 q h) (fun q h => hJ.2.2.1 q h) (fun r u t H1 locs1 ht _ hp hB _ hk hS => kk r u H1 locs1 hp (hJ.ref hT ht hB hk hS).1 (hJ.ref hT ht hB hk hS).2)
end LJ
