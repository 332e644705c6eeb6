/-! ===== calls among the reference's methods ===== -/
def rf_Pc (P : hw_G) (o : Nat) (ad : Nat → Nat) (σ : rf_S) (av : List Value) : Array Value → State → Prop := va_Pc av (fun U => rf_at P o ad σ U.heap ∧ rf_D o ad ∧ hw_K P U)
def rf_B (P : hw_G) (o : Nat) (ad : Nat → Nat) (σ : rf_S) (t : State) : Prop := rf_at P o ad σ t.heap ∧ hw_K P t
theorem rf_Pc.blind {P : hw_G} {o : Nat} {ad : Nat → Nat} {σ : rf_S} {av : List Value} : FrameBlind (rf_Pc P o ad σ av) := fun a U g mk h => ⟨h.1, h.2.1, h.2.2.1, hw_K.same (s := U) rfl h.2.2.2⟩
section RFC
variable {p : Program} {l : Launch} {e : Env} {R : Room} {s : State} {m : MethodId} {args : Array Value} {below : List Frame} {meth : Method} {c : Code} {H : Heap} {locs : List Loc} {cells slots : Nat} {Q : State → Prop}
variable {cc : ByteArray} {pc : Nat} {ls : Array Slot} {rest st0 : List Value} {P : hw_G} {A : Nat → Prop} {o : Nat} {ad : Nat → Nat} {σ : rf_S}
theorem rf_Pc.pre (hK : hw_K P s) (hT : rf_T P s A o ad σ H locs) (av : List Value) : ∀ U : State, U.heap = H → s.WarmedH U.vm → rf_Pc P o ad σ av av.toArray U := fun U hU hW => ⟨rfl, by rw [hU]; exact hT.2.1, hT.2.2.1, hK.warm hW⟩
theorem rf_recv (hK : hw_K P s) (hT : rf_T P s A o ad σ H locs) : ∃ cell : Cell, H[o]? = some cell ∧ cell.vm.isStatics = false ∧ s.vm.findClass RX12 = some cell.cls := by
  obtain ⟨cell, q1, q2, q3, -⟩ := hT.2.1.1
  exact ⟨cell, q1, by rw [q3]; rfl, by rw [q2]; exact (hK.2.1 13 _ rf_c13).1.2.1⟩
theorem hw_ws5 (hK : hw_K P s) {own C : String} {y : MethodName} {index : Nat} {cd : Cond} (wl : Cond.methodLink own index y ∈ lw_tbl) (wi : Cond.instanceMethod y ∈ lw_tbl) (ws : Cond.selects C y y ∈ lw_tbl) (wn : Cond.initialized C ∈ lw_tbl) (wc : cd ∈ lw_tbl) (gc : goodWord cd = true) : (∀ w ∈ wsV own index C y [cd], w.before args s = true) ∧ GoodIn (wsV own index C y [cd]) (wsV own index C y [cd]) := by
  have h : ∀ w ∈ wsV own index C y [cd], w ∈ lw_tbl ∧ goodWord w = true := by
    intro w hw
    simp only [wsV, List.cons_append, List.nil_append, List.mem_cons, List.not_mem_nil, or_false] at hw
    rcases hw with rfl | rfl | rfl | rfl | rfl
    · exact ⟨wl, rfl⟩
    · exact ⟨wi, rfl⟩
    · exact ⟨ws, rfl⟩
    · exact ⟨wn, rfl⟩
    · exact ⟨wc, gc⟩
  exact ⟨fun w hw => hK.word (h w hw).1 (h w hw).2, fun w hw => ⟨hw, good_of_word (h w hw).2⟩⟩
theorem hw_ws4 (hK : hw_K P s) {own : String} {y : MethodName} {index : Nat} {cd : Cond} (wl : Cond.methodLink own index y ∈ lw_tbl) (wi : Cond.static y ∈ lw_tbl) (wn : Cond.initialized y.cls ∈ lw_tbl) (wc : cd ∈ lw_tbl) (gc : goodWord cd = true) : (∀ w ∈ va_wsS own index y [cd], w.before args s = true) ∧ GoodIn (va_wsS own index y [cd]) (va_wsS own index y [cd]) := by
  have h : ∀ w ∈ va_wsS own index y [cd], w ∈ lw_tbl ∧ goodWord w = true := by
    intro w hw
    simp only [va_wsS, List.cons_append, List.nil_append, List.mem_cons, List.not_mem_nil, or_false] at hw
    rcases hw with rfl | rfl | rfl | rfl
    · exact ⟨wl, rfl⟩
    · exact ⟨wi, rfl⟩
    · exact ⟨wn, rfl⟩
    · exact ⟨wc, gc⟩
  exact ⟨fun w hw => hK.word (h w hw).1 (h w hw).2, fun w hw => ⟨hw, good_of_word (h w hw).2⟩⟩
variable {y : MethodName} {bytes : ByteArray} {maxL nL n index : Nat} {ret : Option FieldType} {rm : Room} {Qc : Array Value → State → Outcome → State → Prop} {free : Addr → Prop} {As : List Value}
theorem rf_runV (hx : p.tables.exec = Jvm.exec) (hb : c.code = cc) (hml : c.maxLocals = nL) (hown : s.vm.findClass RX12 = some m.cls) (hK : hw_K P s) (hT : rf_T P s A o ad σ H locs) (hM : Met l y [Cond.code y bytes maxL ret] rm (rf_Pc P o ad σ (.ref o :: As)) Qc 0 0 free) (hrc : rm.cells = 0) (hrs : rm.slots = 0) (wl : Cond.methodLink RX12 index y ∈ lw_tbl) (wi : Cond.instanceMethod y ∈ lw_tbl) (ws : Cond.selects RX12 y y ∈ lw_tbl) (wn : Cond.initialized RX12 ∈ lw_tbl) (wc : Cond.code y bytes maxL ret ∈ lw_tbl) (n : Nat)
    (hd : y.cls = RX12 ∧ y.cls ≠ "java/lang/invoke/MethodHandle" ∧ y.cls ≠ "java/lang/invoke/VarHandle" ∧ (parseMethodDescriptor y.desc).map (fun d => d.parameters.length) = some n) (hR : rm.frames + 1 ≤ R.frames ∧ 8 + (maxL + 11) + rm.locals ≤ R.locals) (hn : As.length = n) (hs : ls.size = nL) (hst : st0 = As.reverse ++ .ref o :: rest) (hW : (rest.map fun v => v.category).sum ≤ 8) (hf : cells ≤ R.cells ∧ slots ≤ R.slots) (hdg : decode cc pc = .ok (.invokevirtual index, 3)) :
    va_Run p l e R s m args below meth c H locs cells slots 0 0 (F0 m pc ls st0) rest (Qc (Value.ref o :: As).toArray) free := by
  obtain ⟨h1, h2⟩ := hw_ws5 (args := args) hK wl wi ws wn wc rfl
  exact va_runV (As := As) (rest := rest) ⟨hx, hb, hml, hown, h1⟩ hM (cwV n h1 h2 rfl hrc hrs hd hR) ⟨rf_Pc.blind, rf_recv hK hT, rf_Pc.pre hK hT _⟩ rfl hn hs hst (lv_room hW) hdg hf
theorem rf_runS (hx : p.tables.exec = Jvm.exec) (hb : c.code = cc) (hml : c.maxLocals = nL) (hown : s.vm.findClass RX12 = some m.cls) (hK : hw_K P s) (hT : rf_T P s A o ad σ H locs) (hM : Met l y [Cond.code y bytes maxL ret] rm (rf_Pc P o ad σ As) Qc 0 0 free) (hrc : rm.cells = 0) (hrs : rm.slots = 0) (wl : Cond.methodLink RX12 index y ∈ lw_tbl) (wi : Cond.static y ∈ lw_tbl) (wn : Cond.initialized y.cls ∈ lw_tbl) (wc : Cond.code y bytes maxL ret ∈ lw_tbl) (n : Nat)
    (hd : y.cls ≠ "java/lang/invoke/MethodHandle" ∧ y.cls ≠ "java/lang/invoke/VarHandle" ∧ (parseMethodDescriptor y.desc).map (fun d => d.parameters.length) = some n) (hR : rm.frames + 1 ≤ R.frames ∧ 8 + (maxL + 11) + rm.locals ≤ R.locals) (hn : As.length = n) (hs : ls.size = nL) (hst : st0 = As.reverse ++ rest) (hW : (rest.map fun v => v.category).sum ≤ 8) (hf : cells ≤ R.cells ∧ slots ≤ R.slots) (hdg : decode cc pc = .ok (.invokestatic index, 3)) :
    va_Run p l e R s m args below meth c H locs cells slots 0 0 (F0 m pc ls st0) rest (Qc As.toArray) free := by
  obtain ⟨h1, h2⟩ := hw_ws4 (args := args) hK wl wi wn wc rfl
  exact va_runS (As := As) (rest := rest) ⟨hx, hb, hml, hown, h1⟩ hM (va_cwS n h1 h2 rfl hrc hrs hd hR) ⟨rf_Pc.blind, rf_Pc.pre hK hT _⟩ rfl hn hs hst (lv_room hW) hdg hf
variable {a : Array Value}
theorem rf_T.call (hT : rf_T P s (rf_A o ad) o ad σ H locs) {σ1 : rf_S} {t : State} {H1 : Heap} {locs1 : List Loc} (ht : t.heap = H1) (hB : rf_B P o ad σ1 t) (hS : va_S (rf_A o ad) s.heap H1 locs1) : rf_T P s (rf_A o ad) o ad σ1 H1 locs1 := ⟨hS, by rw [← ht]; exact hB.1, hT.2.2.1, hT.2.2.2⟩
theorem rf_calli {post : Int32 → rf_S → Prop} (hr : va_Run p l e R s m args below meth c H locs cells slots 0 0 (F0 m pc ls st0) rest (va_Qi post (rf_B P o ad) (rf_A o ad) a) (rf_A o ad)) (hT : rf_T P s (rf_A o ad) o ad σ H locs)
    (kk : ∀ (r : Int32) (σ1 : rf_S) (H1 : Heap) (locs1 : List Loc), post r σ1 → rf_T P s (rf_A o ad) o ad σ1 H1 locs1 → W p l e R s m args below meth c H1 locs1 cells slots Q (F0 m (pc + 3) ls (.int r :: rest))) : W p l e R s m args below meth c H locs cells slots Q (F0 m pc ls st0) :=
  va_calli hr hT.1 (fun _ _ h => h) (fun _ h => h) (fun r u t H1 locs1 ht _ hp hB _ _ hS => kk r u H1 locs1 hp (hT.call ht hB hS))
theorem rf_calll {post : Int64 → rf_S → Prop} (hr : va_Run p l e R s m args below meth c H locs cells slots 0 0 (F0 m pc ls st0) rest (va_Ql post (rf_B P o ad) (rf_A o ad) a) (rf_A o ad)) (hT : rf_T P s (rf_A o ad) o ad σ H locs)
    (kk : ∀ (r : Int64) (σ1 : rf_S) (H1 : Heap) (locs1 : List Loc), post r σ1 → rf_T P s (rf_A o ad) o ad σ1 H1 locs1 → W p l e R s m args below meth c H1 locs1 cells slots Q (F0 m (pc + 3) ls (.long r :: rest))) : W p l e R s m args below meth c H locs cells slots Q (F0 m pc ls st0) :=
  va_calll hr hT.1 (fun _ _ h => h) (fun _ h => h) (fun r u t H1 locs1 ht _ hp hB _ _ hS => kk r u H1 locs1 hp (hT.call ht hB hS))
theorem rf_callv {post : rf_S → Prop} (hr : va_Run p l e R s m args below meth c H locs cells slots 0 0 (F0 m pc ls st0) rest (va_Qv post (rf_B P o ad) (rf_A o ad) a) (rf_A o ad)) (hT : rf_T P s (rf_A o ad) o ad σ H locs)
    (kk : ∀ (σ1 : rf_S) (H1 : Heap) (locs1 : List Loc), post σ1 → rf_T P s (rf_A o ad) o ad σ1 H1 locs1 → W p l e R s m args below meth c H1 locs1 cells slots Q (F0 m (pc + 3) ls rest)) : W p l e R s m args below meth c H locs cells slots Q (F0 m pc ls st0) :=
  va_callv hr hT.1 (fun _ _ h => h) (fun _ h => h) (fun u t H1 locs1 ht _ hp hB _ _ hS => kk u H1 locs1 hp (hT.call ht hB hS))
/-- what holds all through a method of the reference -/
def rf_C (P : hw_G) (own : String) (p : Program) (s : State) (m : MethodId) (meth : Method) (c : Code) (cc : ByteArray) (nL : Nat) (ret : Option FieldType) : Prop := p.tables.exec = Jvm.exec ∧ c.code = cc ∧ c.maxLocals = nL ∧ s.vm.findClass own = some m.cls ∧ hw_K P s ∧ meth.sig.returnType = ret ∧ meth.locks = false
abbrev rf_Qi (P : hw_G) (o : Nat) (ad : Nat → Nat) (post : Int32 → rf_S → Prop) : Array Value → State → Outcome → State → Prop := va_Qi post (rf_B P o ad) (rf_A o ad)
abbrev rf_Ql (P : hw_G) (o : Nat) (ad : Nat → Nat) (post : Int64 → rf_S → Prop) : Array Value → State → Outcome → State → Prop := va_Ql post (rf_B P o ad) (rf_A o ad)
abbrev rf_Qv (P : hw_G) (o : Nat) (ad : Nat → Nat) (post : rf_S → Prop) : Array Value → State → Outcome → State → Prop := va_Qv post (rf_B P o ad) (rf_A o ad)
theorem rf_iret {post : Int32 → rf_S → Prop} {own : String} (hC : rf_C P own p s m meth c cc nL (some .int)) (hT : rf_T P s (rf_A o ad) o ad σ H locs) {v : Int32} (h : post v σ) (hdg : decode cc pc = .ok (.ireturn, 1)) : W p l e R s m args below meth c H locs 0 0 (MQ below (rf_Qi P o ad post) args s 0 0 (rf_A o ad)) (F0 m pc ls [.int v]) :=
  W.iret (v := v) hC.1 hC.2.1 hC.2.2.2.2.2.1 (fun t ht hW => ⟨⟨v, σ, rfl, h, by rw [ht]; exact hT.2.1, hC.2.2.2.2.1.warm hW⟩, hT.1.F ht⟩) hT.1.2.2 hdg hC.2.2.2.2.2.2
theorem rf_lret {post : Int64 → rf_S → Prop} {own : String} (hC : rf_C P own p s m meth c cc nL (some .long)) (hT : rf_T P s (rf_A o ad) o ad σ H locs) {v : Int64} (h : post v σ) (hdg : decode cc pc = .ok (.lreturn, 1)) : W p l e R s m args below meth c H locs 0 0 (MQ below (rf_Ql P o ad post) args s 0 0 (rf_A o ad)) (F0 m pc ls [.long v]) :=
  W.lret (v := v) hC.1 hC.2.1 hC.2.2.2.2.2.1 (fun t ht hW => ⟨⟨v, σ, rfl, h, by rw [ht]; exact hT.2.1, hC.2.2.2.2.1.warm hW⟩, hT.1.F ht⟩) hT.1.2.2 hdg hC.2.2.2.2.2.2
theorem rf_zret {post : Int32 → rf_S → Prop} {own : String} (hC : rf_C P own p s m meth c cc nL (some .boolean)) (hT : rf_T P s (rf_A o ad) o ad σ H locs) {v : Int32} (hn : narrow .boolean (.int v) = .int v) (h : post v σ) (hdg : decode cc pc = .ok (.ireturn, 1)) : W p l e R s m args below meth c H locs 0 0 (MQ below (rf_Qi P o ad post) args s 0 0 (rf_A o ad)) (F0 m pc ls [.int v]) :=
  W.zret (v := v) (ty := .boolean) hC.1 hC.2.1 hC.2.2.2.2.2.1 hn (fun t ht hW => ⟨⟨v, σ, rfl, h, by rw [ht]; exact hT.2.1, hC.2.2.2.2.1.warm hW⟩, hT.1.F ht⟩) hT.1.2.2 hdg hC.2.2.2.2.2.2
theorem rf_vret {post : rf_S → Prop} {own : String} (hC : rf_C P own p s m meth c cc nL none) (hT : rf_T P s (rf_A o ad) o ad σ H locs) (h : post σ) (hdg : decode cc pc = .ok (.return_, 1)) : W p l e R s m args below meth c H locs 0 0 (MQ below (rf_Qv P o ad post) args s 0 0 (rf_A o ad)) (F0 m pc ls []) :=
  W.vret hC.1 hC.2.1 hC.2.2.2.2.2.1 (fun t ht hW => ⟨⟨σ, rfl, h, by rw [ht]; exact hT.2.1, hC.2.2.2.2.1.warm hW⟩, hT.1.F ht⟩) hT.1.2.2 hdg hC.2.2.2.2.2.2
end RFC
/-- a method of the reference: its body from the first instruction on -/
theorem rf_met {l : Launch} {P : hw_G} {o : Nat} {ad : Nat → Nat} {σ : rf_S} {y : MethodName} {cc : ByteArray} {nL : Nat} {ret : Option FieldType} {rm : Room} {Qc : Array Value → State → Outcome → State → Prop} {av : List Value} {own : String} (hy : plainName y.cls = true) (hcl : y.cls = own) (hlen : (lg_sl av).length ≤ nL)
    (body : ∀ (p : Program) (e : Env) (s : State) (m : MethodId) (below : List Frame) (meth : Method) (c : Code) (ls : Array Slot), rf_C P own p s m meth c cc nL ret → rf_T P s (rf_A o ad) o ad σ s.heap [] → lv_has ls nL (lv_args 0 av) →
      W p l e rm s m av.toArray below meth c s.heap [] 0 0 (MQ below Qc av.toArray s 0 0 (rf_A o ad)) (F0 m 0 ls [])) : Met l y [Cond.code y cc nL ret] rm (rf_Pc P o ad σ av) Qc 0 0 (rf_A o ad) := by
  refine Met.ofW (cc := cc) (maxL := nL) (ret := ret) hy rfl ?_
  intro p e s m args below meth c s₁ B hml hv
  obtain ⟨rfl, hat, hD, hK⟩ := hv
  have hl := lv_entry av (n := nL) hlen
  rw [lg_entry_eq]
  exact body p e s m below meth c _ ⟨B.exec, B.bytes, hml, by rw [← hcl]; exact findClass_of_methodNamed B.named, hK, B.returns, B.notSynchronized⟩ ⟨va_S.rf, hat, hD, fun _ h => h⟩ hl
section RFX
variable {p : Program} {l : Launch} {ev : Env} {R : Room} {s : State} {m : MethodId} {args : Array Value} {below : List Frame} {meth : Method} {c : Code} {H : Heap} {locs : List Loc} {cells slots : Nat} {Q : State → Prop}
variable {cc : ByteArray} {pc : Nat} {ls : Array Slot} {rest st0 : List Value}
/-- a case of a tableswitch -/
theorem hw_tab (hexec : p.tables.exec = Jvm.exec) (hb : c.code = cc) {dflt lo hi : Int} {offs : Array Int} {len : Nat} {x : Int32} {off z : Int} {tgt : Nat} (e : x.toInt = z) (hdg : decode cc pc = .ok (.tableswitch dflt lo hi offs, len)) (h1 : ¬ z < lo) (h2 : ¬ hi < z) (ho : offs[(z - lo).toNat]? = some off) (ht : (pc : Int) + off = (tgt : Int))
    (k : W p l ev R s m args below meth c H locs cells slots Q (F0 m tgt ls rest)) : W p l ev R s m args below meth c H locs cells slots Q (F0 m pc ls (.int x :: rest)) := by
  subst e
  exact lv_tableIn hexec hb hdg h1 h2 ho ht k
end RFX
