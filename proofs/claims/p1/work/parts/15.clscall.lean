/-! ===== contracts and calls of the class's methods ===== -/
def hw_nest : Cond → Bool
  | .fieldLinkNest _ _ _ _ _ _ => true
  | .methodLinkNest _ _ _ _ => true
  | .castable _ _ => true
  | .declares _ => true
  | _ => false
def hw_N (U : State) : Prop := ∀ w ∈ lw_tbl, hw_nest w = true → va_Nw w U
theorem hw_N.warm {s U : State} (hW : s.WarmedH U.vm) (h : hw_N s) : hw_N U := by
  intro w hw hn
  have h1 := h w hw hn
  cases w <;> simp [hw_nest] at hn
  all_goals first | exact va_Nw.warmM hW h1 | exact va_Nw.warmF hW h1 | exact va_Nw.warmC hW h1 | exact va_Nw.warmD hW h1
theorem hw_nest_ot {w : Cond} (h : hw_nest w = true) : w.onTables = true := by
  cases w <;> simp [hw_nest] at h <;> rfl
theorem hw_N.same {s U : State} (hv : U.vm = s.vm) (h : hw_N s) : hw_N U := h.warm (by rw [hv]; exact State.WarmedH.refl s)
/-- the literals: whose, at which place of its pool, the text, its bytes -/
def cs_lit : List (String × Nat × String) := [("WatchHouse$Scanner", 31, "rule by within quiet count of distinct sum chain then unless lack or and not kind has alert like in "), ("WatchHouseModel", 299, " rule by within quiet count of distinct sum chain then unless lack or and not kind has alert like in "), ("WatchHouse", 132, "no such alert"), ("WatchHouse", 150, "no such answer of an alert"), ("WatchHouse", 162, "no such value of a key"), ("WatchHouse", 175, "no such byte of a key"), ("WatchHouse", 177, "no such rule or answer of one"), ("WatchHouse", 193, "no such event"), ("WatchHouse", 210, "no such answer of an event"), ("WatchHouse", 212, "no such event to pack"), ("WatchHouse", 218, "no such byte packed")]
def cs_len : List Nat := cs_lit.map (fun q => q.2.2.length)
def cs_byt : List (List Int32) := cs_lit.map (fun q => q.2.2.toList.map (fun ch => Int32.ofNat ch.toNat))
/-- what lies there from the start on and is never written -/
def cs_O (G : Nat → Nat) (A : Nat → Prop) (U : State) (H : Heap) : Prop :=
  va_Z "WatchHouse" "NO_BYTES" "[I" (.ref (G 0)) A U H ∧ va_Z "java/util/ArrayList" "DEFAULTCAPACITY_EMPTY_ELEMENTDATA" "[Ljava/lang/Object;" (.ref (G 1)) A U H ∧ va_Z "java/lang/String" "COMPACT_STRINGS" "Z" (.int 1) A U H ∧ va_Zq "jdk/internal/util/Preconditions" "SIOOBE_FORMATTER" "Ljava/util/function/BiFunction;" A U H ∧
  vk_S 11 cs_len cs_byt (fun i => G (10 + i)) (fun i => G (30 + i)) A U H ∧ (∀ (i : Nat) (q : String × Nat × String), cs_lit[i]? = some q → vk_R q.1 q.2.1 q.2.2 (G (10 + i)) U) ∧ vx_Zq Bundle.tN "UNASSIGNED_STACK" Bundle.steD A U H ∧ vx_Zq Bundle.tN "SUPPRESSED_SENTINEL" Bundle.listD A U H ∧ hw_N U
theorem cs_O.to {G : Nat → Nat} {A B : Nat → Prop} {s U : State} {H H1 : Heap} (h : cs_O G A s H) (hq : ∀ a : Nat, a < H.size → ¬ A a → H1[a]? = H[a]?) (hW : s.WarmedH U.vm) (hAB : ∀ q, B q → A q) : cs_O G B U H1 :=
  ⟨((h.1.kept hq).moved hW.alike).narrow hAB, ((h.2.1.kept hq).moved hW.alike).narrow hAB, ((h.2.2.1.kept hq).moved hW.alike).narrow hAB, ((h.2.2.2.1.kept hq).moved hW.alike).narrow hAB, ((h.2.2.2.2.1.kept hq).moved hW.alike).narrow hAB, fun i q hi => (h.2.2.2.2.2.1 i q hi).warm hW, ((h.2.2.2.2.2.2.1.kept hq).moved hW.alike).narrow hAB, ((h.2.2.2.2.2.2.2.1.kept hq).moved hW.alike).narrow hAB, h.2.2.2.2.2.2.2.2.warm hW⟩
/-- what a method may write: what is there and can be written, and what is new -/
def cs_A (S : cs_S) (sz : Nat) : Nat → Prop := fun q => (∃ e, cs_M S q = some e ∧ hw_w e = true) ∨ sz ≤ q
def cs_Pc (P : hw_G) (G : Nat → Nat) (S : cs_S) (sz : Nat) (av : List Value) : Array Value → State → Prop := va_Pc av (fun U => U.heap.size = sz ∧ hw_in P (cs_M S) U.heap ∧ hw_K P U ∧ cs_O G (cs_A S sz) U U.heap)
def cs_B (P : hw_G) (A : Nat → Prop) (S : cs_S) (t : State) : Prop := hw_in P (cs_M S) t.heap ∧ (∀ (a : Nat) (e : hw_E), cs_M S a = some e → hw_w e = true → A a) ∧ hw_K P t
theorem cs_Pc.blind {P : hw_G} {G : Nat → Nat} {S : cs_S} {sz : Nat} {av : List Value} : FrameBlind (cs_Pc P G S sz av) := fun a U g mk h => ⟨h.1, h.2.1, h.2.2.1, hw_K.same (s := U) rfl h.2.2.2.1, cs_O.to (s := U) h.2.2.2.2 (fun _ _ _ => rfl) (State.WarmedH.refl U) (fun _ h => h)⟩
theorem cs_A.in {P : hw_G} {s : State} {A : Nat → Prop} {S : cs_S} {H : Heap} {locs : List Loc} (hT : cs_T P s A S H locs) : ∀ q, cs_A S H.size q → A q := fun q h => by
  rcases h with ⟨e, h1, h2⟩ | h
  · exact hT.2.2.1 q e h1 h2
  · exact hT.2.2.2 q (Nat.le_trans hT.1.1 h)
abbrev cs_Qi (P : hw_G) (A : Nat → Prop) (post : Int32 → cs_S → Prop) : Array Value → State → Outcome → State → Prop := va_Qi post (cs_B P A) A
abbrev cs_Ql (P : hw_G) (A : Nat → Prop) (post : Int64 → cs_S → Prop) : Array Value → State → Outcome → State → Prop := va_Ql post (cs_B P A) A
abbrev cs_Qv (P : hw_G) (A : Nat → Prop) (post : cs_S → Prop) : Array Value → State → Outcome → State → Prop := va_Qv post (cs_B P A) A
abbrev cs_Qr (P : hw_G) (A : Nat → Prop) (post : Option Nat → cs_S → Prop) : Array Value → State → Outcome → State → Prop := va_Qq post (cs_B P A) A
section CSC
variable {p : Program} {l : Launch} {e : Env} {R : Room} {s : State} {m : MethodId} {args : Array Value} {below : List Frame} {meth : Method} {c : Code} {H : Heap} {locs : List Loc} {cells slots : Nat} {Q : State → Prop}
variable {cc : ByteArray} {pc : Nat} {ls : Array Slot} {rest st0 : List Value} {P : hw_G} {A : Nat → Prop} {S : cs_S} {G : Nat → Nat}
theorem cs_Pc.pre (hK : hw_K P s) (hO : cs_O G A s s.heap) (hT : cs_T P s A S H locs) (av : List Value) : ∀ U : State, U.heap = H → s.WarmedH U.vm → cs_Pc P G S H.size av av.toArray U := fun U hU hW => ⟨rfl, by rw [hU], by rw [hU]; exact hT.2.1, hK.warm hW, by rw [hU]; exact hO.to hT.1.2.1 hW (cs_A.in hT)⟩
theorem cs_recv (hK : hw_K P s) (hT : cs_T P s A S H locs) {b ci : Nat} {C : String} {T : u_T} {N : Nat} (hk : cs_k S b = ci + 1) (hci : ci < 19) (hc : vwCl[ci]? = some (C, T, N)) : ∃ cell : Cell, H[b]? = some cell ∧ cell.vm.isStatics = false ∧ s.vm.findClass C = some cell.cls := by
  obtain ⟨r, h1, cell, q1, q2, q3, -⟩ := hT.2.1 _ _ (cs_M_obj hk hci)
  have hr : r = (C, T, N) := Option.some.inj (h1.symm.trans hc)
  subst hr
  exact ⟨cell, q1, by rw [q3]; rfl, by rw [q2]; exact (hK.2.1 ci _ hc).1.2.1⟩
variable {y : MethodName} {bytes : ByteArray} {maxL nL mc ms index : Nat} {ret : Option FieldType} {rm : Room} {Qc : Array Value → State → Outcome → State → Prop} {free : Addr → Prop} {As : List Value} {own : String}
theorem cs_runV (hx : p.tables.exec = Jvm.exec) (hb : c.code = cc) (hml : c.maxLocals = nL) (hown : s.vm.findClass own = some m.cls) (hK : hw_K P s) (hO : cs_O G A s s.heap) (hT : cs_T P s A S H locs) {b : Nat} (ci : Nat) {C : String} {T : u_T} {N : Nat} (hk : cs_k S b = ci + 1) (hci : ci < 19) (hc : vwCl[ci]? = some (C, T, N)) (hM : Met l y [Cond.code y bytes maxL ret] rm (cs_Pc P G S H.size (.ref b :: As)) Qc mc ms free) (hrc : rm.cells = mc) (hrs : rm.slots = ms) (wl : Cond.methodLink own index y ∈ lw_tbl) (wi : Cond.instanceMethod y ∈ lw_tbl) (ws : Cond.selects C y y ∈ lw_tbl) (wn : Cond.initialized C ∈ lw_tbl) (wc : Cond.code y bytes maxL ret ∈ lw_tbl) (n : Nat)
    (hd : y.cls = C ∧ y.cls ≠ "java/lang/invoke/MethodHandle" ∧ y.cls ≠ "java/lang/invoke/VarHandle" ∧ (parseMethodDescriptor y.desc).map (fun d => d.parameters.length) = some n) (hR : rm.frames + 1 ≤ R.frames ∧ 8 + (maxL + 11) + rm.locals ≤ R.locals) (hn : As.length = n) (hs : ls.size = nL) (hst : st0 = As.reverse ++ .ref b :: rest) (hW : (rest.map fun v => v.category).sum ≤ 8) (hf : cells + mc ≤ R.cells ∧ slots + ms ≤ R.slots) (hdg : decode cc pc = .ok (.invokevirtual index, 3)) :
    va_Run p l e R s m args below meth c H locs cells slots mc ms (F0 m pc ls st0) rest (Qc (Value.ref b :: As).toArray) free := by
  obtain ⟨h1, h2⟩ := hw_ws5 (args := args) hK wl wi ws wn wc rfl
  exact va_runV (As := As) (rest := rest) ⟨hx, hb, hml, hown, h1⟩ hM (cwV n h1 h2 rfl hrc hrs hd hR) ⟨cs_Pc.blind, cs_recv hK hT hk hci hc, cs_Pc.pre hK hO hT _⟩ rfl hn hs hst (lv_room hW) hdg hf
theorem cs_runS (hx : p.tables.exec = Jvm.exec) (hb : c.code = cc) (hml : c.maxLocals = nL) (hown : s.vm.findClass own = some m.cls) (hK : hw_K P s) (hO : cs_O G A s s.heap) (hT : cs_T P s A S H locs) (hM : Met l y [Cond.code y bytes maxL ret] rm (cs_Pc P G S H.size As) Qc mc ms free) (hrc : rm.cells = mc) (hrs : rm.slots = ms) (wl : Cond.methodLink own index y ∈ lw_tbl) (wi : Cond.static y ∈ lw_tbl) (wn : Cond.initialized y.cls ∈ lw_tbl) (wc : Cond.code y bytes maxL ret ∈ lw_tbl) (n : Nat)
    (hd : y.cls ≠ "java/lang/invoke/MethodHandle" ∧ y.cls ≠ "java/lang/invoke/VarHandle" ∧ (parseMethodDescriptor y.desc).map (fun d => d.parameters.length) = some n) (hR : rm.frames + 1 ≤ R.frames ∧ 8 + (maxL + 11) + rm.locals ≤ R.locals) (hn : As.length = n) (hs : ls.size = nL) (hst : st0 = As.reverse ++ rest) (hW : (rest.map fun v => v.category).sum ≤ 8) (hf : cells + mc ≤ R.cells ∧ slots + ms ≤ R.slots) (hdg : decode cc pc = .ok (.invokestatic index, 3)) :
    va_Run p l e R s m args below meth c H locs cells slots mc ms (F0 m pc ls st0) rest (Qc As.toArray) free := by
  obtain ⟨h1, h2⟩ := hw_ws4 (args := args) hK wl wi wn wc rfl
  exact va_runS (As := As) (rest := rest) ⟨hx, hb, hml, hown, h1⟩ hM (va_cwS n h1 h2 rfl hrc hrs hd hR) ⟨cs_Pc.blind, cs_Pc.pre hK hO hT _⟩ rfl hn hs hst (lv_room hW) hdg hf
theorem cs_runSN {host : String} (hx : p.tables.exec = Jvm.exec) (hb : c.code = cc) (hml : c.maxLocals = nL) (hown : s.vm.findClass own = some m.cls) (hK : hw_K P s) (hO : cs_O G A s s.heap) (hT : cs_T P s A S H locs) (hM : Met l y [Cond.code y bytes maxL ret] rm (cs_Pc P G S H.size As) Qc mc ms free) (hrc : rm.cells = mc) (hrs : rm.slots = ms) (wl : Cond.methodLinkNest own index y host ∈ lw_tbl) (wi : Cond.static y ∈ lw_tbl) (wn : Cond.initialized y.cls ∈ lw_tbl) (wc : Cond.code y bytes maxL ret ∈ lw_tbl) (n : Nat)
    (hd : y.cls ≠ "java/lang/invoke/MethodHandle" ∧ y.cls ≠ "java/lang/invoke/VarHandle" ∧ (parseMethodDescriptor y.desc).map (fun d => d.parameters.length) = some n) (hR : rm.frames + 1 ≤ R.frames ∧ 8 + (maxL + 11) + rm.locals ≤ R.locals) (hn : As.length = n) (hs : ls.size = nL) (hst : st0 = As.reverse ++ rest) (hW : (rest.map fun v => v.category).sum ≤ 8) (hf : cells + mc ≤ R.cells ∧ slots + ms ≤ R.slots) (hdg : decode cc pc = .ok (.invokestatic index, 3)) :
    va_Run p l e R s m args below meth c H locs cells slots mc ms (F0 m pc ls st0) rest (Qc As.toArray) free := by
  have h1 : ∀ w ∈ [Cond.code y bytes maxL ret], w.before args s = true := fun w hw => by rw [List.mem_singleton.mp hw]; exact hK.word wc rfl
  have h2 : GoodIn [Cond.code y bytes maxL ret] [Cond.code y bytes maxL ret] := fun w hw => ⟨hw, by rw [List.mem_singleton.mp hw]; exact good_of_word rfl⟩
  exact va_runSN (As := As) (rest := rest) ⟨hx, hb, hml, hown, h1⟩ hM ⟨va_cnB n h1 h2 rfl hrc hrs (hO.2.2.2.2.2.2.2.2 _ wl rfl) (hK.word wn rfl) hd hR, hK.word wi rfl, trivial⟩ ⟨cs_Pc.blind, cs_Pc.pre hK hO hT _⟩ rfl hn hs hst (lv_room hW) hdg hf
theorem cs_runI (hx : p.tables.exec = Jvm.exec) (hb : c.code = cc) (hml : c.maxLocals = nL) (hown : s.vm.findClass own = some m.cls) (hK : hw_K P s) (hO : cs_O G A s s.heap) (hT : cs_T P s A S H locs) {b : Nat} (hM : Met l y [Cond.code y bytes maxL none] rm (cs_Pc P G S H.size (.ref b :: As)) Qc mc ms free) (hrc : rm.cells = mc) (hrs : rm.slots = ms) (wl : Cond.methodLink own index y ∈ lw_tbl) (wi : Cond.instanceMethod y ∈ lw_tbl) (wn : Cond.initialized y.cls ∈ lw_tbl) (wc : Cond.code y bytes maxL none ∈ lw_tbl) (hy1 : y.name = "<init>") (n : Nat)
    (hd : y.cls ≠ "java/lang/invoke/MethodHandle" ∧ y.cls ≠ "java/lang/invoke/VarHandle" ∧ (parseMethodDescriptor y.desc).map (fun d => d.parameters.length) = some n) (hR : rm.frames + 1 ≤ R.frames ∧ 8 + (maxL + 11) + rm.locals ≤ R.locals) (hn : As.length = n) (hs : ls.size = nL) (hst : st0 = As.reverse ++ .ref b :: rest) (hW : (rest.map fun v => v.category).sum ≤ 8) (hf : cells + mc ≤ R.cells ∧ slots + ms ≤ R.slots) (hdg : decode cc pc = .ok (.invokespecial index, 3)) :
    va_Run p l e R s m args below meth c H locs cells slots mc ms (F0 m pc ls st0) rest (Qc (Value.ref b :: As).toArray) free := by
  have h1 : ∀ w ∈ [Cond.code y bytes maxL none], w.before args s = true := fun w hw => by rw [List.mem_singleton.mp hw]; exact hK.word wc rfl
  have h2 : GoodIn [Cond.code y bytes maxL none] [Cond.code y bytes maxL none] := fun w hw => ⟨hw, by rw [List.mem_singleton.mp hw]; exact good_of_word rfl⟩
  exact va_runI (As := As) (rest := rest) ⟨hx, hb, hml, hown, h1⟩ hM (cwI n h1 h2 rfl hrc hrs (hK.word wn rfl) (hK.word wl rfl) (hK.word wi rfl) hy1 hd hR) ⟨cs_Pc.blind, cs_Pc.pre hK hO hT _⟩ rfl hn hs hst (lv_room hW) hdg hf
variable {a : Array Value}
theorem cs_T.call (hT : cs_T P s A S H locs) {S1 : cs_S} {t : State} {H1 : Heap} {locs1 : List Loc} (ht : t.heap = H1) (hB : cs_B P (cs_A S H.size) S1 t) (hS : va_S A s.heap H1 locs1) : cs_T P s A S1 H1 locs1 := ⟨hS, by rw [← ht]; exact hB.1, fun a e h1 h2 => cs_A.in hT a (hB.2.1 a e h1 h2), hT.2.2.2⟩
theorem cs_calli {post : Int32 → cs_S → Prop} (hr : va_Run p l e R s m args below meth c H locs cells slots mc ms (F0 m pc ls st0) rest (cs_Qi P (cs_A S H.size) post a) (cs_A S H.size)) (hT : cs_T P s A S H locs)
    (kk : ∀ (r : Int32) (S1 : cs_S) (H1 : Heap) (locs1 : List Loc), post r S1 → cs_T P s A S1 H1 locs1 → W p l e R s m args below meth c H1 locs1 (cells + mc) (slots + ms) Q (F0 m (pc + 3) ls (.int r :: rest))) : W p l e R s m args below meth c H locs cells slots Q (F0 m pc ls st0) :=
  va_calli hr hT.1 (fun q _ h => cs_A.in hT q h) (fun q h => cs_A.in hT q h) (fun r u t H1 locs1 ht _ hp hB _ _ hS => kk r u H1 locs1 hp (hT.call ht hB hS))
theorem cs_calll {post : Int64 → cs_S → Prop} (hr : va_Run p l e R s m args below meth c H locs cells slots mc ms (F0 m pc ls st0) rest (cs_Ql P (cs_A S H.size) post a) (cs_A S H.size)) (hT : cs_T P s A S H locs)
    (kk : ∀ (r : Int64) (S1 : cs_S) (H1 : Heap) (locs1 : List Loc), post r S1 → cs_T P s A S1 H1 locs1 → W p l e R s m args below meth c H1 locs1 (cells + mc) (slots + ms) Q (F0 m (pc + 3) ls (.long r :: rest))) : W p l e R s m args below meth c H locs cells slots Q (F0 m pc ls st0) :=
  va_calll hr hT.1 (fun q _ h => cs_A.in hT q h) (fun q h => cs_A.in hT q h) (fun r u t H1 locs1 ht _ hp hB _ _ hS => kk r u H1 locs1 hp (hT.call ht hB hS))
theorem cs_callv {post : cs_S → Prop} (hr : va_Run p l e R s m args below meth c H locs cells slots mc ms (F0 m pc ls st0) rest (cs_Qv P (cs_A S H.size) post a) (cs_A S H.size)) (hT : cs_T P s A S H locs)
    (kk : ∀ (S1 : cs_S) (H1 : Heap) (locs1 : List Loc), post S1 → cs_T P s A S1 H1 locs1 → W p l e R s m args below meth c H1 locs1 (cells + mc) (slots + ms) Q (F0 m (pc + 3) ls rest)) : W p l e R s m args below meth c H locs cells slots Q (F0 m pc ls st0) :=
  va_callv hr hT.1 (fun q _ h => cs_A.in hT q h) (fun q h => cs_A.in hT q h) (fun u t H1 locs1 ht _ hp hB _ _ hS => kk u H1 locs1 hp (hT.call ht hB hS))
theorem cs_callr {post : Option Nat → cs_S → Prop} (hr : va_Run p l e R s m args below meth c H locs cells slots mc ms (F0 m pc ls st0) rest (cs_Qr P (cs_A S H.size) post a) (cs_A S H.size)) (hT : cs_T P s A S H locs)
    (kk : ∀ (r : Option Nat) (S1 : cs_S) (H1 : Heap) (locs1 : List Loc), post r S1 → cs_T P s A S1 H1 locs1 → W p l e R s m args below meth c H1 locs1 (cells + mc) (slots + ms) Q (F0 m (pc + 3) ls (va_rf r :: rest))) : W p l e R s m args below meth c H locs cells slots Q (F0 m pc ls st0) :=
  va_callq hr hT.1 (fun q _ h => cs_A.in hT q h) (fun q h => cs_A.in hT q h) (fun r u t H1 locs1 ht _ hp hB _ _ hS => kk r u H1 locs1 hp (hT.call ht hB hS))
theorem cs_iret {post : Int32 → cs_S → Prop} (hC : rf_C P own p s m meth c cc nL (some .int)) (hT : cs_T P s A S H locs) {v : Int32} (h : post v S) (hdg : decode cc pc = .ok (.ireturn, 1)) (h1 : cells ≤ mc) (h2 : slots ≤ ms) : W p l e R s m args below meth c H locs cells slots (MQ below (cs_Qi P A post) args s mc ms A) (F0 m pc ls [.int v]) :=
  W.widen h1 h2 (W.iret (v := v) hC.1 hC.2.1 hC.2.2.2.2.2.1 (fun t ht hW => ⟨⟨v, S, rfl, h, by rw [ht]; exact hT.2.1, hT.2.2.1, hC.2.2.2.2.1.warm hW⟩, hT.1.F ht⟩) hT.1.2.2 hdg hC.2.2.2.2.2.2)
theorem cs_lret {post : Int64 → cs_S → Prop} (hC : rf_C P own p s m meth c cc nL (some .long)) (hT : cs_T P s A S H locs) {v : Int64} (h : post v S) (hdg : decode cc pc = .ok (.lreturn, 1)) (h1 : cells ≤ mc) (h2 : slots ≤ ms) : W p l e R s m args below meth c H locs cells slots (MQ below (cs_Ql P A post) args s mc ms A) (F0 m pc ls [.long v]) :=
  W.widen h1 h2 (W.lret (v := v) hC.1 hC.2.1 hC.2.2.2.2.2.1 (fun t ht hW => ⟨⟨v, S, rfl, h, by rw [ht]; exact hT.2.1, hT.2.2.1, hC.2.2.2.2.1.warm hW⟩, hT.1.F ht⟩) hT.1.2.2 hdg hC.2.2.2.2.2.2)
theorem cs_zret {post : Int32 → cs_S → Prop} {ty : FieldType} (hC : rf_C P own p s m meth c cc nL (some ty)) (hT : cs_T P s A S H locs) {v : Int32} (hn : narrow ty (.int v) = .int v) (h : post v S) (hdg : decode cc pc = .ok (.ireturn, 1)) (h1 : cells ≤ mc) (h2 : slots ≤ ms) : W p l e R s m args below meth c H locs cells slots (MQ below (cs_Qi P A post) args s mc ms A) (F0 m pc ls [.int v]) :=
  W.widen h1 h2 (W.zret (v := v) (ty := ty) hC.1 hC.2.1 hC.2.2.2.2.2.1 hn (fun t ht hW => ⟨⟨v, S, rfl, h, by rw [ht]; exact hT.2.1, hT.2.2.1, hC.2.2.2.2.1.warm hW⟩, hT.1.F ht⟩) hT.1.2.2 hdg hC.2.2.2.2.2.2)
theorem cs_vret {post : cs_S → Prop} (hC : rf_C P own p s m meth c cc nL none) (hT : cs_T P s A S H locs) (h : post S) (hdg : decode cc pc = .ok (.return_, 1)) (h1 : cells ≤ mc) (h2 : slots ≤ ms) : W p l e R s m args below meth c H locs cells slots (MQ below (cs_Qv P A post) args s mc ms A) (F0 m pc ls []) :=
  W.widen h1 h2 (W.vret hC.1 hC.2.1 hC.2.2.2.2.2.1 (fun t ht hW => ⟨⟨S, rfl, h, by rw [ht]; exact hT.2.1, hT.2.2.1, hC.2.2.2.2.1.warm hW⟩, hT.1.F ht⟩) hT.1.2.2 hdg hC.2.2.2.2.2.2)
theorem cs_aret {post : Option Nat → cs_S → Prop} {rt : FieldType} (hC : rf_C P own p s m meth c cc nL (some rt)) (hrt : (∃ n, rt = .object n) ∨ ∃ t, rt = .array t) (hT : cs_T P s A S H locs) {v : Option Nat} (h : post v S) (hdg : decode cc pc = .ok (.areturn, 1)) (h1 : cells ≤ mc) (h2 : slots ≤ ms) : W p l e R s m args below meth c H locs cells slots (MQ below (cs_Qr P A post) args s mc ms A) (F0 m pc ls [va_rf v]) :=
  W.widen h1 h2 (W.aret (v := va_rf v) hC.1 hC.2.1 hC.2.2.2.2.2.1 hrt (by cases v with | none => exact Or.inl rfl | some b => exact Or.inr ⟨b, rfl⟩) (fun t ht hW => ⟨⟨v, S, rfl, h, by rw [ht]; exact hT.2.1, hT.2.2.1, hC.2.2.2.2.1.warm hW⟩, hT.1.F ht⟩) hT.1.2.2 hdg hC.2.2.2.2.2.2)
theorem cs_gets (hx : p.tables.exec = Jvm.exec) (hb : c.code = cc) {C n d : String} {v : Value} (hZ : va_Z C n d v A s s.heap) (hK : hw_K P s) (hT : cs_T P s A S H locs) (hown : s.vm.findClass own = some m.cls) (hlink : Cond.fieldLink own index C n d ∈ lw_tbl) (hdg : decode cc pc = .ok (.getstatic index, 3))
    (kk : W p l e R s m args below meth c H locs cells slots Q (F0 m (pc + 3) ls (v :: rest))) : W p l e R s m args below meth c H locs cells slots Q (F0 m pc ls rest) := va_gets hx hb hZ hT.1 hown (hK.word hlink rfl) (fun _ h => h) hdg kk
theorem cs_objInit (hx : p.tables.exec = Jvm.exec) (hb : c.code = cc) (hml : c.maxLocals = nL) (hown : s.vm.findClass own = some m.cls) (hK : hw_K P s) (hs : ls.size = nL) {b : Nat} (wl : Cond.methodLink own index Lib.objectInit ∈ lw_tbl) (wi : Cond.instanceMethod Lib.objectInit ∈ lw_tbl) (wc : Cond.code Lib.objectInit ⟨#[0xb1]⟩ 1 none ∈ lw_tbl) (hdg : decode cc pc = .ok (.invokespecial index, 3)) (hf : 1 ≤ R.frames) (hl : (rest.map fun v => v.category).sum + 12 ≤ R.locals)
    (kk : W p l e R s m args below meth c H locs cells slots Q (F0 m (pc + 3) ls rest)) : W p l e R s m args below meth c H locs cells slots Q (F0 m pc ls (.ref b :: rest)) :=
  W.objInit hx hb hown (hK.word wl rfl) (hK.word wi rfl) (hK.word wc rfl) rfl (by rw [hml]; exact hs) rfl hdg hf (by show 2 * 0 + _ + 12 ≤ _; omega) kk
end CSC
/-- a method of the class: its body from the first instruction on -/
theorem cs_met {l : Launch} {P : hw_G} {G : Nat → Nat} {S : cs_S} {sz : Nat} {y : MethodName} {cc : ByteArray} {nL mc ms : Nat} {ret : Option FieldType} {rm : Room} {Qc : Array Value → State → Outcome → State → Prop} {av : List Value} {own : String} (hy : plainName y.cls = true) (hcl : y.cls = own) (hlen : (lg_sl av).length ≤ nL)
    (body : ∀ (p : Program) (e : Env) (s : State) (m : MethodId) (below : List Frame) (meth : Method) (c : Code) (ls : Array Slot), rf_C P own p s m meth c cc nL ret → meth.name = y.name → cs_O G (cs_A S sz) s s.heap → cs_T P s (cs_A S sz) S s.heap [] → lv_has ls nL (lv_args 0 av) →
      W p l e rm s m av.toArray below meth c s.heap [] 0 0 (MQ below Qc av.toArray s mc ms (cs_A S sz)) (F0 m 0 ls [])) : Met l y [Cond.code y cc nL ret] rm (cs_Pc P G S sz av) Qc mc ms (cs_A S sz) := by
  refine Met.ofW (cc := cc) (maxL := nL) (ret := ret) hy rfl ?_
  intro p e s m args below meth c s₁ B hml hv
  obtain ⟨rfl, hsz, hat, hK, hO⟩ := hv
  have hl := lv_entry av (n := nL) hlen
  rw [lg_entry_eq]
  subst hsz
  exact body p e s m below meth c _ ⟨B.exec, B.bytes, hml, by rw [← hcl]; exact findClass_of_methodNamed B.named, hK, B.returns, B.notSynchronized⟩ (name_of_methodNamed B.named B.method).1 hO ⟨va_S.rf, hat, fun a e h1 h2 => Or.inl ⟨e, h1, h2⟩, fun q h => Or.inr h⟩ hl
