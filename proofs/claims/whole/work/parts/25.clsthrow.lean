/-! ===== the class's methods that throw ===== -/
abbrev nx_E : String := "java/util/NoSuchElementException"
def nx_rx : ByteArray := ⟨#[0x2a, 0x2b, 0xb7, 0x00, 0x0d, 0xb1]⟩
theorem nx_x0 : decode nx_rx 0 = .ok (.aload_n 0, 1) := by decide +kernel
theorem nx_x1 : decode nx_rx 1 = .ok (.aload_n 1, 1) := by decide +kernel
theorem nx_x2 : decode nx_rx 2 = .ok (.invokespecial 13, 3) := by decide +kernel
theorem nx_x5 : decode nx_rx 5 = .ok (.return_, 1) := by decide +kernel
def nx_L : List Cond := nx_atS "WatchHouse" 134 nx_E 13 nx_rx "java/lang/RuntimeException" ["java/lang/Exception"]
theorem nx_in : ∀ w ∈ nx_L, w ∈ lw_tbl ∧ (goodWord w || hw_nest w) = true := by decide +kernel
theorem nx_k : Cond.classLink "WatchHouse" 130 nx_E ∈ lw_tbl := by decide +kernel
theorem nx_cast : Cond.castable nx_E nx_E ∈ lw_tbl := by decide +kernel
theorem nx_n : Cond.initialized nx_E ∈ lw_tbl := by decide +kernel
def cs_X (P : hw_G) (A : Nat → Prop) (postx : cs_S → Prop) : String → State → State → Prop := vx_X postx (fun E S t => E = nx_E ∧ cs_B P A S t) A
section CSX
variable {p : Program} {l : Launch} {e : Env} {R : Room} {s : State} {m : MethodId} {args : Array Value} {below : List Frame} {meth : Method} {c : Code} {H : Heap} {locs : List Loc} {cells slots : Nat}
variable {cc : ByteArray} {pc nL mc ms : Nat} {ls : Array Slot} {P : hw_G} {A : Nat → Prop} {S : cs_S} {G : Nat → Nat} {Qc : Array Value → State → Outcome → State → Prop} {postx : cs_S → Prop}
theorem cs_throw {is : Nat} {tx : String} {ret : Option FieldType} (hC : rf_C P RX11 p s m meth c cc nL ret) (hO : cs_O G A s s.heap) (hT : cs_T P s A S H locs) (hsz : ls.size = nL) (hlx : l.stackTraces = false) (htb : ∀ x ∈ c.exceptionTable.toList, False) (i : Nat) (hi : cs_lit[i]? = some ("WatchHouse", is, tx))
    (d0 : decode cc pc = .ok (.new 130, 3)) (d3 : decode cc (pc + 3) = .ok (.dup, 1)) (d4 : decode cc (pc + 4) = .ok (.ldc is, 2)) (d6 : decode cc (pc + 6) = .ok (.invokespecial 134, 3)) (d9 : decode cc (pc + 9) = .ok (.athrow, 1))
    (hF : 6 ≤ R.frames) (hL : 82 ≤ R.locals) (hRc : cells + 1 ≤ R.cells) (hRs : slots + 6 ≤ R.slots) (hc : cells + 1 ≤ mc) (hs : slots + 6 ≤ ms) (hp : postx S) :
    W p l e R s m args below meth c H locs cells slots (vx_MQ below Qc (cs_X P A postx) args s mc ms A) (F0 m pc ls []) := by
  obtain ⟨hx, hb, hml, hown, hK, -, hlk⟩ := id hC
  refine nx_throw (own := "WatchHouse") (cls := nx_E) (Y := "java/lang/RuntimeException") (names := ["java/lang/Exception"]) (ik := 130) (ic := 134) (ix := 13) (rx := nx_rx) (text := tx) (sa := G (10 + i)) (A := A) hx hb hlx nx_x0 nx_x1 nx_x2 nx_x5 hown (by decide +kernel) (by decide +kernel) (by decide +kernel) (hK.word nx_k rfl) (hK.word nx_n rfl) (hO.2.2.2.2.2.1 i _ hi) (fun w hw => ?_) (fun w hw => ?_) hO.2.2.2.2.2.2.1 hO.2.2.2.2.2.2.2.1 hT.1 (hsz.trans hml.symm) d0 d3 d4 d6 d9 (fun x hx => (htb x hx).elim) (Nat.lt_of_succ_le hF) (by simpa using hL) hRc hRs hlk (fun t hW hz hk => ?_) hT.1.2.2 hc hs
  · obtain ⟨h1, h2⟩ := nx_in w hw
    rcases Bool.or_eq_true_iff.mp h2 with h3 | h3
    · exact hK.word h1 h3
    · exact va_Nw.use (hw_nest_ot h3) (hO.2.2.2.2.2.2.2.2.1 w h1 h3)
  · rcases List.mem_cons.mp hw with rfl | hw
    · rfl
    · rcases List.mem_cons.mp hw with rfl | hw
      · rfl
      · obtain ⟨h1, h2⟩ := nx_in w hw
        unfold vx_ot
        rcases Bool.or_eq_true_iff.mp h2 with h3 | h3
        · rw [h3]; simp
        · rw [hw_nest_ot h3]; simp
  · refine ⟨S, hp, ⟨rfl, fun a e9 h9 => (hT.2.1 a e9 h9).kept (hk a (hT.2.1 a e9 h9).lt), hT.2.2.1, hK.warm hW⟩, Nat.le_trans hT.1.1 hz, fun q h1 h2 => (hk q (Nat.lt_of_lt_of_le h1 hT.1.1)).trans (hT.1.2.1 q h1 h2)⟩
end CSX
/-- a method of the class that may throw -/
theorem cs_metx {l : Launch} {P : hw_G} {G : Nat → Nat} {S : cs_S} {sz : Nat} {y : MethodName} {cc : ByteArray} {nL mc ms : Nat} {ret : Option FieldType} {rm : Room} {Qc : Array Value → State → Outcome → State → Prop} {XC : String → State → State → Prop} {av : List Value} {own : String} (hy : plainName y.cls = true) (hcl : y.cls = own) (hlen : (lg_sl av).length ≤ nL)
    (body : ∀ (p : Program) (e : Env) (s : State) (m : MethodId) (below : List Frame) (meth : Method) (c : Code) (ls : Array Slot), rf_C P own p s m meth c cc nL ret → meth.name = y.name → cs_O G (cs_A S sz) s s.heap → (∀ x ∈ c.exceptionTable.toList, False) → cs_T P s (cs_A S sz) S s.heap [] → lv_has ls nL (lv_args 0 av) →
      W p l e rm s m av.toArray below meth c s.heap [] 0 0 (vx_MQ below Qc XC av.toArray s mc ms (cs_A S sz)) (F0 m 0 ls [])) : vx_Met l y [Cond.code y cc nL ret] rm (cs_Pc P G S sz av) Qc XC mc ms (cs_A S sz) := by
  refine vx_ofW (cc := cc) (maxL := nL) (ret := ret) hy rfl ?_
  intro p e s m args below meth c s₁ B hml htb hv
  obtain ⟨rfl, hsz, hat, hK, hO⟩ := hv
  have hl := lv_entry av (n := nL) hlen
  rw [lg_entry_eq]
  subst hsz
  exact body p e s m below meth c _ ⟨B.exec, B.bytes, hml, by rw [← hcl]; exact findClass_of_methodNamed B.named, hK, B.returns, B.notSynchronized⟩ (name_of_methodNamed B.named B.method).1 hO htb ⟨va_S.rf, hat, fun a e h1 h2 => Or.inl ⟨e, h1, h2⟩, fun q h => Or.inr h⟩ hl
