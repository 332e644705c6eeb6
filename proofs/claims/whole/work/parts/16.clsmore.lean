/-! ===== what each class's fields begin with; calls that make nothing ===== -/
theorem cs_df0 : ∀ k, defaultValue (cs_ty 0 k) = cs_dv (cs_ty 0 k) := by
  intro k
  show defaultValue (tyJx4a65c k) = cs_dv (tyJx4a65c k)
  unfold tyJx4a65c
  split <;> rfl
theorem cs_df1 : ∀ k, defaultValue (cs_ty 1 k) = cs_dv (cs_ty 1 k) := by
  intro k
  show defaultValue (tyX0 k) = cs_dv (tyX0 k)
  unfold tyX0
  split <;> rfl
theorem cs_df2 : ∀ k, defaultValue (cs_ty 2 k) = cs_dv (cs_ty 2 k) := by
  intro k
  show defaultValue (tyX1 k) = cs_dv (tyX1 k)
  unfold tyX1
  split <;> rfl
theorem cs_df3 : ∀ k, defaultValue (cs_ty 3 k) = cs_dv (cs_ty 3 k) := by
  intro k
  show defaultValue (tyX2 k) = cs_dv (tyX2 k)
  unfold tyX2
  split <;> rfl
theorem cs_df4 : ∀ k, defaultValue (cs_ty 4 k) = cs_dv (cs_ty 4 k) := by
  intro k
  show defaultValue (tyX3 k) = cs_dv (tyX3 k)
  unfold tyX3
  split <;> rfl
theorem cs_df5 : ∀ k, defaultValue (cs_ty 5 k) = cs_dv (cs_ty 5 k) := by
  intro k
  show defaultValue (tyX4 k) = cs_dv (tyX4 k)
  unfold tyX4
  split <;> rfl
theorem cs_df6 : ∀ k, defaultValue (cs_ty 6 k) = cs_dv (cs_ty 6 k) := by
  intro k
  show defaultValue (tyX5 k) = cs_dv (tyX5 k)
  unfold tyX5
  split <;> rfl
theorem cs_df7 : ∀ k, defaultValue (cs_ty 7 k) = cs_dv (cs_ty 7 k) := by
  intro k
  show defaultValue (tyX6 k) = cs_dv (tyX6 k)
  unfold tyX6
  split <;> rfl
theorem cs_df8 : ∀ k, defaultValue (cs_ty 8 k) = cs_dv (cs_ty 8 k) := by
  intro k
  show defaultValue (tyX7 k) = cs_dv (tyX7 k)
  unfold tyX7
  split <;> rfl
theorem cs_df9 : ∀ k, defaultValue (cs_ty 9 k) = cs_dv (cs_ty 9 k) := by
  intro k
  show defaultValue (tyX8 k) = cs_dv (tyX8 k)
  unfold tyX8
  split <;> rfl
theorem cs_df10 : ∀ k, defaultValue (cs_ty 10 k) = cs_dv (cs_ty 10 k) := by
  intro k
  show defaultValue (tyX9 k) = cs_dv (tyX9 k)
  unfold tyX9
  split <;> rfl
theorem cs_df11 : ∀ k, defaultValue (cs_ty 11 k) = cs_dv (cs_ty 11 k) := by
  intro k
  show defaultValue (tyX10 k) = cs_dv (tyX10 k)
  unfold tyX10
  split <;> rfl
theorem cs_df12 : ∀ k, defaultValue (cs_ty 12 k) = cs_dv (cs_ty 12 k) := by
  intro k
  show defaultValue (tyX11 k) = cs_dv (tyX11 k)
  unfold tyX11
  split <;> rfl
section CSZ
variable {p : Program} {l : Launch} {e : Env} {R : Room} {s : State} {m : MethodId} {args : Array Value} {below : List Frame} {meth : Method} {c : Code} {H : Heap} {locs : List Loc} {cells slots : Nat} {Q : State → Prop}
variable {cc : ByteArray} {pc : Nat} {ls : Array Slot} {rest st0 : List Value} {P : hw_G} {A : Nat → Prop} {S : cs_S} {G : Nat → Nat} {a : Array Value} {own : String} {index : Nat}
theorem cs_calli0 {post : Int32 → cs_S → Prop} (hr : va_Run p l e R s m args below meth c H locs cells slots 0 0 (F0 m pc ls st0) rest (cs_Qi P (cs_A S H.size) post a) (cs_A S H.size)) (hT : cs_T P s A S H locs)
    (kk : ∀ (r : Int32) (S1 : cs_S) (H1 : Heap) (locs1 : List Loc), post r S1 → cs_T P s A S1 H1 locs1 → W p l e R s m args below meth c H1 locs1 cells slots Q (F0 m (pc + 3) ls (.int r :: rest))) : W p l e R s m args below meth c H locs cells slots Q (F0 m pc ls st0) := cs_calli hr hT kk
theorem cs_calll0 {post : Int64 → cs_S → Prop} (hr : va_Run p l e R s m args below meth c H locs cells slots 0 0 (F0 m pc ls st0) rest (cs_Ql P (cs_A S H.size) post a) (cs_A S H.size)) (hT : cs_T P s A S H locs)
    (kk : ∀ (r : Int64) (S1 : cs_S) (H1 : Heap) (locs1 : List Loc), post r S1 → cs_T P s A S1 H1 locs1 → W p l e R s m args below meth c H1 locs1 cells slots Q (F0 m (pc + 3) ls (.long r :: rest))) : W p l e R s m args below meth c H locs cells slots Q (F0 m pc ls st0) := cs_calll hr hT kk
theorem cs_callr0 {post : Option Nat → cs_S → Prop} (hr : va_Run p l e R s m args below meth c H locs cells slots 0 0 (F0 m pc ls st0) rest (cs_Qr P (cs_A S H.size) post a) (cs_A S H.size)) (hT : cs_T P s A S H locs)
    (kk : ∀ (r : Option Nat) (S1 : cs_S) (H1 : Heap) (locs1 : List Loc), post r S1 → cs_T P s A S1 H1 locs1 → W p l e R s m args below meth c H1 locs1 cells slots Q (F0 m (pc + 3) ls (va_rf r :: rest))) : W p l e R s m args below meth c H locs cells slots Q (F0 m pc ls st0) := cs_callr hr hT kk
theorem cs_callv0 {post : cs_S → Prop} (hr : va_Run p l e R s m args below meth c H locs cells slots 0 0 (F0 m pc ls st0) rest (cs_Qv P (cs_A S H.size) post a) (cs_A S H.size)) (hT : cs_T P s A S H locs)
    (kk : ∀ (S1 : cs_S) (H1 : Heap) (locs1 : List Loc), post S1 → cs_T P s A S1 H1 locs1 → W p l e R s m args below meth c H1 locs1 cells slots Q (F0 m (pc + 3) ls rest)) : W p l e R s m args below meth c H locs cells slots Q (F0 m pc ls st0) := cs_callv hr hT kk
theorem cs_getsN {host : String} (hx : p.tables.exec = Jvm.exec) (hb : c.code = cc) (hO : cs_O G A s s.heap) (hT : cs_T P s A S H locs) (hown : s.vm.findClass own = some m.cls) (hlink : Cond.fieldLinkNest own index "WatchHouse" "NO_BYTES" "[I" host ∈ lw_tbl) (hdg : decode cc pc = .ok (.getstatic index, 3))
    (kk : W p l e R s m args below meth c H locs cells slots Q (F0 m (pc + 3) ls (.ref (G 0) :: rest))) : W p l e R s m args below meth c H locs cells slots Q (F0 m pc ls rest) := va_getsN hx hb hO.1 hT.1 hown (va_Nw.use rfl (hO.2.2.2.2.2.2.2.2.1 _ hlink rfl)) (fun _ h => h) hdg kk
end CSZ
theorem va_rf_cat (x : Option Nat) : (va_rf x).category = 1 := by cases x <;> rfl
theorem hw_flt {l : List (Nat × Value)} {i : Nat} (h : ∀ q ∈ l, q.1 + 1 = i → q.2.category = 1) : l.filter (fun q => !(q.1 == i) && !(q.1 + 1 == i && q.2.category == 2)) = l.filter (fun q => !(q.1 == i)) := by
  refine List.filter_congr (fun q hq => ?_)
  by_cases h1 : q.1 + 1 = i
  · simp [h q hq h1]
  · simp [h1]
theorem hw_flt2 {l : List (Nat × Value)} {i : Nat} (h : ∀ q ∈ l, q.1 + 1 = i → q.2.category = 1) : l.filter (fun q => !(q.1 == i) && (!(q.1 == i + 1) && !(q.1 + 1 == i && q.2.category == 2))) = l.filter (fun q => !(q.1 == i) && !(q.1 == i + 1)) := by
  refine List.filter_congr (fun q hq => ?_)
  by_cases h1 : q.1 + 1 = i
  · simp [h q hq h1]
  · have h2 : (q.1 + 1 == i) = false := by simpa using h1
    simp [h2]
