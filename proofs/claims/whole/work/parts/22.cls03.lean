/-! X6_open -/
abbrev rm_X6_open : Room := { frames := 1, cells := 0, slots := 0, locals := 24 }
def wp_X6_open (post : cs_S → Prop) (G : Nat → Nat) (S : cs_S) (o : Nat) (p1 : Option Nat) (p2 : Int32) : Prop := cs_k S o = 8 ∧ ∀ S14, S14 = cs_ur S 704 o p1 → ∃ b15, p1 = some b15 ∧ cs_k S14 b15 = 20 ∧ cs_k S14 o = 8 ∧ ∀ S18, S18 = cs_ui S14 705 o (if Int32.ofNat (cs_n S14 b15) < p2 then Int32.ofNat (cs_n S14 b15) else p2) → cs_k S18 o = 8 ∧ ∀ S20, S20 = cs_ui S18 706 o 0 → cs_k S20 o = 8 ∧ ∀ S22, S22 = cs_ui S20 700 o 0 → cs_k S22 o = 8 ∧ ∀ S24, S24 = cs_ui S22 701 o ((-1)) → post S24
set_option maxRecDepth 100000 in
set_option maxHeartbeats 4000000 in
theorem c_X6_open {l : Launch} {P : hw_G} {G : Nat → Nat} {S : cs_S} {sz : Nat} {o : Nat} {p1 : Option Nat} {p2 : Int32} {post : cs_S → Prop} (h : wp_X6_open post G S o p1 p2) : Met l yX6_open [Cond.code yX6_open cX6_open 3 none] rm_X6_open (cs_Pc P G S sz [.ref o, va_rf p1, .int p2]) (cs_Qv P (cs_A S sz) post) 0 0 (cs_A S sz) := by
  refine cs_met (by decide) rfl (by cases p1 <;> exact Nat.le_of_ble_eq_true rfl) ?_
  intro p e s m below meth c ls hC hin hO hT hl
  obtain ⟨hx, hb, hml, hown, hK, -, -⟩ := id hC
  replace hl : lv_has ls 3 [(0, .ref o), (1, va_rf p1), (2, .int p2)] := by cases p1 <;> exact hl
  refine lv_aload_n (x := o) hx hb dX6_open_0 rfl (lv_at hl 0 rfl) ?_
  refine hw_aload_n (x := p1) hx hb dX6_open_1 rfl (lv_at hl 1 rfl) ?_
  obtain ⟨hk13_, h⟩ := h
  refine cs_putr (x := p1) hx hb hK hT hown 7 hk13_ (by decide) rfl 4 (by decide) kfX6_18 rfl (tyX6_ok 4 (by decide)) rfl 704 rfl dX6_open_2 (fun H locs hT_ => ?_)
  replace hT := hT_
  obtain ⟨S14, eS14⟩ : ∃ z, z = cs_ur S 704 o p1 := ⟨_, rfl⟩
  rw [← eS14] at hT
  replace h := h S14 eS14
  refine lv_aload_n (x := o) hx hb dX6_open_5 rfl (lv_at hl 0 rfl) ?_
  refine lv_iload_n hx hb dX6_open_6 rfl (lv_at hl 2 rfl) ?_
  refine hw_aload_n (x := p1) hx hb dX6_open_7 rfl (lv_at hl 1 rfl) ?_
  obtain ⟨b15, rfl, h⟩ := h
  obtain ⟨hk16_, h⟩ := h
  refine cs_alen hx hb hK hT 20 hk16_ (by decide) (by decide) dX6_open_8 ?_
  refine va_mmin hx hb (hml.trans hl.1.symm) hown (hK.word klX6_25m rfl) (hK.word ki_mmin rfl) (hK.word kn_J9 rfl) (hK.word kc_mmin rfl) (Nat.le_of_ble_eq_true rfl) (hw_catN (Nat.le_of_ble_eq_true rfl) (Nat.le_of_ble_eq_true rfl)) (Nat.le_refl _) (Nat.le_refl _) dX6_open_9 ?_
  obtain ⟨hk17_, h⟩ := h
  refine cs_puti (x := (if Int32.ofNat (cs_n S14 b15) < p2 then Int32.ofNat (cs_n S14 b15) else p2)) hx hb hK hT hown 7 hk17_ (by decide) rfl 5 (by decide) kfX6_31 rfl (tyX6_ok 5 (by decide)) rfl 705 rfl dX6_open_12 (fun H locs hT_ => ?_)
  replace hT := hT_
  obtain ⟨S18, eS18⟩ : ∃ z, z = cs_ui S14 705 o (if Int32.ofNat (cs_n S14 b15) < p2 then Int32.ofNat (cs_n S14 b15) else p2) := ⟨_, rfl⟩
  rw [← eS18] at hT
  replace h := h S18 eS18
  refine lv_aload_n (x := o) hx hb dX6_open_15 rfl (lv_at hl 0 rfl) ?_
  refine lv_iconst (v := 0) hx hb dX6_open_16 (by decide) ?_
  obtain ⟨hk19_, h⟩ := h
  refine cs_puti (x := 0) hx hb hK hT hown 7 hk19_ (by decide) rfl 6 (by decide) kfX6_34 rfl (tyX6_ok 6 (by decide)) rfl 706 rfl dX6_open_17 (fun H locs hT_ => ?_)
  replace hT := hT_
  obtain ⟨S20, eS20⟩ : ∃ z, z = cs_ui S18 706 o 0 := ⟨_, rfl⟩
  rw [← eS20] at hT
  replace h := h S20 eS20
  refine lv_aload_n (x := o) hx hb dX6_open_20 rfl (lv_at hl 0 rfl) ?_
  refine lv_iconst (v := 0) hx hb dX6_open_21 (by decide) ?_
  obtain ⟨hk21_, h⟩ := h
  refine cs_puti (x := 0) hx hb hK hT hown 7 hk21_ (by decide) rfl 0 (by decide) kfX6_37 rfl (tyX6_ok 0 (by decide)) rfl 700 rfl dX6_open_22 (fun H locs hT_ => ?_)
  replace hT := hT_
  obtain ⟨S22, eS22⟩ : ∃ z, z = cs_ui S20 700 o 0 := ⟨_, rfl⟩
  rw [← eS22] at hT
  replace h := h S22 eS22
  refine lv_aload_n (x := o) hx hb dX6_open_25 rfl (lv_at hl 0 rfl) ?_
  refine lv_iconst (v := (-1)) hx hb dX6_open_26 (by decide) ?_
  obtain ⟨hk23_, h⟩ := h
  refine cs_puti (x := ((-1))) hx hb hK hT hown 7 hk23_ (by decide) rfl 1 (by decide) kfX6_21 rfl (tyX6_ok 1 (by decide)) rfl 701 rfl dX6_open_27 (fun H locs hT_ => ?_)
  replace hT := hT_
  obtain ⟨S24, eS24⟩ : ∃ z, z = cs_ui S22 701 o ((-1)) := ⟨_, rfl⟩
  rw [← eS24] at hT
  replace h := h S24 eS24
  exact cs_vret hC hT h dX6_open_30 (Nat.le_refl _) (Nat.le_refl _)
/-! X6_more -/
abbrev rm_X6_more : Room := { frames := 0, cells := 0, slots := 0, locals := 0 }
def w_X6_more_23 (post : Int32 → cs_S → Prop) (G : Nat → Nat) (S : cs_S) (y0 : Int32) : Prop := narrow .boolean (.int y0) = .int y0 ∧ post y0 S
section
variable {p : Program} {l : Launch} {e : Env} {s : State} {m : MethodId} {args : Array Value} {below : List Frame} {meth : Method} {c : Code} {P : hw_G} {G : Nat → Nat} {A : Nat → Prop}
set_option maxRecDepth 100000 in
set_option maxHeartbeats 4000000 in
theorem t_X6_more_23 {post : Int32 → cs_S → Prop} (hC : rf_C P RX6 p s m meth c cX6_more 1 (some .boolean)) (hin : meth.name = yX6_more.name) (hO : cs_O G A s s.heap) (S : cs_S) (y0 : Int32) (H : Heap) (locs : List Loc) (ls : Array Slot) (h : w_X6_more_23 post G S y0) (hT : cs_T P s A S H locs) (hl : lv_has ls 1 []) : W p l e rm_X6_more s m args below meth c H locs 0 0 (MQ below (cs_Qi P A post) args s 0 0 A) (F0 m 23 ls [.int y0]) := by
  obtain ⟨hx, hb, hml, hown, hK, -, -⟩ := id hC
  exact cs_zret hC hT h.1 h.2 dX6_more_23 (Nat.le_refl _) (Nat.le_refl _)
end
def w_X6_more_22 (post : Int32 → cs_S → Prop) (G : Nat → Nat) (S : cs_S)  : Prop := w_X6_more_23 post G S 0
section
variable {p : Program} {l : Launch} {e : Env} {s : State} {m : MethodId} {args : Array Value} {below : List Frame} {meth : Method} {c : Code} {P : hw_G} {G : Nat → Nat} {A : Nat → Prop}
set_option maxRecDepth 100000 in
set_option maxHeartbeats 4000000 in
theorem t_X6_more_22 {post : Int32 → cs_S → Prop} (hC : rf_C P RX6 p s m meth c cX6_more 1 (some .boolean)) (hin : meth.name = yX6_more.name) (hO : cs_O G A s s.heap) (S : cs_S)  (H : Heap) (locs : List Loc) (ls : Array Slot) (h : w_X6_more_22 post G S ) (hT : cs_T P s A S H locs) (hl : lv_has ls 1 []) : W p l e rm_X6_more s m args below meth c H locs 0 0 (MQ below (cs_Qi P A post) args s 0 0 A) (F0 m 22 ls []) := by
  obtain ⟨hx, hb, hml, hown, hK, -, -⟩ := id hC
  refine lv_iconst (v := 0) hx hb dX6_more_22 (by decide) ?_
  exact t_X6_more_23 hC hin hO S 0 _ _ _ h hT (lv_sub hl [] rfl)
end
def wp_X6_more (post : Int32 → cs_S → Prop) (G : Nat → Nat) (S : cs_S) (o : Nat) : Prop := cs_k S o = 8 ∧ (¬ (cs_i S 700 o) = 0 → w_X6_more_22 post G S) ∧ ((cs_i S 700 o) = 0 → ((cs_i S 705 o) ≤ (cs_i S 706 o) → w_X6_more_22 post G S) ∧ (¬ (cs_i S 705 o) ≤ (cs_i S 706 o) → w_X6_more_23 post G S 1))
set_option maxRecDepth 100000 in
set_option maxHeartbeats 4000000 in
theorem c_X6_more {l : Launch} {P : hw_G} {G : Nat → Nat} {S : cs_S} {sz : Nat} {o : Nat} {post : Int32 → cs_S → Prop} (h : wp_X6_more post G S o) : Met l yX6_more [Cond.code yX6_more cX6_more 1 (some .boolean)] rm_X6_more (cs_Pc P G S sz [.ref o]) (cs_Qi P (cs_A S sz) post) 0 0 (cs_A S sz) := by
  refine cs_met (by decide) rfl (Nat.le_of_ble_eq_true rfl) ?_
  intro p e s m below meth c ls hC hin hO hT hl
  obtain ⟨hx, hb, hml, hown, hK, -, -⟩ := id hC
  replace hl : lv_has ls 1 [(0, .ref o)] := hl
  refine lv_aload_n (x := o) hx hb dX6_more_0 rfl (lv_at hl 0 rfl) ?_
  obtain ⟨hk2_, h⟩ := h
  refine cs_get hx hb hK hT hown 7 hk2_ (by decide) rfl 0 (by decide) kfX6_37 (v := .int (cs_i S 700 o)) rfl dX6_more_1 ?_
  refine lv_if_ne (tgt := 22) hx hb dX6_more_4 (by decide) (fun hc => ?_) (fun hc => ?_)
  · replace h := h.1 hc
    exact t_X6_more_22 hC hin hO S _ _ _ h hT (lv_sub hl [] rfl)
  · replace h := h.2 hc
    refine lv_aload_n (x := o) hx hb dX6_more_7 rfl (lv_at hl 0 rfl) ?_
    refine cs_get hx hb hK hT hown 7 hk2_ (by decide) rfl 6 (by decide) kfX6_34 (v := .int (cs_i S 706 o)) rfl dX6_more_8 ?_
    refine lv_aload_n (x := o) hx hb dX6_more_11 rfl (lv_at hl 0 rfl) ?_
    refine cs_get hx hb hK hT hown 7 hk2_ (by decide) rfl 5 (by decide) kfX6_31 (v := .int (cs_i S 705 o)) rfl dX6_more_12 ?_
    refine lv_icmp_ge (tgt := 22) hx hb dX6_more_15 (by decide) (fun hc => ?_) (fun hc => ?_)
    · replace h := h.1 hc
      exact t_X6_more_22 hC hin hO S _ _ _ h hT (lv_sub hl [] rfl)
    · replace h := h.2 hc
      refine lv_iconst (v := 1) hx hb dX6_more_18 (by decide) ?_
      refine lv_goto (tgt := 23) hx hb dX6_more_19 (by decide) ?_
      exact t_X6_more_23 hC hin hO S 1 _ _ _ h hT (lv_sub hl [] rfl)
/-! X6_fail -/
abbrev rm_X6_fail : Room := { frames := 0, cells := 0, slots := 0, locals := 0 }
def w_X6_fail_17 (post : cs_S → Prop) (G : Nat → Nat) (S : cs_S)  : Prop := post S
section
variable {p : Program} {l : Launch} {e : Env} {s : State} {m : MethodId} {args : Array Value} {below : List Frame} {meth : Method} {c : Code} {P : hw_G} {G : Nat → Nat} {A : Nat → Prop}
set_option maxRecDepth 100000 in
set_option maxHeartbeats 4000000 in
theorem t_X6_fail_17 {post : cs_S → Prop} (hC : rf_C P RX6 p s m meth c cX6_fail 3 none) (hin : meth.name = yX6_fail.name) (hO : cs_O G A s s.heap) (S : cs_S)  (H : Heap) (locs : List Loc) (ls : Array Slot) (h : w_X6_fail_17 post G S ) (hT : cs_T P s A S H locs) (hl : lv_has ls 3 []) : W p l e rm_X6_fail s m args below meth c H locs 0 0 (MQ below (cs_Qv P A post) args s 0 0 A) (F0 m 17 ls []) := by
  obtain ⟨hx, hb, hml, hown, hK, -, -⟩ := id hC
  exact cs_vret hC hT h dX6_fail_17 (Nat.le_refl _) (Nat.le_refl _)
end
def wp_X6_fail (post : cs_S → Prop) (G : Nat → Nat) (S : cs_S) (o : Nat) (p1 : Int32) (p2 : Int32) : Prop := cs_k S o = 8 ∧ (¬ (cs_i S 700 o) = 0 → w_X6_fail_17 post G S) ∧ ((cs_i S 700 o) = 0 → ∀ S6, S6 = cs_ui S 700 o p1 → cs_k S6 o = 8 ∧ ∀ S8, S8 = cs_ui S6 701 o p2 → w_X6_fail_17 post G S8)
set_option maxRecDepth 100000 in
set_option maxHeartbeats 4000000 in
theorem c_X6_fail {l : Launch} {P : hw_G} {G : Nat → Nat} {S : cs_S} {sz : Nat} {o : Nat} {p1 : Int32} {p2 : Int32} {post : cs_S → Prop} (h : wp_X6_fail post G S o p1 p2) : Met l yX6_fail [Cond.code yX6_fail cX6_fail 3 none] rm_X6_fail (cs_Pc P G S sz [.ref o, .int p1, .int p2]) (cs_Qv P (cs_A S sz) post) 0 0 (cs_A S sz) := by
  refine cs_met (by decide) rfl (Nat.le_of_ble_eq_true rfl) ?_
  intro p e s m below meth c ls hC hin hO hT hl
  obtain ⟨hx, hb, hml, hown, hK, -, -⟩ := id hC
  replace hl : lv_has ls 3 [(0, .ref o), (1, .int p1), (2, .int p2)] := hl
  refine lv_aload_n (x := o) hx hb dX6_fail_0 rfl (lv_at hl 0 rfl) ?_
  obtain ⟨hk5_, h⟩ := h
  refine cs_get hx hb hK hT hown 7 hk5_ (by decide) rfl 0 (by decide) kfX6_37 (v := .int (cs_i S 700 o)) rfl dX6_fail_1 ?_
  refine lv_if_ne (tgt := 17) hx hb dX6_fail_4 (by decide) (fun hc => ?_) (fun hc => ?_)
  · replace h := h.1 hc
    exact t_X6_fail_17 hC hin hO S _ _ _ h hT (lv_sub hl [] rfl)
  · replace h := h.2 hc
    refine lv_aload_n (x := o) hx hb dX6_fail_7 rfl (lv_at hl 0 rfl) ?_
    refine lv_iload_n hx hb dX6_fail_8 rfl (lv_at hl 1 rfl) ?_
    refine cs_puti (x := p1) hx hb hK hT hown 7 hk5_ (by decide) rfl 0 (by decide) kfX6_37 rfl (tyX6_ok 0 (by decide)) rfl 700 rfl dX6_fail_9 (fun H locs hT_ => ?_)
    replace hT := hT_
    obtain ⟨S6, eS6⟩ : ∃ z, z = cs_ui S 700 o p1 := ⟨_, rfl⟩
    rw [← eS6] at hT
    replace h := h S6 eS6
    refine lv_aload_n (x := o) hx hb dX6_fail_12 rfl (lv_at hl 0 rfl) ?_
    refine lv_iload_n hx hb dX6_fail_13 rfl (lv_at hl 2 rfl) ?_
    obtain ⟨hk7_, h⟩ := h
    refine cs_puti (x := p2) hx hb hK hT hown 7 hk7_ (by decide) rfl 1 (by decide) kfX6_21 rfl (tyX6_ok 1 (by decide)) rfl 701 rfl dX6_fail_14 (fun H locs hT_ => ?_)
    replace hT := hT_
    obtain ⟨S8, eS8⟩ : ∃ z, z = cs_ui S6 701 o p2 := ⟨_, rfl⟩
    rw [← eS8] at hT
    replace h := h S8 eS8
    exact t_X6_fail_17 hC hin hO S8 _ _ _ h hT (lv_sub hl [] rfl)
/-! X6_nextByte -/
abbrev rm_X6_nextByte : Room := { frames := 1, cells := 0, slots := 0, locals := 22 }
def w_X6_nextByte_53 (post : Int32 → cs_S → Prop) (G : Nat → Nat) (S : cs_S) (x1 : Int32) : Prop := post x1 S
section
variable {p : Program} {l : Launch} {e : Env} {s : State} {m : MethodId} {args : Array Value} {below : List Frame} {meth : Method} {c : Code} {P : hw_G} {G : Nat → Nat} {A : Nat → Prop}
set_option maxRecDepth 100000 in
set_option maxHeartbeats 4000000 in
theorem t_X6_nextByte_53 {post : Int32 → cs_S → Prop} (hC : rf_C P RX6 p s m meth c cX6_nextByte 4 (some .int)) (hin : meth.name = yX6_nextByte.name) (hO : cs_O G A s s.heap) (S : cs_S) (x1 : Int32) (H : Heap) (locs : List Loc) (ls : Array Slot) (h : w_X6_nextByte_53 post G S x1) (hT : cs_T P s A S H locs) (hl : lv_has ls 4 [(1, .int x1)]) : W p l e rm_X6_nextByte s m args below meth c H locs 0 0 (MQ below (cs_Qi P A post) args s 0 0 A) (F0 m 53 ls []) := by
  obtain ⟨hx, hb, hml, hown, hK, -, -⟩ := id hC
  refine lv_iload_n hx hb dX6_nextByte_53 rfl (lv_at hl 0 rfl) ?_
  exact cs_iret hC hT h dX6_nextByte_54 (Nat.le_refl _) (Nat.le_refl _)
end
def w_X6_nextByte_75 (post : Int32 → cs_S → Prop) (G : Nat → Nat) (S : cs_S) (x0 : Nat) (x1 : Int32) : Prop := cs_k S x0 = 8 ∧ wp_X6_fail (fun S12 => post x1 S12) G S x0 2 (cs_i S 706 x0)
section
variable {p : Program} {l : Launch} {e : Env} {s : State} {m : MethodId} {args : Array Value} {below : List Frame} {meth : Method} {c : Code} {P : hw_G} {G : Nat → Nat} {A : Nat → Prop}
set_option maxRecDepth 100000 in
set_option maxHeartbeats 4000000 in
theorem t_X6_nextByte_75 {post : Int32 → cs_S → Prop} (hC : rf_C P RX6 p s m meth c cX6_nextByte 4 (some .int)) (hin : meth.name = yX6_nextByte.name) (hO : cs_O G A s s.heap) (S : cs_S) (x0 : Nat) (x1 : Int32) (H : Heap) (locs : List Loc) (ls : Array Slot) (h : w_X6_nextByte_75 post G S x0 x1) (hT : cs_T P s A S H locs) (hl : lv_has ls 4 [(0, .ref x0), (1, .int x1)]) : W p l e rm_X6_nextByte s m args below meth c H locs 0 0 (MQ below (cs_Qi P A post) args s 0 0 A) (F0 m 75 ls []) := by
  obtain ⟨hx, hb, hml, hown, hK, -, -⟩ := id hC
  refine lv_aload_n (x := x0) hx hb dX6_nextByte_75 rfl (lv_at hl 0 rfl) ?_
  refine lv_iconst (v := 2) hx hb dX6_nextByte_76 (by decide) ?_
  refine lv_aload_n (x := x0) hx hb dX6_nextByte_77 rfl (lv_at hl 0 rfl) ?_
  obtain ⟨hk11_, h⟩ := h
  refine cs_get hx hb hK hT hown 7 hk11_ (by decide) rfl 6 (by decide) kfX6_34 (v := .int (cs_i S 706 x0)) rfl dX6_nextByte_78 ?_
  refine cs_callv0 (cs_runV hx hb hml hown hK hO hT 7 hk11_ (by decide) rfl (c_X6_fail h) rfl rfl klX6_40 ki_X6_fail ks_X6_fail kn_X6 kc_X6_fail 2 ⟨rfl, by decide, by decide, by decide +kernel⟩ ⟨by decide, by decide⟩ rfl hl.1 rfl (hw_cat8 (Nat.le_of_ble_eq_true rfl)) ⟨(Nat.le_refl _), (Nat.le_refl _)⟩ dX6_nextByte_81) hT (fun S12 H locs h_ hT_ => ?_)
  replace h := h_
  replace hT := hT_
  refine lv_iload_n hx hb dX6_nextByte_84 rfl (lv_at hl 1 rfl) ?_
  exact cs_iret hC hT h dX6_nextByte_85 (Nat.le_refl _) (Nat.le_refl _)
end
def w_X6_nextByte_27 (post : Int32 → cs_S → Prop) (G : Nat → Nat) (S : cs_S) (x0 : Nat) (x1 : Int32) (x2 : Int32) : Prop := cs_k S x0 = 8 ∧ (¬ (cs_i S 700 x0) = 0 → w_X6_nextByte_53 post G S x1) ∧ ((cs_i S 700 x0) = 0 → ((cs_i S 706 x0) < 0 → w_X6_nextByte_53 post G S x1) ∧ (¬ (cs_i S 706 x0) < 0 → ∀ r14, r14 = cs_r S 704 x0 → ∃ b15, r14 = some b15 ∧ cs_k S b15 = 20 ∧ ((cs_i S 706 x0) < (Int32.ofNat (cs_n S b15)) → ∀ r17, r17 = cs_r S 704 x0 → ∃ b18, r17 = some b18 ∧ cs_k S b18 = 20 ∧ vp_in (cs_i S 706 x0) (cs_n S b18) ∧ ((cs_ai S b18 (cs_i S 706 x0).toNatClampNeg) < x1 → w_X6_nextByte_75 post G S x0 x1) ∧ (¬ (cs_ai S b18 (cs_i S 706 x0).toNatClampNeg) < x1 → ((cs_ai S b18 (cs_i S 706 x0).toNatClampNeg) ≤ x2 → ∀ S20, S20 = cs_ui S 706 x0 ((cs_i S 706 x0) + 1) → post (cs_ai S b18 (cs_i S 706 x0).toNatClampNeg) S20) ∧ (¬ (cs_ai S b18 (cs_i S 706 x0).toNatClampNeg) ≤ x2 → w_X6_nextByte_75 post G S x0 x1))) ∧ (¬ (cs_i S 706 x0) < (Int32.ofNat (cs_n S b15)) → w_X6_nextByte_53 post G S x1)))
section
variable {p : Program} {l : Launch} {e : Env} {s : State} {m : MethodId} {args : Array Value} {below : List Frame} {meth : Method} {c : Code} {P : hw_G} {G : Nat → Nat} {A : Nat → Prop}
set_option maxRecDepth 100000 in
set_option maxHeartbeats 4000000 in
theorem t_X6_nextByte_27 {post : Int32 → cs_S → Prop} (hC : rf_C P RX6 p s m meth c cX6_nextByte 4 (some .int)) (hin : meth.name = yX6_nextByte.name) (hO : cs_O G A s s.heap) (S : cs_S) (x0 : Nat) (x1 : Int32) (x2 : Int32) (H : Heap) (locs : List Loc) (ls : Array Slot) (h : w_X6_nextByte_27 post G S x0 x1 x2) (hT : cs_T P s A S H locs) (hl : lv_has ls 4 [(0, .ref x0), (1, .int x1), (2, .int x2)]) : W p l e rm_X6_nextByte s m args below meth c H locs 0 0 (MQ below (cs_Qi P A post) args s 0 0 A) (F0 m 27 ls []) := by
  obtain ⟨hx, hb, hml, hown, hK, -, -⟩ := id hC
  refine lv_aload_n (x := x0) hx hb dX6_nextByte_27 rfl (lv_at hl 0 rfl) ?_
  obtain ⟨hk13_, h⟩ := h
  refine cs_get hx hb hK hT hown 7 hk13_ (by decide) rfl 0 (by decide) kfX6_37 (v := .int (cs_i S 700 x0)) rfl dX6_nextByte_28 ?_
  refine lv_if_ne (tgt := 53) hx hb dX6_nextByte_31 (by decide) (fun hc => ?_) (fun hc => ?_)
  · replace h := h.1 hc
    exact t_X6_nextByte_53 hC hin hO S x1 _ _ _ h hT (lv_sub hl [1] rfl)
  · replace h := h.2 hc
    refine lv_aload_n (x := x0) hx hb dX6_nextByte_34 rfl (lv_at hl 0 rfl) ?_
    refine cs_get hx hb hK hT hown 7 hk13_ (by decide) rfl 6 (by decide) kfX6_34 (v := .int (cs_i S 706 x0)) rfl dX6_nextByte_35 ?_
    refine lv_if_lt (tgt := 53) hx hb dX6_nextByte_38 (by decide) (fun hc => ?_) (fun hc => ?_)
    · replace h := h.1 hc
      exact t_X6_nextByte_53 hC hin hO S x1 _ _ _ h hT (lv_sub hl [1] rfl)
    · replace h := h.2 hc
      refine lv_aload_n (x := x0) hx hb dX6_nextByte_41 rfl (lv_at hl 0 rfl) ?_
      refine cs_get hx hb hK hT hown 7 hk13_ (by decide) rfl 6 (by decide) kfX6_34 (v := .int (cs_i S 706 x0)) rfl dX6_nextByte_42 ?_
      refine lv_aload_n (x := x0) hx hb dX6_nextByte_45 rfl (lv_at hl 0 rfl) ?_
      refine cs_get hx hb hK hT hown 7 hk13_ (by decide) rfl 4 (by decide) kfX6_18 (v := va_rf (cs_r S 704 x0)) rfl dX6_nextByte_46 ?_
      refine hw_topr (fun r14 er14 => ?_)
      replace h := h r14 er14
      obtain ⟨b15, rfl, h⟩ := h
      obtain ⟨hk16_, h⟩ := h
      refine cs_alen hx hb hK hT 20 hk16_ (by decide) (by decide) dX6_nextByte_49 ?_
      refine lv_icmp_lt (tgt := 55) hx hb dX6_nextByte_50 (by decide) (fun hc => ?_) (fun hc => ?_)
      · replace h := h.1 hc
        refine lv_aload_n (x := x0) hx hb dX6_nextByte_55 rfl (lv_at hl 0 rfl) ?_
        refine cs_get hx hb hK hT hown 7 hk13_ (by decide) rfl 4 (by decide) kfX6_18 (v := va_rf (cs_r S 704 x0)) rfl dX6_nextByte_56 ?_
        refine hw_topr (fun r17 er17 => ?_)
        replace h := h r17 er17
        refine lv_aload_n (x := x0) hx hb dX6_nextByte_59 rfl (lv_at hl 0 rfl) ?_
        refine cs_get hx hb hK hT hown 7 hk13_ (by decide) rfl 6 (by decide) kfX6_34 (v := .int (cs_i S 706 x0)) rfl dX6_nextByte_60 ?_
        obtain ⟨b18, rfl, h⟩ := h
        obtain ⟨hk19_, h⟩ := h
        obtain ⟨hi, h⟩ := h
        refine cs_iald hx hb hK hT hk19_ hi dX6_nextByte_63 ?_
        refine lv_istore_n (lv' := [(3, _), (0, _), (1, _), (2, _)]) hx hb dX6_nextByte_64 rfl hl (by decide) rfl (fun ls hl_ => ?_)
        replace hl := hl_
        refine lv_iload_n hx hb dX6_nextByte_65 rfl (lv_at hl 0 rfl) ?_
        refine lv_iload_n hx hb dX6_nextByte_66 rfl (lv_at hl 2 rfl) ?_
        refine lv_icmp_lt (tgt := 75) hx hb dX6_nextByte_67 (by decide) (fun hc => ?_) (fun hc => ?_)
        · replace h := h.1 hc
          exact t_X6_nextByte_75 hC hin hO S x0 x1 _ _ _ h hT (lv_sub hl [1, 2] rfl)
        · replace h := h.2 hc
          refine lv_iload_n hx hb dX6_nextByte_70 rfl (lv_at hl 0 rfl) ?_
          refine lv_iload_n hx hb dX6_nextByte_71 rfl (lv_at hl 3 rfl) ?_
          refine lv_icmp_le (tgt := 86) hx hb dX6_nextByte_72 (by decide) (fun hc => ?_) (fun hc => ?_)
          · replace h := h.1 hc
            refine lv_aload_n (x := x0) hx hb dX6_nextByte_86 rfl (lv_at hl 1 rfl) ?_
            refine lv_dup hx hb dX6_nextByte_87 rfl ?_
            refine cs_get hx hb hK hT hown 7 hk13_ (by decide) rfl 6 (by decide) kfX6_34 (v := .int (cs_i S 706 x0)) rfl dX6_nextByte_88 ?_
            refine lv_iconst (v := 1) hx hb dX6_nextByte_91 (by decide) ?_
            refine lv_iadd hx hb dX6_nextByte_92 ?_
            refine cs_puti (x := ((cs_i S 706 x0) + 1)) hx hb hK hT hown 7 hk13_ (by decide) rfl 6 (by decide) kfX6_34 rfl (tyX6_ok 6 (by decide)) rfl 706 rfl dX6_nextByte_93 (fun H locs hT_ => ?_)
            replace hT := hT_
            obtain ⟨S20, eS20⟩ : ∃ z, z = cs_ui S 706 x0 ((cs_i S 706 x0) + 1) := ⟨_, rfl⟩
            rw [← eS20] at hT
            replace h := h S20 eS20
            refine lv_iload_n hx hb dX6_nextByte_96 rfl (lv_at hl 0 rfl) ?_
            exact cs_iret hC hT h dX6_nextByte_97 (Nat.le_refl _) (Nat.le_refl _)
          · replace h := h.2 hc
            exact t_X6_nextByte_75 hC hin hO S x0 x1 _ _ _ h hT (lv_sub hl [1, 2] rfl)
      · replace h := h.2 hc
        exact t_X6_nextByte_53 hC hin hO S x1 _ _ _ h hT (lv_sub hl [1] rfl)
end
def wp_X6_nextByte (post : Int32 → cs_S → Prop) (G : Nat → Nat) (S : cs_S) (o : Nat) (p1 : Int32) (p2 : Int32) : Prop := cs_k S o = 8 ∧ (¬ (cs_i S 700 o) = 0 → w_X6_nextByte_27 post G S o p1 p2) ∧ ((cs_i S 700 o) = 0 → ((cs_i S 706 o) < (cs_i S 705 o) → w_X6_nextByte_27 post G S o p1 p2) ∧ (¬ (cs_i S 706 o) < (cs_i S 705 o) → wp_X6_fail (fun S22 => w_X6_nextByte_27 post G S22 o p1 p2) G S o 1 (cs_i S 705 o)))
set_option maxRecDepth 100000 in
set_option maxHeartbeats 4000000 in
theorem c_X6_nextByte {l : Launch} {P : hw_G} {G : Nat → Nat} {S : cs_S} {sz : Nat} {o : Nat} {p1 : Int32} {p2 : Int32} {post : Int32 → cs_S → Prop} (h : wp_X6_nextByte post G S o p1 p2) : Met l yX6_nextByte [Cond.code yX6_nextByte cX6_nextByte 4 (some .int)] rm_X6_nextByte (cs_Pc P G S sz [.ref o, .int p1, .int p2]) (cs_Qi P (cs_A S sz) post) 0 0 (cs_A S sz) := by
  refine cs_met (by decide) rfl (Nat.le_of_ble_eq_true rfl) ?_
  intro p e s m below meth c ls hC hin hO hT hl
  obtain ⟨hx, hb, hml, hown, hK, -, -⟩ := id hC
  replace hl : lv_has ls 4 [(0, .ref o), (1, .int p1), (2, .int p2)] := hl
  refine lv_aload_n (x := o) hx hb dX6_nextByte_0 rfl (lv_at hl 0 rfl) ?_
  obtain ⟨hk21_, h⟩ := h
  refine cs_get hx hb hK hT hown 7 hk21_ (by decide) rfl 0 (by decide) kfX6_37 (v := .int (cs_i S 700 o)) rfl dX6_nextByte_1 ?_
  refine lv_if_ne (tgt := 27) hx hb dX6_nextByte_4 (by decide) (fun hc => ?_) (fun hc => ?_)
  · replace h := h.1 hc
    exact t_X6_nextByte_27 hC hin hO S o p1 p2 _ _ _ h hT (lv_sub hl [0, 1, 2] rfl)
  · replace h := h.2 hc
    refine lv_aload_n (x := o) hx hb dX6_nextByte_7 rfl (lv_at hl 0 rfl) ?_
    refine cs_get hx hb hK hT hown 7 hk21_ (by decide) rfl 6 (by decide) kfX6_34 (v := .int (cs_i S 706 o)) rfl dX6_nextByte_8 ?_
    refine lv_aload_n (x := o) hx hb dX6_nextByte_11 rfl (lv_at hl 0 rfl) ?_
    refine cs_get hx hb hK hT hown 7 hk21_ (by decide) rfl 5 (by decide) kfX6_31 (v := .int (cs_i S 705 o)) rfl dX6_nextByte_12 ?_
    refine lv_icmp_lt (tgt := 27) hx hb dX6_nextByte_15 (by decide) (fun hc => ?_) (fun hc => ?_)
    · replace h := h.1 hc
      exact t_X6_nextByte_27 hC hin hO S o p1 p2 _ _ _ h hT (lv_sub hl [0, 1, 2] rfl)
    · replace h := h.2 hc
      refine lv_aload_n (x := o) hx hb dX6_nextByte_18 rfl (lv_at hl 0 rfl) ?_
      refine lv_iconst (v := 1) hx hb dX6_nextByte_19 (by decide) ?_
      refine lv_aload_n (x := o) hx hb dX6_nextByte_20 rfl (lv_at hl 0 rfl) ?_
      refine cs_get hx hb hK hT hown 7 hk21_ (by decide) rfl 5 (by decide) kfX6_31 (v := .int (cs_i S 705 o)) rfl dX6_nextByte_21 ?_
      refine cs_callv0 (cs_runV hx hb hml hown hK hO hT 7 hk21_ (by decide) rfl (c_X6_fail h) rfl rfl klX6_40 ki_X6_fail ks_X6_fail kn_X6 kc_X6_fail 2 ⟨rfl, by decide, by decide, by decide +kernel⟩ ⟨by decide, by decide⟩ rfl hl.1 rfl (hw_cat8 (Nat.le_of_ble_eq_true rfl)) ⟨(Nat.le_refl _), (Nat.le_refl _)⟩ dX6_nextByte_24) hT (fun S22 H locs h_ hT_ => ?_)
      replace h := h_
      replace hT := hT_
      exact t_X6_nextByte_27 hC hin hO S22 o p1 p2 _ _ _ h hT (lv_sub hl [0, 1, 2] rfl)
/-! X6_readUnsigned -/
abbrev rm_X6_readUnsigned : Room := { frames := 2, cells := 0, slots := 0, locals := 45 }
def w_X6_readUnsigned_87 (post : Int64 → cs_S → Prop) (G : Nat → Nat) (S : cs_S) (x2 : Int64) : Prop := post x2 S
section
variable {p : Program} {l : Launch} {e : Env} {s : State} {m : MethodId} {args : Array Value} {below : List Frame} {meth : Method} {c : Code} {P : hw_G} {G : Nat → Nat} {A : Nat → Prop}
set_option maxRecDepth 100000 in
set_option maxHeartbeats 4000000 in
theorem t_X6_readUnsigned_87 {post : Int64 → cs_S → Prop} (hC : rf_C P RX6 p s m meth c cX6_readUnsigned 6 (some .long)) (hin : meth.name = yX6_readUnsigned.name) (hO : cs_O G A s s.heap) (S : cs_S) (x2 : Int64) (H : Heap) (locs : List Loc) (ls : Array Slot) (h : w_X6_readUnsigned_87 post G S x2) (hT : cs_T P s A S H locs) (hl : lv_has ls 6 [(2, .long x2)]) : W p l e rm_X6_readUnsigned s m args below meth c H locs 0 0 (MQ below (cs_Ql P A post) args s 0 0 A) (F0 m 87 ls []) := by
  obtain ⟨hx, hb, hml, hown, hK, -, -⟩ := id hC
  refine lv_lload_n hx hb dX6_readUnsigned_87 rfl (lv_at hl 0 rfl) ?_
  exact cs_lret hC hT h dX6_readUnsigned_88 (Nat.le_refl _) (Nat.le_refl _)
end
def w_X6_readUnsigned_70 (post : Int64 → cs_S → Prop) (G : Nat → Nat) (k10 : cs_S → Nat → Int32 → Int64 → Int32 → Prop) (S : cs_S) (x0 : Nat) (x1 : Int32) (x2 : Int64) (x4 : Int32) (x5 : Int32) : Prop := (128 ≤ x5 → k10 S x0 x1 x2 (x4 + 1)) ∧ (¬ 128 ≤ x5 → w_X6_readUnsigned_87 post G S x2)
section
variable {p : Program} {l : Launch} {e : Env} {s : State} {m : MethodId} {args : Array Value} {below : List Frame} {meth : Method} {c : Code} {P : hw_G} {G : Nat → Nat} {A : Nat → Prop}
set_option maxRecDepth 100000 in
set_option maxHeartbeats 4000000 in
theorem t_X6_readUnsigned_70 {post : Int64 → cs_S → Prop} {k10 : cs_S → Nat → Int32 → Int64 → Int32 → Prop} (hC : rf_C P RX6 p s m meth c cX6_readUnsigned 6 (some .long)) (hin : meth.name = yX6_readUnsigned.name) (hO : cs_O G A s s.heap) (hk10 : ∀ (S : cs_S) (x0 : Nat) (x1 : Int32) (x2 : Int64) (x4 : Int32) (H : Heap) (locs : List Loc) (ls : Array Slot), k10 S x0 x1 x2 x4 → cs_T P s A S H locs → lv_has ls 6 [(0, .ref x0), (1, .int x1), (2, .long x2), (4, .int x4)] → W p l e rm_X6_readUnsigned s m args below meth c H locs 0 0 (MQ below (cs_Ql P A post) args s 0 0 A) (F0 m 10 ls [])) (S : cs_S) (x0 : Nat) (x1 : Int32) (x2 : Int64) (x4 : Int32) (x5 : Int32) (H : Heap) (locs : List Loc) (ls : Array Slot) (h : w_X6_readUnsigned_70 post G k10 S x0 x1 x2 x4 x5) (hT : cs_T P s A S H locs) (hl : lv_has ls 6 [(0, .ref x0), (1, .int x1), (2, .long x2), (4, .int x4), (5, .int x5)]) : W p l e rm_X6_readUnsigned s m args below meth c H locs 0 0 (MQ below (cs_Ql P A post) args s 0 0 A) (F0 m 70 ls []) := by
  obtain ⟨hx, hb, hml, hown, hK, -, -⟩ := id hC
  refine lv_iload hx hb dX6_readUnsigned_70 (lv_at hl 4 rfl) ?_
  refine lv_sipush (v := 128) hx hb dX6_readUnsigned_72 (by decide) ?_
  refine lv_icmp_ge (tgt := 81) hx hb dX6_readUnsigned_75 (by decide) (fun hc => ?_) (fun hc => ?_)
  · replace h := h.1 hc
    refine lv_iinc (v := x4 + 1) (lv' := [(4, _), (0, _), (1, _), (2, _), (5, _)]) hx hb dX6_readUnsigned_81 hl (k := 3) rfl rfl (by decide) rfl (fun ls hl_ => ?_)
    replace hl := hl_
    refine lv_goto (tgt := 10) hx hb dX6_readUnsigned_84 (by decide) ?_
    exact hk10 S x0 x1 x2 (x4 + 1) _ _ _ h hT (lv_sub hl [1, 2, 3, 0] rfl)
  · replace h := h.2 hc
    refine lv_goto (tgt := 87) hx hb dX6_readUnsigned_78 (by decide) ?_
    exact t_X6_readUnsigned_87 hC hin hO S x2 _ _ _ h hT (lv_sub hl [2] rfl)
end
def w_X6_readUnsigned_64 (post : Int64 → cs_S → Prop) (G : Nat → Nat) (k10 : cs_S → Nat → Int32 → Int64 → Int32 → Prop) (S : cs_S) (x0 : Nat) (x1 : Int32) (x2 : Int64) (x4 : Int32) (x5 : Int32) : Prop := cs_k S x0 = 8 ∧ wp_X6_fail (fun S5 => w_X6_readUnsigned_70 post G k10 S5 x0 x1 x2 x4 x5) G S x0 3 x1
section
variable {p : Program} {l : Launch} {e : Env} {s : State} {m : MethodId} {args : Array Value} {below : List Frame} {meth : Method} {c : Code} {P : hw_G} {G : Nat → Nat} {A : Nat → Prop}
set_option maxRecDepth 100000 in
set_option maxHeartbeats 4000000 in
theorem t_X6_readUnsigned_64 {post : Int64 → cs_S → Prop} {k10 : cs_S → Nat → Int32 → Int64 → Int32 → Prop} (hC : rf_C P RX6 p s m meth c cX6_readUnsigned 6 (some .long)) (hin : meth.name = yX6_readUnsigned.name) (hO : cs_O G A s s.heap) (hk10 : ∀ (S : cs_S) (x0 : Nat) (x1 : Int32) (x2 : Int64) (x4 : Int32) (H : Heap) (locs : List Loc) (ls : Array Slot), k10 S x0 x1 x2 x4 → cs_T P s A S H locs → lv_has ls 6 [(0, .ref x0), (1, .int x1), (2, .long x2), (4, .int x4)] → W p l e rm_X6_readUnsigned s m args below meth c H locs 0 0 (MQ below (cs_Ql P A post) args s 0 0 A) (F0 m 10 ls [])) (S : cs_S) (x0 : Nat) (x1 : Int32) (x2 : Int64) (x4 : Int32) (x5 : Int32) (H : Heap) (locs : List Loc) (ls : Array Slot) (h : w_X6_readUnsigned_64 post G k10 S x0 x1 x2 x4 x5) (hT : cs_T P s A S H locs) (hl : lv_has ls 6 [(0, .ref x0), (1, .int x1), (2, .long x2), (4, .int x4), (5, .int x5)]) : W p l e rm_X6_readUnsigned s m args below meth c H locs 0 0 (MQ below (cs_Ql P A post) args s 0 0 A) (F0 m 64 ls []) := by
  obtain ⟨hx, hb, hml, hown, hK, -, -⟩ := id hC
  refine lv_aload_n (x := x0) hx hb dX6_readUnsigned_64 rfl (lv_at hl 0 rfl) ?_
  refine lv_iconst (v := 3) hx hb dX6_readUnsigned_65 (by decide) ?_
  refine lv_iload_n hx hb dX6_readUnsigned_66 rfl (lv_at hl 1 rfl) ?_
  obtain ⟨hk6_, h⟩ := h
  refine cs_callv0 (cs_runV hx hb hml hown hK hO hT 7 hk6_ (by decide) rfl (c_X6_fail h) rfl rfl klX6_40 ki_X6_fail ks_X6_fail kn_X6 kc_X6_fail 2 ⟨rfl, by decide, by decide, by decide +kernel⟩ ⟨by decide, by decide⟩ rfl hl.1 rfl (hw_cat8 (Nat.le_of_ble_eq_true rfl)) ⟨(Nat.le_refl _), (Nat.le_refl _)⟩ dX6_readUnsigned_67) hT (fun S5 H locs h_ hT_ => ?_)
  replace h := h_
  replace hT := hT_
  exact t_X6_readUnsigned_70 hC hin hO hk10 S5 x0 x1 x2 x4 x5 _ _ _ h hT (lv_sub hl [0, 1, 2, 3, 4] rfl)
end
def w_X6_readUnsigned_54 (post : Int64 → cs_S → Prop) (G : Nat → Nat) (k10 : cs_S → Nat → Int32 → Int64 → Int32 → Prop) (S : cs_S) (x0 : Nat) (x1 : Int32) (x2 : Int64) (x4 : Int32) (x5 : Int32) : Prop := (x4 ≤ 0 → w_X6_readUnsigned_70 post G k10 S x0 x1 x2 x4 x5) ∧ (¬ x4 ≤ 0 → (¬ x5 = 0 → w_X6_readUnsigned_70 post G k10 S x0 x1 x2 x4 x5) ∧ (x5 = 0 → w_X6_readUnsigned_64 post G k10 S x0 x1 x2 x4 x5))
section
variable {p : Program} {l : Launch} {e : Env} {s : State} {m : MethodId} {args : Array Value} {below : List Frame} {meth : Method} {c : Code} {P : hw_G} {G : Nat → Nat} {A : Nat → Prop}
set_option maxRecDepth 100000 in
set_option maxHeartbeats 4000000 in
theorem t_X6_readUnsigned_54 {post : Int64 → cs_S → Prop} {k10 : cs_S → Nat → Int32 → Int64 → Int32 → Prop} (hC : rf_C P RX6 p s m meth c cX6_readUnsigned 6 (some .long)) (hin : meth.name = yX6_readUnsigned.name) (hO : cs_O G A s s.heap) (hk10 : ∀ (S : cs_S) (x0 : Nat) (x1 : Int32) (x2 : Int64) (x4 : Int32) (H : Heap) (locs : List Loc) (ls : Array Slot), k10 S x0 x1 x2 x4 → cs_T P s A S H locs → lv_has ls 6 [(0, .ref x0), (1, .int x1), (2, .long x2), (4, .int x4)] → W p l e rm_X6_readUnsigned s m args below meth c H locs 0 0 (MQ below (cs_Ql P A post) args s 0 0 A) (F0 m 10 ls [])) (S : cs_S) (x0 : Nat) (x1 : Int32) (x2 : Int64) (x4 : Int32) (x5 : Int32) (H : Heap) (locs : List Loc) (ls : Array Slot) (h : w_X6_readUnsigned_54 post G k10 S x0 x1 x2 x4 x5) (hT : cs_T P s A S H locs) (hl : lv_has ls 6 [(0, .ref x0), (1, .int x1), (2, .long x2), (4, .int x4), (5, .int x5)]) : W p l e rm_X6_readUnsigned s m args below meth c H locs 0 0 (MQ below (cs_Ql P A post) args s 0 0 A) (F0 m 54 ls []) := by
  obtain ⟨hx, hb, hml, hown, hK, -, -⟩ := id hC
  refine lv_iload hx hb dX6_readUnsigned_54 (lv_at hl 3 rfl) ?_
  refine lv_if_le (tgt := 70) hx hb dX6_readUnsigned_56 (by decide) (fun hc => ?_) (fun hc => ?_)
  · replace h := h.1 hc
    exact t_X6_readUnsigned_70 hC hin hO hk10 S x0 x1 x2 x4 x5 _ _ _ h hT (lv_sub hl [0, 1, 2, 3, 4] rfl)
  · replace h := h.2 hc
    refine lv_iload hx hb dX6_readUnsigned_59 (lv_at hl 4 rfl) ?_
    refine lv_if_ne (tgt := 70) hx hb dX6_readUnsigned_61 (by decide) (fun hc => ?_) (fun hc => ?_)
    · replace h := h.1 hc
      exact t_X6_readUnsigned_70 hC hin hO hk10 S x0 x1 x2 x4 x5 _ _ _ h hT (lv_sub hl [0, 1, 2, 3, 4] rfl)
    · replace h := h.2 hc
      exact t_X6_readUnsigned_64 hC hin hO hk10 S x0 x1 x2 x4 x5 _ _ _ h hT (lv_sub hl [0, 1, 2, 3, 4] rfl)
end
def w_X6_readUnsigned_10 (post : Int64 → cs_S → Prop) (G : Nat → Nat) : Nat → cs_S → Nat → Int32 → Int64 → Int32 → Prop
  | 0, _, _, _, _, _ => False
  | n + 1, S, x0, x1, x2, x4 => (5 ≤ x4 → w_X6_readUnsigned_87 post G S x2) ∧ (¬ 5 ≤ x4 → cs_k S x0 = 8 ∧ wp_X6_nextByte (fun r7 S7 => (¬ x4 = 4 → w_X6_readUnsigned_54 post G (w_X6_readUnsigned_10 post G n) S7 x0 x1 (x2 ||| (((r7 &&& 127).toInt64) <<< ((7 * x4).toInt64 &&& 63))) x4 r7) ∧ (x4 = 4 → (15 < r7 → w_X6_readUnsigned_64 post G (w_X6_readUnsigned_10 post G n) S7 x0 x1 (x2 ||| (((r7 &&& 127).toInt64) <<< ((7 * x4).toInt64 &&& 63))) x4 r7) ∧ (¬ 15 < r7 → w_X6_readUnsigned_54 post G (w_X6_readUnsigned_10 post G n) S7 x0 x1 (x2 ||| (((r7 &&& 127).toInt64) <<< ((7 * x4).toInt64 &&& 63))) x4 r7))) G S x0 0 255)
section
variable {p : Program} {l : Launch} {e : Env} {s : State} {m : MethodId} {args : Array Value} {below : List Frame} {meth : Method} {c : Code} {P : hw_G} {G : Nat → Nat} {A : Nat → Prop}
set_option maxRecDepth 100000 in
set_option maxHeartbeats 4000000 in
theorem t_X6_readUnsigned_10 {post : Int64 → cs_S → Prop} (hC : rf_C P RX6 p s m meth c cX6_readUnsigned 6 (some .long)) (hin : meth.name = yX6_readUnsigned.name) (hO : cs_O G A s s.heap) : ∀ (n : Nat) (S : cs_S) (x0 : Nat) (x1 : Int32) (x2 : Int64) (x4 : Int32) (H : Heap) (locs : List Loc) (ls : Array Slot), w_X6_readUnsigned_10 post G n S x0 x1 x2 x4 → cs_T P s A S H locs → lv_has ls 6 [(0, .ref x0), (1, .int x1), (2, .long x2), (4, .int x4)] → W p l e rm_X6_readUnsigned s m args below meth c H locs 0 0 (MQ below (cs_Ql P A post) args s 0 0 A) (F0 m 10 ls []) := by
  obtain ⟨hx, hb, hml, hown, hK, -, -⟩ := id hC
  intro n
  induction n with
  | zero => intro S x0 x1 x2 x4 H locs ls h; exact False.elim h
  | succ n ih =>
    intro S x0 x1 x2 x4 H locs ls h hT hl
    refine lv_iload hx hb dX6_readUnsigned_10 (lv_at hl 3 rfl) ?_
    refine lv_iconst (v := 5) hx hb dX6_readUnsigned_12 (by decide) ?_
    refine lv_icmp_ge (tgt := 87) hx hb dX6_readUnsigned_13 (by decide) (fun hc => ?_) (fun hc => ?_)
    · replace h := h.1 hc
      exact t_X6_readUnsigned_87 hC hin hO S x2 _ _ _ h hT (lv_sub hl [2] rfl)
    · replace h := h.2 hc
      refine lv_aload_n (x := x0) hx hb dX6_readUnsigned_16 rfl (lv_at hl 0 rfl) ?_
      refine lv_iconst (v := 0) hx hb dX6_readUnsigned_17 (by decide) ?_
      refine lv_sipush (v := 255) hx hb dX6_readUnsigned_18 (by decide) ?_
      obtain ⟨hk8_, h⟩ := h
      refine cs_calli0 (cs_runV hx hb hml hown hK hO hT 7 hk8_ (by decide) rfl (c_X6_nextByte h) rfl rfl klX6_44 ki_X6_nextByte ks_X6_nextByte kn_X6 kc_X6_nextByte 2 ⟨rfl, by decide, by decide, by decide +kernel⟩ ⟨by decide, by decide⟩ rfl hl.1 rfl (hw_cat8 (Nat.le_of_ble_eq_true rfl)) ⟨(Nat.le_refl _), (Nat.le_refl _)⟩ dX6_readUnsigned_21) hT (fun r7 S7 H locs h_ hT_ => ?_)
      replace h := h_
      replace hT := hT_
      refine lv_istore (lv' := [(5, _), (0, _), (1, _), (2, _), (4, _)]) hx hb dX6_readUnsigned_24 hl (by decide) rfl (fun ls hl_ => ?_)
      replace hl := hl_
      refine lv_lload_n hx hb dX6_readUnsigned_26 rfl (lv_at hl 3 rfl) ?_
      refine lv_iload hx hb dX6_readUnsigned_27 (lv_at hl 0 rfl) ?_
      refine lv_bipush (v := 127) hx hb dX6_readUnsigned_29 (by decide) ?_
      refine lv_iand hx hb dX6_readUnsigned_31 ?_
      refine lv_i2l (v := (r7 &&& 127).toInt64) hx hb dX6_readUnsigned_32 rfl ?_
      refine lv_bipush (v := 7) hx hb dX6_readUnsigned_33 (by decide) ?_
      refine lv_iload hx hb dX6_readUnsigned_35 (lv_at hl 4 rfl) ?_
      refine lv_imul hx hb dX6_readUnsigned_37 ?_
      refine lv_lshl (v := ((r7 &&& 127).toInt64) <<< ((7 * x4).toInt64 &&& 63)) hx hb dX6_readUnsigned_38 rfl ?_
      refine lv_lor hx hb dX6_readUnsigned_39 ?_
      refine lv_lstore_n (lv' := [(2, _), (5, _), (0, _), (1, _), (4, _)]) hx hb dX6_readUnsigned_40 rfl hl (by decide) rfl (fun ls hl_ => ?_)
      replace hl := hl_
      refine lv_iload hx hb dX6_readUnsigned_41 (lv_at hl 4 rfl) ?_
      refine lv_iconst (v := 4) hx hb dX6_readUnsigned_43 (by decide) ?_
      refine lv_icmp_ne (tgt := 54) hx hb dX6_readUnsigned_44 (by decide) (fun hc => ?_) (fun hc => ?_)
      · replace h := h.1 hc
        exact t_X6_readUnsigned_54 hC hin hO ih S7 x0 x1 (x2 ||| (((r7 &&& 127).toInt64) <<< ((7 * x4).toInt64 &&& 63))) x4 r7 _ _ _ h hT (lv_sub hl [2, 3, 0, 4, 1] rfl)
      · replace h := h.2 hc
        refine lv_iload hx hb dX6_readUnsigned_47 (lv_at hl 1 rfl) ?_
        refine lv_bipush (v := 15) hx hb dX6_readUnsigned_49 (by decide) ?_
        refine lv_icmp_gt (tgt := 64) hx hb dX6_readUnsigned_51 (by decide) (fun hc => ?_) (fun hc => ?_)
        · replace h := h.1 hc
          exact t_X6_readUnsigned_64 hC hin hO ih S7 x0 x1 (x2 ||| (((r7 &&& 127).toInt64) <<< ((7 * x4).toInt64 &&& 63))) x4 r7 _ _ _ h hT (lv_sub hl [2, 3, 0, 4, 1] rfl)
        · replace h := h.2 hc
          exact t_X6_readUnsigned_54 hC hin hO ih S7 x0 x1 (x2 ||| (((r7 &&& 127).toInt64) <<< ((7 * x4).toInt64 &&& 63))) x4 r7 _ _ _ h hT (lv_sub hl [2, 3, 0, 4, 1] rfl)
end
def wp_X6_readUnsigned (post : Int64 → cs_S → Prop) (G : Nat → Nat) (S : cs_S) (o : Nat) : Prop := cs_k S o = 8 ∧ ∃ n9, w_X6_readUnsigned_10 post G n9 S o (cs_i S 706 o) 0 0
set_option maxRecDepth 100000 in
set_option maxHeartbeats 4000000 in
theorem c_X6_readUnsigned {l : Launch} {P : hw_G} {G : Nat → Nat} {S : cs_S} {sz : Nat} {o : Nat} {post : Int64 → cs_S → Prop} (h : wp_X6_readUnsigned post G S o) : Met l yX6_readUnsigned [Cond.code yX6_readUnsigned cX6_readUnsigned 6 (some .long)] rm_X6_readUnsigned (cs_Pc P G S sz [.ref o]) (cs_Ql P (cs_A S sz) post) 0 0 (cs_A S sz) := by
  refine cs_met (by decide) rfl (Nat.le_of_ble_eq_true rfl) ?_
  intro p e s m below meth c ls hC hin hO hT hl
  obtain ⟨hx, hb, hml, hown, hK, -, -⟩ := id hC
  replace hl : lv_has ls 6 [(0, .ref o)] := hl
  refine lv_aload_n (x := o) hx hb dX6_readUnsigned_0 rfl (lv_at hl 0 rfl) ?_
  obtain ⟨hk9_, h⟩ := h
  refine cs_get hx hb hK hT hown 7 hk9_ (by decide) rfl 6 (by decide) kfX6_34 (v := .int (cs_i S 706 o)) rfl dX6_readUnsigned_1 ?_
  refine lv_istore_n (lv' := [(1, _), (0, _)]) hx hb dX6_readUnsigned_4 rfl hl (by decide) rfl (fun ls hl_ => ?_)
  replace hl := hl_
  refine lv_lconst (v := 0) hx hb dX6_readUnsigned_5 (by decide) ?_
  refine lv_lstore_n (lv' := [(2, _), (1, _), (0, _)]) hx hb dX6_readUnsigned_6 rfl hl (by decide) rfl (fun ls hl_ => ?_)
  replace hl := hl_
  refine lv_iconst (v := 0) hx hb dX6_readUnsigned_7 (by decide) ?_
  refine lv_istore (lv' := [(4, _), (2, _), (1, _), (0, _)]) hx hb dX6_readUnsigned_8 hl (by decide) rfl (fun ls hl_ => ?_)
  replace hl := hl_
  obtain ⟨n9, h⟩ := h
  exact t_X6_readUnsigned_10 hC hin hO n9 S o (cs_i S 706 o) 0 0 _ _ _ h hT (lv_sub hl [3, 2, 1, 0] rfl)
/-! X11_withLetter -/
abbrev rm_X11_withLetter : Room := { frames := 0, cells := 0, slots := 0, locals := 0 }
def wp_X11_withLetter (post : Int64 → cs_S → Prop) (G : Nat → Nat) (S : cs_S) (p0 : Int64) (p2 : Int32) (p3 : Int32) : Prop := post (p0 ||| ((((p3 - 97) + 1).toInt64) <<< ((5 * (11 - p2)).toInt64 &&& 63))) S
set_option maxRecDepth 100000 in
set_option maxHeartbeats 4000000 in
theorem c_X11_withLetter {l : Launch} {P : hw_G} {G : Nat → Nat} {S : cs_S} {sz : Nat} {p0 : Int64} {p2 : Int32} {p3 : Int32} {post : Int64 → cs_S → Prop} (h : wp_X11_withLetter post G S p0 p2 p3) : Met l yX11_withLetter [Cond.code yX11_withLetter cX11_withLetter 4 (some .long)] rm_X11_withLetter (cs_Pc P G S sz [.long p0, .int p2, .int p3]) (cs_Ql P (cs_A S sz) post) 0 0 (cs_A S sz) := by
  refine cs_met (by decide) rfl (Nat.le_of_ble_eq_true rfl) ?_
  intro p e s m below meth c ls hC hin hO hT hl
  obtain ⟨hx, hb, hml, hown, hK, -, -⟩ := id hC
  replace hl : lv_has ls 4 [(0, .long p0), (2, .int p2), (3, .int p3)] := hl
  refine lv_lload_n hx hb dX11_withLetter_0 rfl (lv_at hl 0 rfl) ?_
  refine lv_iload_n hx hb dX11_withLetter_1 rfl (lv_at hl 2 rfl) ?_
  refine lv_bipush (v := 97) hx hb dX11_withLetter_2 (by decide) ?_
  refine lv_isub hx hb dX11_withLetter_4 ?_
  refine lv_iconst (v := 1) hx hb dX11_withLetter_5 (by decide) ?_
  refine lv_iadd hx hb dX11_withLetter_6 ?_
  refine lv_i2l (v := ((p3 - 97) + 1).toInt64) hx hb dX11_withLetter_7 rfl ?_
  refine lv_iconst (v := 5) hx hb dX11_withLetter_8 (by decide) ?_
  refine lv_bipush (v := 11) hx hb dX11_withLetter_9 (by decide) ?_
  refine lv_iload_n hx hb dX11_withLetter_11 rfl (lv_at hl 1 rfl) ?_
  refine lv_isub hx hb dX11_withLetter_12 ?_
  refine lv_imul hx hb dX11_withLetter_13 ?_
  refine lv_lshl (v := (((p3 - 97) + 1).toInt64) <<< ((5 * (11 - p2)).toInt64 &&& 63)) hx hb dX11_withLetter_14 rfl ?_
  refine lv_lor hx hb dX11_withLetter_15 ?_
  exact cs_lret hC hT h dX11_withLetter_16 (Nat.le_refl _) (Nat.le_refl _)
/-! X6_readWord -/
abbrev rm_X6_readWord : Room := { frames := 2, cells := 0, slots := 0, locals := 45 }
def w_X6_readWord_12 (post : Int64 → cs_S → Prop) (G : Nat → Nat) : Nat → cs_S → Nat → Int32 → Int64 → Int32 → Prop
  | 0, _, _, _, _, _ => False
  | n + 1, S, x0, x2, x3, x5 => (x2 ≤ x5 → post x3 S) ∧ (¬ x2 ≤ x5 → cs_k S x0 = 8 ∧ wp_X6_nextByte (fun r6 S6 => wp_X11_withLetter (fun r8 S8 => w_X6_readWord_12 post G n S8 x0 x2 r8 (x5 + 1)) G S6 x3 x5 r6) G S x0 97 122)
section
variable {p : Program} {l : Launch} {e : Env} {s : State} {m : MethodId} {args : Array Value} {below : List Frame} {meth : Method} {c : Code} {P : hw_G} {G : Nat → Nat} {A : Nat → Prop}
set_option maxRecDepth 100000 in
set_option maxHeartbeats 4000000 in
theorem t_X6_readWord_12 {post : Int64 → cs_S → Prop} (hC : rf_C P RX6 p s m meth c cX6_readWord 6 (some .long)) (hin : meth.name = yX6_readWord.name) (hO : cs_O G A s s.heap) : ∀ (n : Nat) (S : cs_S) (x0 : Nat) (x2 : Int32) (x3 : Int64) (x5 : Int32) (H : Heap) (locs : List Loc) (ls : Array Slot), w_X6_readWord_12 post G n S x0 x2 x3 x5 → cs_T P s A S H locs → lv_has ls 6 [(0, .ref x0), (2, .int x2), (3, .long x3), (5, .int x5)] → W p l e rm_X6_readWord s m args below meth c H locs 0 0 (MQ below (cs_Ql P A post) args s 0 0 A) (F0 m 12 ls []) := by
  obtain ⟨hx, hb, hml, hown, hK, -, -⟩ := id hC
  intro n
  induction n with
  | zero => intro S x0 x2 x3 x5 H locs ls h; exact False.elim h
  | succ n ih =>
    intro S x0 x2 x3 x5 H locs ls h hT hl
    refine lv_iload hx hb dX6_readWord_12 (lv_at hl 3 rfl) ?_
    refine lv_iload_n hx hb dX6_readWord_14 rfl (lv_at hl 1 rfl) ?_
    refine lv_icmp_ge (tgt := 39) hx hb dX6_readWord_15 (by decide) (fun hc => ?_) (fun hc => ?_)
    · replace h := h.1 hc
      refine lv_lload_n hx hb dX6_readWord_39 rfl (lv_at hl 2 rfl) ?_
      exact cs_lret hC hT h dX6_readWord_40 (Nat.le_refl _) (Nat.le_refl _)
    · replace h := h.2 hc
      refine lv_lload_n hx hb dX6_readWord_18 rfl (lv_at hl 2 rfl) ?_
      refine lv_iload hx hb dX6_readWord_19 (lv_at hl 3 rfl) ?_
      refine lv_aload_n (x := x0) hx hb dX6_readWord_21 rfl (lv_at hl 0 rfl) ?_
      refine lv_bipush (v := 97) hx hb dX6_readWord_22 (by decide) ?_
      refine lv_bipush (v := 122) hx hb dX6_readWord_24 (by decide) ?_
      obtain ⟨hk7_, h⟩ := h
      refine cs_calli0 (cs_runV hx hb hml hown hK hO hT 7 hk7_ (by decide) rfl (c_X6_nextByte h) rfl rfl klX6_44 ki_X6_nextByte ks_X6_nextByte kn_X6 kc_X6_nextByte 2 ⟨rfl, by decide, by decide, by decide +kernel⟩ ⟨by decide, by decide⟩ rfl hl.1 rfl (hw_cat8 (Nat.le_of_ble_eq_true rfl)) ⟨(Nat.le_refl _), (Nat.le_refl _)⟩ dX6_readWord_26) hT (fun r6 S6 H locs h_ hT_ => ?_)
      replace h := h_
      replace hT := hT_
      refine cs_calll0 (cs_runSN hx hb hml hown hK hO hT (c_X11_withLetter h) rfl rfl klnX6_72 ki_X11_withLetter kn_X11 kc_X11_withLetter 3 ⟨by decide, by decide, by decide +kernel⟩ ⟨by decide, by decide⟩ rfl hl.1 rfl (hw_cat8 (Nat.le_of_ble_eq_true rfl)) ⟨(Nat.le_refl _), (Nat.le_refl _)⟩ dX6_readWord_29) hT (fun r8 S8 H locs h_ hT_ => ?_)
      replace h := h_
      replace hT := hT_
      refine lv_lstore_n (lv' := [(3, _), (0, _), (2, _), (5, _)]) hx hb dX6_readWord_32 rfl hl (by decide) rfl (fun ls hl_ => ?_)
      replace hl := hl_
      refine lv_iinc (v := x5 + 1) (lv' := [(5, _), (3, _), (0, _), (2, _)]) hx hb dX6_readWord_33 hl (k := 3) rfl rfl (by decide) rfl (fun ls hl_ => ?_)
      replace hl := hl_
      refine lv_goto (tgt := 12) hx hb dX6_readWord_36 (by decide) ?_
      exact ih S8 x0 x2 r8 (x5 + 1) _ _ _ h hT (lv_sub hl [2, 3, 1, 0] rfl)
end
def wp_X6_readWord (post : Int64 → cs_S → Prop) (G : Nat → Nat) (S : cs_S) (o : Nat) (p1 : Int32) : Prop := cs_k S o = 8 ∧ wp_X6_nextByte (fun r9 S9 => ∃ n9, w_X6_readWord_12 post G n9 S9 o r9 0 0) G S o 1 p1
set_option maxRecDepth 100000 in
set_option maxHeartbeats 4000000 in
theorem c_X6_readWord {l : Launch} {P : hw_G} {G : Nat → Nat} {S : cs_S} {sz : Nat} {o : Nat} {p1 : Int32} {post : Int64 → cs_S → Prop} (h : wp_X6_readWord post G S o p1) : Met l yX6_readWord [Cond.code yX6_readWord cX6_readWord 6 (some .long)] rm_X6_readWord (cs_Pc P G S sz [.ref o, .int p1]) (cs_Ql P (cs_A S sz) post) 0 0 (cs_A S sz) := by
  refine cs_met (by decide) rfl (Nat.le_of_ble_eq_true rfl) ?_
  intro p e s m below meth c ls hC hin hO hT hl
  obtain ⟨hx, hb, hml, hown, hK, -, -⟩ := id hC
  replace hl : lv_has ls 6 [(0, .ref o), (1, .int p1)] := hl
  refine lv_aload_n (x := o) hx hb dX6_readWord_0 rfl (lv_at hl 0 rfl) ?_
  refine lv_iconst (v := 1) hx hb dX6_readWord_1 (by decide) ?_
  refine lv_iload_n hx hb dX6_readWord_2 rfl (lv_at hl 1 rfl) ?_
  obtain ⟨hk10_, h⟩ := h
  refine cs_calli0 (cs_runV hx hb hml hown hK hO hT 7 hk10_ (by decide) rfl (c_X6_nextByte h) rfl rfl klX6_44 ki_X6_nextByte ks_X6_nextByte kn_X6 kc_X6_nextByte 2 ⟨rfl, by decide, by decide, by decide +kernel⟩ ⟨by decide, by decide⟩ rfl hl.1 rfl (hw_cat8 (Nat.le_of_ble_eq_true rfl)) ⟨(Nat.le_refl _), (Nat.le_refl _)⟩ dX6_readWord_3) hT (fun r9 S9 H locs h_ hT_ => ?_)
  replace h := h_
  replace hT := hT_
  refine lv_istore_n (lv' := [(2, _), (0, _), (1, _)]) hx hb dX6_readWord_6 rfl hl (by decide) rfl (fun ls hl_ => ?_)
  replace hl := hl_
  refine lv_lconst (v := 0) hx hb dX6_readWord_7 (by decide) ?_
  refine lv_lstore_n (lv' := [(3, _), (2, _), (0, _), (1, _)]) hx hb dX6_readWord_8 rfl hl (by decide) rfl (fun ls hl_ => ?_)
  replace hl := hl_
  refine lv_iconst (v := 0) hx hb dX6_readWord_9 (by decide) ?_
  refine lv_istore (lv' := [(5, _), (3, _), (2, _), (0, _), (1, _)]) hx hb dX6_readWord_10 hl (by decide) rfl (fun ls hl_ => ?_)
  replace hl := hl_
  obtain ⟨n9, h⟩ := h
  exact t_X6_readWord_12 hC hin hO n9 S9 o r9 0 0 _ _ _ h hT (lv_sub hl [3, 2, 1, 0] rfl)
/-! X6_readValue -/
abbrev rm_X6_readValue (mc ms : Nat) : Room := { frames := 3, cells := mc, slots := ms, locals := 70 }
def w_X6_readValue_118 (post : Option Nat → cs_S → Prop) (G : Nat → Nat) (mc ms : Nat) : Nat → cs_S → Nat → Nat → Nat → Int32 → Option Nat → Int32 → Prop
  | 0, _, _, _, _, _, _, _ => False
  | n + 1, S, u, v, x0, x2, x3, x4 => u ≤ mc ∧ v ≤ ms ∧ (x2 ≤ x4 → u + 1 ≤ mc ∧ v + 4 ≤ ms ∧ ∀ q22, cs_k S q22 = 0 → ∀ S23, S23 = cs_new S q22 10 → wp_X9_init (fun S24 => post (some q22) S24) G S23 q22 1 x2 x3) ∧ (¬ x2 ≤ x4 → cs_k S x0 = 8 ∧ wp_X6_nextByte (fun r25 S25 => ∃ b27, x3 = some b27 ∧ cs_k S25 b27 = 20 ∧ vp_in x4 (cs_n S25 b27) ∧ ∀ S29, S29 = cs_uai S25 b27 x4.toNatClampNeg r25 → w_X6_readValue_118 post G mc ms n S29 u v x0 x2 (some b27) (x4 + 1)) G S x0 32 126)
section
variable {p : Program} {l : Launch} {e : Env} {s : State} {m : MethodId} {args : Array Value} {below : List Frame} {meth : Method} {c : Code} {P : hw_G} {G : Nat → Nat} {A : Nat → Prop}
set_option maxRecDepth 100000 in
set_option maxHeartbeats 4000000 in
theorem t_X6_readValue_118 {post : Option Nat → cs_S → Prop} {mc ms : Nat} (hC : rf_C P RX6 p s m meth c cX6_readValue 6 (some (.object "WatchHouse$Value"))) (hin : meth.name = yX6_readValue.name) (hO : cs_O G A s s.heap) : ∀ (n : Nat) (S : cs_S) (u v : Nat) (x0 : Nat) (x2 : Int32) (x3 : Option Nat) (x4 : Int32) (H : Heap) (locs : List Loc) (ls : Array Slot), w_X6_readValue_118 post G mc ms n S u v x0 x2 x3 x4 → cs_T P s A S H locs → lv_has ls 6 [(0, .ref x0), (2, .int x2), (3, va_rf x3), (4, .int x4)] → W p l e (rm_X6_readValue mc ms) s m args below meth c H locs u v (MQ below (cs_Qr P A post) args s mc ms A) (F0 m 118 ls []) := by
  obtain ⟨hx, hb, hml, hown, hK, -, -⟩ := id hC
  intro n
  induction n with
  | zero => intro S u v x0 x2 x3 x4 H locs ls h; exact False.elim h
  | succ n ih =>
    intro S u v x0 x2 x3 x4 H locs ls h hT hl
    obtain ⟨hu, hv, h⟩ := h
    refine lv_iload hx hb dX6_readValue_118 (lv_at hl 3 rfl) ?_
    refine lv_iload_n hx hb dX6_readValue_120 rfl (lv_at hl 1 rfl) ?_
    refine lv_icmp_ge (tgt := 142) hx hb dX6_readValue_121 (by decide) (fun hc => ?_) (fun hc => ?_)
    · replace h := h.1 hc
      obtain ⟨hu22, hv22, h⟩ := h
      refine cs_newo hx hb hK hT hown 10 (by decide) rfl tyX9_ok cs_df10 kxX6_57 kj_X9 kn_X9 hu22 hv22 dX6_readValue_142 (fun q22 H hq22 hT_ => ?_)
      replace h := h q22 hq22
      replace hT := hT_
      obtain ⟨S23, eS23⟩ : ∃ z, z = cs_new S q22 10 := ⟨_, rfl⟩
      rw [← eS23] at hT
      replace h := h S23 eS23
      refine lv_dup hx hb dX6_readValue_145 rfl ?_
      refine lv_iconst (v := 1) hx hb dX6_readValue_146 (by decide) ?_
      refine lv_iload_n hx hb dX6_readValue_147 rfl (lv_at hl 1 rfl) ?_
      refine hw_aload_n (x := x3) hx hb dX6_readValue_148 rfl (lv_at hl 2 rfl) ?_
      refine cs_callv0 (cs_runI hx hb hml hown hK hO hT (c_X9_init h) rfl rfl klX6_76 ki_X9_init kn_X9 kc_X9_init rfl 3 ⟨by decide, by decide, by decide +kernel⟩ ⟨Nat.le_of_ble_eq_true rfl, Nat.le_of_ble_eq_true rfl⟩ rfl hl.1 rfl (hw_cat8 (Nat.le_of_ble_eq_true rfl)) ⟨hu22, hv22⟩ dX6_readValue_149) hT (fun S24 H locs h_ hT_ => ?_)
      replace h := h_
      replace hT := hT_
      exact cs_aret (v := (some q22)) hC (Or.inl ⟨_, rfl⟩) hT h dX6_readValue_152 hu22 hv22
    · replace h := h.2 hc
      refine hw_aload_n (x := x3) hx hb dX6_readValue_124 rfl (lv_at hl 2 rfl) ?_
      refine lv_iload hx hb dX6_readValue_125 (lv_at hl 3 rfl) ?_
      refine lv_aload_n (x := x0) hx hb dX6_readValue_127 rfl (lv_at hl 0 rfl) ?_
      refine lv_bipush (v := 32) hx hb dX6_readValue_128 (by decide) ?_
      refine lv_bipush (v := 126) hx hb dX6_readValue_130 (by decide) ?_
      obtain ⟨hk26_, h⟩ := h
      refine cs_calli0 (cs_runV hx hb hml hown hK hO hT 7 hk26_ (by decide) rfl (c_X6_nextByte h) rfl rfl klX6_44 ki_X6_nextByte ks_X6_nextByte kn_X6 kc_X6_nextByte 2 ⟨rfl, by decide, by decide, by decide +kernel⟩ ⟨Nat.le_of_ble_eq_true rfl, Nat.le_of_ble_eq_true rfl⟩ rfl hl.1 rfl (hw_cat8 (Nat.le_of_ble_eq_true rfl)) ⟨hu, hv⟩ dX6_readValue_132) hT (fun r25 S25 H locs h_ hT_ => ?_)
      replace h := h_
      replace hT := hT_
      obtain ⟨b27, rfl, h⟩ := h
      obtain ⟨hk28_, h⟩ := h
      obtain ⟨hi, h⟩ := h
      refine cs_iast hx hb hK hT hk28_ hi dX6_readValue_135 (fun H locs hT_ => ?_)
      replace hT := hT_
      obtain ⟨S29, eS29⟩ : ∃ z, z = cs_uai S25 b27 x4.toNatClampNeg r25 := ⟨_, rfl⟩
      rw [← eS29] at hT
      replace h := h S29 eS29
      refine lv_iinc (v := x4 + 1) (lv' := [(4, _), (0, _), (2, _), (3, _)]) hx hb dX6_readValue_136 hl (k := 3) rfl rfl (by decide) rfl (fun ls hl_ => ?_)
      replace hl := hl_
      refine lv_goto (tgt := 118) hx hb dX6_readValue_139 (by decide) ?_
      exact ih S29 u v x0 x2 (some b27) (x4 + 1) _ _ _ h hT (lv_sub hl [1, 2, 3, 0] rfl)
end
def w_X6_readValue_114 (post : Option Nat → cs_S → Prop) (G : Nat → Nat) (mc ms : Nat) (S : cs_S) (u v : Nat) (x0 : Nat) (x2 : Int32) (y0 : Option Nat) : Prop := u ≤ mc ∧ v ≤ ms ∧ ∃ n9, w_X6_readValue_118 post G mc ms n9 S u v x0 x2 y0 0
section
variable {p : Program} {l : Launch} {e : Env} {s : State} {m : MethodId} {args : Array Value} {below : List Frame} {meth : Method} {c : Code} {P : hw_G} {G : Nat → Nat} {A : Nat → Prop}
set_option maxRecDepth 100000 in
set_option maxHeartbeats 4000000 in
theorem t_X6_readValue_114 {post : Option Nat → cs_S → Prop} {mc ms : Nat} (hC : rf_C P RX6 p s m meth c cX6_readValue 6 (some (.object "WatchHouse$Value"))) (hin : meth.name = yX6_readValue.name) (hO : cs_O G A s s.heap) (S : cs_S) (u v : Nat) (x0 : Nat) (x2 : Int32) (y0 : Option Nat) (H : Heap) (locs : List Loc) (ls : Array Slot) (h : w_X6_readValue_114 post G mc ms S u v x0 x2 y0) (hT : cs_T P s A S H locs) (hl : lv_has ls 6 [(0, .ref x0), (2, .int x2)]) : W p l e (rm_X6_readValue mc ms) s m args below meth c H locs u v (MQ below (cs_Qr P A post) args s mc ms A) (F0 m 114 ls [va_rf y0]) := by
  obtain ⟨hx, hb, hml, hown, hK, -, -⟩ := id hC
  obtain ⟨hu, hv, h⟩ := h
  refine hw_astore_n (lv' := [(3, _), (0, _), (2, _)]) (x := y0) hx hb dX6_readValue_114 rfl hl (by decide) rfl (fun ls hl_ => ?_)
  replace hl := hl_
  refine lv_iconst (v := 0) hx hb dX6_readValue_115 (by decide) ?_
  refine lv_istore (lv' := [(4, _), (3, _), (0, _), (2, _)]) hx hb dX6_readValue_116 hl (by decide) (congrArg (List.cons _) ((hw_flt (fun q hq => by simp only [List.mem_cons, List.not_mem_nil, or_false] at hq; rcases hq with rfl | rfl | rfl <;> first | exact fun _ => rfl | exact fun _ => va_rf_cat _ | (intro h; simp at h))).trans rfl)) (fun ls hl_ => ?_)
  replace hl := hl_
  obtain ⟨n9, h⟩ := h
  exact t_X6_readValue_118 hC hin hO n9 S u v x0 x2 y0 0 _ _ _ h hT (lv_sub hl [2, 3, 1, 0] rfl)
end
def w_X6_readValue_55 (post : Option Nat → cs_S → Prop) (G : Nat → Nat) (mc ms : Nat) : Nat → cs_S → Nat → Nat → Nat → Int32 → Int32 → Prop
  | 0, _, _, _, _, _, _ => False
  | n + 1, S, u, v, x0, x2, x3 => u ≤ mc ∧ v ≤ ms ∧ (4 ≤ x3 → u + 1 ≤ mc ∧ v + 4 ≤ ms ∧ ∀ q30, cs_k S q30 = 0 → ∀ S31, S31 = cs_new S q30 10 → wp_X9_init (fun S32 => post (some q30) S32) G S31 q30 2 x2 (some (G 0))) ∧ (¬ 4 ≤ x3 → cs_k S x0 = 8 ∧ wp_X6_nextByte (fun r33 S33 => w_X6_readValue_55 post G mc ms n S33 u v x0 ((x2 <<< (8 &&& 31)) ||| r33) (x3 + 1)) G S x0 0 255)
section
variable {p : Program} {l : Launch} {e : Env} {s : State} {m : MethodId} {args : Array Value} {below : List Frame} {meth : Method} {c : Code} {P : hw_G} {G : Nat → Nat} {A : Nat → Prop}
set_option maxRecDepth 100000 in
set_option maxHeartbeats 4000000 in
theorem t_X6_readValue_55 {post : Option Nat → cs_S → Prop} {mc ms : Nat} (hC : rf_C P RX6 p s m meth c cX6_readValue 6 (some (.object "WatchHouse$Value"))) (hin : meth.name = yX6_readValue.name) (hO : cs_O G A s s.heap) : ∀ (n : Nat) (S : cs_S) (u v : Nat) (x0 : Nat) (x2 : Int32) (x3 : Int32) (H : Heap) (locs : List Loc) (ls : Array Slot), w_X6_readValue_55 post G mc ms n S u v x0 x2 x3 → cs_T P s A S H locs → lv_has ls 6 [(0, .ref x0), (2, .int x2), (3, .int x3)] → W p l e (rm_X6_readValue mc ms) s m args below meth c H locs u v (MQ below (cs_Qr P A post) args s mc ms A) (F0 m 55 ls []) := by
  obtain ⟨hx, hb, hml, hown, hK, -, -⟩ := id hC
  intro n
  induction n with
  | zero => intro S u v x0 x2 x3 H locs ls h; exact False.elim h
  | succ n ih =>
    intro S u v x0 x2 x3 H locs ls h hT hl
    obtain ⟨hu, hv, h⟩ := h
    refine lv_iload_n hx hb dX6_readValue_55 rfl (lv_at hl 2 rfl) ?_
    refine lv_iconst (v := 4) hx hb dX6_readValue_56 (by decide) ?_
    refine lv_icmp_ge (tgt := 80) hx hb dX6_readValue_57 (by decide) (fun hc => ?_) (fun hc => ?_)
    · replace h := h.1 hc
      obtain ⟨hu30, hv30, h⟩ := h
      refine cs_newo hx hb hK hT hown 10 (by decide) rfl tyX9_ok cs_df10 kxX6_57 kj_X9 kn_X9 hu30 hv30 dX6_readValue_80 (fun q30 H hq30 hT_ => ?_)
      replace h := h q30 hq30
      replace hT := hT_
      obtain ⟨S31, eS31⟩ : ∃ z, z = cs_new S q30 10 := ⟨_, rfl⟩
      rw [← eS31] at hT
      replace h := h S31 eS31
      refine lv_dup hx hb dX6_readValue_83 rfl ?_
      refine lv_iconst (v := 2) hx hb dX6_readValue_84 (by decide) ?_
      refine lv_iload_n hx hb dX6_readValue_85 rfl (lv_at hl 1 rfl) ?_
      refine cs_getsN hx hb hO hT hown kfnX6_15 dX6_readValue_86 ?_
      refine cs_callv0 (cs_runI hx hb hml hown hK hO hT (c_X9_init h) rfl rfl klX6_76 ki_X9_init kn_X9 kc_X9_init rfl 3 ⟨by decide, by decide, by decide +kernel⟩ ⟨Nat.le_of_ble_eq_true rfl, Nat.le_of_ble_eq_true rfl⟩ rfl hl.1 rfl (hw_cat8 (Nat.le_of_ble_eq_true rfl)) ⟨hu30, hv30⟩ dX6_readValue_89) hT (fun S32 H locs h_ hT_ => ?_)
      replace h := h_
      replace hT := hT_
      exact cs_aret (v := (some q30)) hC (Or.inl ⟨_, rfl⟩) hT h dX6_readValue_92 hu30 hv30
    · replace h := h.2 hc
      refine lv_iload_n hx hb dX6_readValue_60 rfl (lv_at hl 1 rfl) ?_
      refine lv_bipush (v := 8) hx hb dX6_readValue_61 (by decide) ?_
      refine lv_ishl hx hb dX6_readValue_63 ?_
      refine lv_aload_n (x := x0) hx hb dX6_readValue_64 rfl (lv_at hl 0 rfl) ?_
      refine lv_iconst (v := 0) hx hb dX6_readValue_65 (by decide) ?_
      refine lv_sipush (v := 255) hx hb dX6_readValue_66 (by decide) ?_
      obtain ⟨hk34_, h⟩ := h
      refine cs_calli0 (cs_runV hx hb hml hown hK hO hT 7 hk34_ (by decide) rfl (c_X6_nextByte h) rfl rfl klX6_44 ki_X6_nextByte ks_X6_nextByte kn_X6 kc_X6_nextByte 2 ⟨rfl, by decide, by decide, by decide +kernel⟩ ⟨Nat.le_of_ble_eq_true rfl, Nat.le_of_ble_eq_true rfl⟩ rfl hl.1 rfl (hw_cat8 (Nat.le_of_ble_eq_true rfl)) ⟨hu, hv⟩ dX6_readValue_69) hT (fun r33 S33 H locs h_ hT_ => ?_)
      replace h := h_
      replace hT := hT_
      refine lv_ior hx hb dX6_readValue_72 ?_
      refine lv_istore_n (lv' := [(2, _), (0, _), (3, _)]) hx hb dX6_readValue_73 rfl hl (by decide) rfl (fun ls hl_ => ?_)
      replace hl := hl_
      refine lv_iinc (v := x3 + 1) (lv' := [(3, _), (2, _), (0, _)]) hx hb dX6_readValue_74 hl (k := 2) rfl rfl (by decide) rfl (fun ls hl_ => ?_)
      replace hl := hl_
      refine lv_goto (tgt := 55) hx hb dX6_readValue_77 (by decide) ?_
      exact ih S33 u v x0 ((x2 <<< (8 &&& 31)) ||| r33) (x3 + 1) _ _ _ h hT (lv_sub hl [2, 1, 0] rfl)
end
def w_X6_readValue_29 (post : Option Nat → cs_S → Prop) (G : Nat → Nat) (mc ms : Nat) (S : cs_S) (u v : Nat) (y0 : Int64) : Prop := u ≤ mc ∧ v ≤ ms ∧ u + 1 ≤ mc ∧ v + 4 ≤ ms ∧ ∀ q35, cs_k S q35 = 0 → ∀ S36, S36 = cs_new S q35 10 → wp_X9_init (fun S37 => post (some q35) S37) G S36 q35 0 y0.toInt32 (some (G 0))
section
variable {p : Program} {l : Launch} {e : Env} {s : State} {m : MethodId} {args : Array Value} {below : List Frame} {meth : Method} {c : Code} {P : hw_G} {G : Nat → Nat} {A : Nat → Prop}
set_option maxRecDepth 100000 in
set_option maxHeartbeats 4000000 in
theorem t_X6_readValue_29 {post : Option Nat → cs_S → Prop} {mc ms : Nat} (hC : rf_C P RX6 p s m meth c cX6_readValue 6 (some (.object "WatchHouse$Value"))) (hin : meth.name = yX6_readValue.name) (hO : cs_O G A s s.heap) (S : cs_S) (u v : Nat) (y0 : Int64) (H : Heap) (locs : List Loc) (ls : Array Slot) (h : w_X6_readValue_29 post G mc ms S u v y0) (hT : cs_T P s A S H locs) (hl : lv_has ls 6 []) : W p l e (rm_X6_readValue mc ms) s m args below meth c H locs u v (MQ below (cs_Qr P A post) args s mc ms A) (F0 m 29 ls [.long y0]) := by
  obtain ⟨hx, hb, hml, hown, hK, -, -⟩ := id hC
  obtain ⟨hu, hv, h⟩ := h
  refine lv_lstore (lv' := [(4, _)]) hx hb dX6_readValue_29 hl (by decide) rfl (fun ls hl_ => ?_)
  replace hl := hl_
  obtain ⟨hu35, hv35, h⟩ := h
  refine cs_newo hx hb hK hT hown 10 (by decide) rfl tyX9_ok cs_df10 kxX6_57 kj_X9 kn_X9 hu35 hv35 dX6_readValue_31 (fun q35 H hq35 hT_ => ?_)
  replace h := h q35 hq35
  replace hT := hT_
  obtain ⟨S36, eS36⟩ : ∃ z, z = cs_new S q35 10 := ⟨_, rfl⟩
  rw [← eS36] at hT
  replace h := h S36 eS36
  refine lv_dup hx hb dX6_readValue_34 rfl ?_
  refine lv_iconst (v := 0) hx hb dX6_readValue_35 (by decide) ?_
  refine lv_lload hx hb dX6_readValue_36 (lv_at hl 0 rfl) ?_
  refine lv_l2i (v := y0.toInt32) hx hb dX6_readValue_38 rfl ?_
  refine cs_getsN hx hb hO hT hown kfnX6_15 dX6_readValue_39 ?_
  refine cs_callv0 (cs_runI hx hb hml hown hK hO hT (c_X9_init h) rfl rfl klX6_76 ki_X9_init kn_X9 kc_X9_init rfl 3 ⟨by decide, by decide, by decide +kernel⟩ ⟨Nat.le_of_ble_eq_true rfl, Nat.le_of_ble_eq_true rfl⟩ rfl hl.1 rfl (hw_cat8 (Nat.le_of_ble_eq_true rfl)) ⟨hu35, hv35⟩ dX6_readValue_42) hT (fun S37 H locs h_ hT_ => ?_)
  replace h := h_
  replace hT := hT_
  exact cs_aret (v := (some q35)) hC (Or.inl ⟨_, rfl⟩) hT h dX6_readValue_45 hu35 hv35
end
def wp_X6_readValue (post : Option Nat → cs_S → Prop) (G : Nat → Nat) (mc ms : Nat) (S : cs_S) (o : Nat) (p1 : Int32) : Prop := (¬ p1 = 0 → (¬ p1 = 2 → cs_k S o = 8 ∧ wp_X6_nextByte (fun r38 S38 => (¬ r38 = 0 → ¬ r38 < 0 ∧ r38.toNatClampNeg * componentBytes (cs_aty 20) ≤ 536870912 ∧ 0 + 1 ≤ mc ∧ 0 + r38.toNatClampNeg ≤ ms ∧ ∀ q40, cs_k S38 q40 = 0 → ∀ S41, S41 = cs_newA S38 q40 20 r38.toNatClampNeg → w_X6_readValue_114 post G mc ms S41 (0 + 1) (0 + r38.toNatClampNeg) o r38 (some q40)) ∧ (r38 = 0 → w_X6_readValue_114 post G mc ms S38 0 0 o r38 (some (G 0)))) G S o 0 24) ∧ (p1 = 2 → ∃ n9, w_X6_readValue_55 post G mc ms n9 S 0 0 o 0 0)) ∧ (p1 = 0 → cs_k S o = 8 ∧ wp_X6_readUnsigned (fun r42 S42 => (¬ (lg_cmp (r42 &&& 1) 0) = 0 → w_X6_readValue_29 post G mc ms S42 0 0 ((-(r42 >>> ((1 : Int32).toInt64 &&& 63))) - 1)) ∧ ((lg_cmp (r42 &&& 1) 0) = 0 → w_X6_readValue_29 post G mc ms S42 0 0 (r42 >>> ((1 : Int32).toInt64 &&& 63)))) G S o)
set_option maxRecDepth 100000 in
set_option maxHeartbeats 4000000 in
theorem c_X6_readValue {l : Launch} {P : hw_G} {G : Nat → Nat} {S : cs_S} {sz : Nat} {mc ms : Nat} {o : Nat} {p1 : Int32} {post : Option Nat → cs_S → Prop} (h : wp_X6_readValue post G mc ms S o p1) : Met l yX6_readValue [Cond.code yX6_readValue cX6_readValue 6 (some (.object "WatchHouse$Value"))] (rm_X6_readValue mc ms) (cs_Pc P G S sz [.ref o, .int p1]) (cs_Qr P (cs_A S sz) post) mc ms (cs_A S sz) := by
  refine cs_met (by decide) rfl (Nat.le_of_ble_eq_true rfl) ?_
  intro p e s m below meth c ls hC hin hO hT hl
  obtain ⟨hx, hb, hml, hown, hK, -, -⟩ := id hC
  replace hl : lv_has ls 6 [(0, .ref o), (1, .int p1)] := hl
  refine lv_iload_n hx hb dX6_readValue_0 rfl (lv_at hl 1 rfl) ?_
  refine lv_if_ne (tgt := 46) hx hb dX6_readValue_1 (by decide) (fun hc => ?_) (fun hc => ?_)
  · replace h := h.1 hc
    refine lv_iload_n hx hb dX6_readValue_46 rfl (lv_at hl 1 rfl) ?_
    refine lv_iconst (v := 2) hx hb dX6_readValue_47 (by decide) ?_
    refine lv_icmp_ne (tgt := 93) hx hb dX6_readValue_48 (by decide) (fun hc => ?_) (fun hc => ?_)
    · replace h := h.1 hc
      refine lv_aload_n (x := o) hx hb dX6_readValue_93 rfl (lv_at hl 0 rfl) ?_
      refine lv_iconst (v := 0) hx hb dX6_readValue_94 (by decide) ?_
      refine lv_bipush (v := 24) hx hb dX6_readValue_95 (by decide) ?_
      obtain ⟨hk39_, h⟩ := h
      refine cs_calli0 (cs_runV hx hb hml hown hK hO hT 7 hk39_ (by decide) rfl (c_X6_nextByte h) rfl rfl klX6_44 ki_X6_nextByte ks_X6_nextByte kn_X6 kc_X6_nextByte 2 ⟨rfl, by decide, by decide, by decide +kernel⟩ ⟨Nat.le_of_ble_eq_true rfl, Nat.le_of_ble_eq_true rfl⟩ rfl hl.1 rfl (hw_cat8 (Nat.le_of_ble_eq_true rfl)) ⟨(Nat.zero_le _), (Nat.zero_le _)⟩ dX6_readValue_97) hT (fun r38 S38 H locs h_ hT_ => ?_)
      replace h := h_
      replace hT := hT_
      refine lv_istore_n (lv' := [(2, _), (0, _), (1, _)]) hx hb dX6_readValue_100 rfl hl (by decide) rfl (fun ls hl_ => ?_)
      replace hl := hl_
      refine lv_iload_n hx hb dX6_readValue_101 rfl (lv_at hl 0 rfl) ?_
      refine lv_if_ne (tgt := 111) hx hb dX6_readValue_102 (by decide) (fun hc => ?_) (fun hc => ?_)
      · replace h := h.1 hc
        refine lv_iload_n hx hb dX6_readValue_111 rfl (lv_at hl 0 rfl) ?_
        obtain ⟨hn1, hn2, hu40, hv40, h⟩ := h
        refine cs_newa hx hb hK hT 20 rfl ka_int (by decide) (by decide) rfl hn1 hn2 hu40 hv40 dX6_readValue_112 (fun q40 H hq40 hT_ => ?_)
        replace h := h q40 hq40
        replace hT := hT_
        obtain ⟨S41, eS41⟩ : ∃ z, z = cs_newA S38 q40 20 r38.toNatClampNeg := ⟨_, rfl⟩
        rw [← eS41] at hT
        replace h := h S41 eS41
        exact t_X6_readValue_114 hC hin hO S41 (0 + 1) (0 + r38.toNatClampNeg) o r38 (some q40) _ _ _ h hT (lv_sub hl [1, 0] rfl)
      · replace h := h.2 hc
        refine cs_getsN hx hb hO hT hown kfnX6_15 dX6_readValue_105 ?_
        refine lv_goto (tgt := 114) hx hb dX6_readValue_108 (by decide) ?_
        exact t_X6_readValue_114 hC hin hO S38 0 0 o r38 (some (G 0)) _ _ _ h hT (lv_sub hl [1, 0] rfl)
    · replace h := h.2 hc
      refine lv_iconst (v := 0) hx hb dX6_readValue_51 (by decide) ?_
      refine lv_istore_n (lv' := [(2, _), (0, _), (1, _)]) hx hb dX6_readValue_52 rfl hl (by decide) rfl (fun ls hl_ => ?_)
      replace hl := hl_
      refine lv_iconst (v := 0) hx hb dX6_readValue_53 (by decide) ?_
      refine lv_istore_n (lv' := [(3, _), (2, _), (0, _), (1, _)]) hx hb dX6_readValue_54 rfl hl (by decide) rfl (fun ls hl_ => ?_)
      replace hl := hl_
      obtain ⟨n9, h⟩ := h
      exact t_X6_readValue_55 hC hin hO n9 S 0 0 o 0 0 _ _ _ h hT (lv_sub hl [2, 1, 0] rfl)
  · replace h := h.2 hc
    refine lv_aload_n (x := o) hx hb dX6_readValue_4 rfl (lv_at hl 0 rfl) ?_
    obtain ⟨hk43_, h⟩ := h
    refine cs_calll0 (cs_runV hx hb hml hown hK hO hT 7 hk43_ (by decide) rfl (c_X6_readUnsigned h) rfl rfl klX6_47 ki_X6_readUnsigned ks_X6_readUnsigned kn_X6 kc_X6_readUnsigned 0 ⟨rfl, by decide, by decide, by decide +kernel⟩ ⟨Nat.le_of_ble_eq_true rfl, Nat.le_of_ble_eq_true rfl⟩ rfl hl.1 rfl (hw_cat8 (Nat.le_of_ble_eq_true rfl)) ⟨(Nat.zero_le _), (Nat.zero_le _)⟩ dX6_readValue_5) hT (fun r42 S42 H locs h_ hT_ => ?_)
    replace h := h_
    replace hT := hT_
    refine lv_lstore_n (lv' := [(2, _), (0, _), (1, _)]) hx hb dX6_readValue_8 rfl hl (by decide) rfl (fun ls hl_ => ?_)
    replace hl := hl_
    refine lv_lload_n hx hb dX6_readValue_9 rfl (lv_at hl 0 rfl) ?_
    refine lv_lconst (v := 1) hx hb dX6_readValue_10 (by decide) ?_
    refine lv_land hx hb dX6_readValue_11 ?_
    refine lv_lconst (v := 0) hx hb dX6_readValue_12 (by decide) ?_
    refine W.lcmp hx hb dX6_readValue_13 ?_
    refine lv_if_ne (tgt := 23) hx hb dX6_readValue_14 (by decide) (fun hc => ?_) (fun hc => ?_)
    · replace h := h.1 hc
      refine lv_lload_n hx hb dX6_readValue_23 rfl (lv_at hl 0 rfl) ?_
      refine lv_iconst (v := 1) hx hb dX6_readValue_24 (by decide) ?_
      refine lv_lshr (v := r42 >>> ((1 : Int32).toInt64 &&& 63)) hx hb dX6_readValue_25 rfl ?_
      refine lv_lneg hx hb dX6_readValue_26 ?_
      refine lv_lconst (v := 1) hx hb dX6_readValue_27 (by decide) ?_
      refine lv_lsub hx hb dX6_readValue_28 ?_
      exact t_X6_readValue_29 hC hin hO S42 0 0 ((-(r42 >>> ((1 : Int32).toInt64 &&& 63))) - 1) _ _ _ h hT (lv_sub hl [] rfl)
    · replace h := h.2 hc
      refine lv_lload_n hx hb dX6_readValue_17 rfl (lv_at hl 0 rfl) ?_
      refine lv_iconst (v := 1) hx hb dX6_readValue_18 (by decide) ?_
      refine lv_lshr (v := r42 >>> ((1 : Int32).toInt64 &&& 63)) hx hb dX6_readValue_19 rfl ?_
      refine lv_goto (tgt := 29) hx hb dX6_readValue_20 (by decide) ?_
      exact t_X6_readValue_29 hC hin hO S42 0 0 (r42 >>> ((1 : Int32).toInt64 &&& 63)) _ _ _ h hT (lv_sub hl [] rfl)
/-! X6_checkOf -/
abbrev rm_X6_checkOf : Room := { frames := 1, cells := 0, slots := 0, locals := 24 }
def w_X6_checkOf_68 (post : Int32 → cs_S → Prop) (G : Nat → Nat) (S : cs_S) (x3 : Int32) : Prop := post x3 S
section
variable {p : Program} {l : Launch} {e : Env} {s : State} {m : MethodId} {args : Array Value} {below : List Frame} {meth : Method} {c : Code} {P : hw_G} {G : Nat → Nat} {A : Nat → Prop}
set_option maxRecDepth 100000 in
set_option maxHeartbeats 4000000 in
theorem t_X6_checkOf_68 {post : Int32 → cs_S → Prop} (hC : rf_C P RX6 p s m meth c cX6_checkOf 6 (some .int)) (hin : meth.name = yX6_checkOf.name) (hO : cs_O G A s s.heap) (S : cs_S) (x3 : Int32) (H : Heap) (locs : List Loc) (ls : Array Slot) (h : w_X6_checkOf_68 post G S x3) (hT : cs_T P s A S H locs) (hl : lv_has ls 6 [(3, .int x3)]) : W p l e rm_X6_checkOf s m args below meth c H locs 0 0 (MQ below (cs_Qi P A post) args s 0 0 A) (F0 m 68 ls []) := by
  obtain ⟨hx, hb, hml, hown, hK, -, -⟩ := id hC
  refine lv_iload_n hx hb dX6_checkOf_68 rfl (lv_at hl 0 rfl) ?_
  exact cs_iret hC hT h dX6_checkOf_69 (Nat.le_refl _) (Nat.le_refl _)
end
def w_X6_checkOf_56 (post : Int32 → cs_S → Prop) (G : Nat → Nat) (k9 : cs_S → Option Nat → Int32 → Int32 → Int32 → Prop) (k32 : cs_S → Option Nat → Int32 → Int32 → Int32 → Int32 → Prop) (S : cs_S) (x0 : Option Nat) (x2 : Int32) (x3 : Int32) (x4 : Int32) (x5 : Int32) : Prop := k32 S x0 x2 x3 x4 (x5 + 1)
section
variable {p : Program} {l : Launch} {e : Env} {s : State} {m : MethodId} {args : Array Value} {below : List Frame} {meth : Method} {c : Code} {P : hw_G} {G : Nat → Nat} {A : Nat → Prop}
set_option maxRecDepth 100000 in
set_option maxHeartbeats 4000000 in
theorem t_X6_checkOf_56 {post : Int32 → cs_S → Prop} {k9 : cs_S → Option Nat → Int32 → Int32 → Int32 → Prop} {k32 : cs_S → Option Nat → Int32 → Int32 → Int32 → Int32 → Prop} (hC : rf_C P RX6 p s m meth c cX6_checkOf 6 (some .int)) (hin : meth.name = yX6_checkOf.name) (hO : cs_O G A s s.heap) (hk9 : ∀ (S : cs_S) (x0 : Option Nat) (x2 : Int32) (x3 : Int32) (x4 : Int32) (H : Heap) (locs : List Loc) (ls : Array Slot), k9 S x0 x2 x3 x4 → cs_T P s A S H locs → lv_has ls 6 [(0, va_rf x0), (2, .int x2), (3, .int x3), (4, .int x4)] → W p l e rm_X6_checkOf s m args below meth c H locs 0 0 (MQ below (cs_Qi P A post) args s 0 0 A) (F0 m 9 ls [])) (hk32 : ∀ (S : cs_S) (x0 : Option Nat) (x2 : Int32) (x3 : Int32) (x4 : Int32) (x5 : Int32) (H : Heap) (locs : List Loc) (ls : Array Slot), k32 S x0 x2 x3 x4 x5 → cs_T P s A S H locs → lv_has ls 6 [(0, va_rf x0), (2, .int x2), (3, .int x3), (4, .int x4), (5, .int x5)] → W p l e rm_X6_checkOf s m args below meth c H locs 0 0 (MQ below (cs_Qi P A post) args s 0 0 A) (F0 m 32 ls [])) (S : cs_S) (x0 : Option Nat) (x2 : Int32) (x3 : Int32) (x4 : Int32) (x5 : Int32) (H : Heap) (locs : List Loc) (ls : Array Slot) (h : w_X6_checkOf_56 post G k9 k32 S x0 x2 x3 x4 x5) (hT : cs_T P s A S H locs) (hl : lv_has ls 6 [(0, va_rf x0), (2, .int x2), (3, .int x3), (4, .int x4), (5, .int x5)]) : W p l e rm_X6_checkOf s m args below meth c H locs 0 0 (MQ below (cs_Qi P A post) args s 0 0 A) (F0 m 56 ls []) := by
  obtain ⟨hx, hb, hml, hown, hK, -, -⟩ := id hC
  refine lv_iinc (v := x5 + 1) (lv' := [(5, _), (0, _), (2, _), (3, _), (4, _)]) hx hb dX6_checkOf_56 hl (k := 4) rfl rfl (by decide) rfl (fun ls hl_ => ?_)
  replace hl := hl_
  refine lv_goto (tgt := 32) hx hb dX6_checkOf_59 (by decide) ?_
  exact hk32 S x0 x2 x3 x4 (x5 + 1) _ _ _ h hT (lv_sub hl [1, 2, 3, 4, 0] rfl)
end
def w_X6_checkOf_32 (post : Int32 → cs_S → Prop) (G : Nat → Nat) (k9 : cs_S → Option Nat → Int32 → Int32 → Int32 → Prop) : Nat → cs_S → Option Nat → Int32 → Int32 → Int32 → Int32 → Prop
  | 0, _, _, _, _, _, _ => False
  | n + 1, S, x0, x2, x3, x4, x5 => (8 ≤ x5 → k9 S x0 x2 x3 (x4 + 1)) ∧ (¬ 8 ≤ x5 → ((x3 * 2) ≤ 255 → w_X6_checkOf_56 post G k9 (w_X6_checkOf_32 post G k9 n) S x0 x2 (x3 * 2) x4 x5) ∧ (¬ (x3 * 2) ≤ 255 → w_X6_checkOf_56 post G k9 (w_X6_checkOf_32 post G k9 n) S x0 x2 ((x3 * 2) ^^^ 263) x4 x5))
section
variable {p : Program} {l : Launch} {e : Env} {s : State} {m : MethodId} {args : Array Value} {below : List Frame} {meth : Method} {c : Code} {P : hw_G} {G : Nat → Nat} {A : Nat → Prop}
set_option maxRecDepth 100000 in
set_option maxHeartbeats 4000000 in
theorem t_X6_checkOf_32 {post : Int32 → cs_S → Prop} {k9 : cs_S → Option Nat → Int32 → Int32 → Int32 → Prop} (hC : rf_C P RX6 p s m meth c cX6_checkOf 6 (some .int)) (hin : meth.name = yX6_checkOf.name) (hO : cs_O G A s s.heap) (hk9 : ∀ (S : cs_S) (x0 : Option Nat) (x2 : Int32) (x3 : Int32) (x4 : Int32) (H : Heap) (locs : List Loc) (ls : Array Slot), k9 S x0 x2 x3 x4 → cs_T P s A S H locs → lv_has ls 6 [(0, va_rf x0), (2, .int x2), (3, .int x3), (4, .int x4)] → W p l e rm_X6_checkOf s m args below meth c H locs 0 0 (MQ below (cs_Qi P A post) args s 0 0 A) (F0 m 9 ls [])) : ∀ (n : Nat) (S : cs_S) (x0 : Option Nat) (x2 : Int32) (x3 : Int32) (x4 : Int32) (x5 : Int32) (H : Heap) (locs : List Loc) (ls : Array Slot), w_X6_checkOf_32 post G k9 n S x0 x2 x3 x4 x5 → cs_T P s A S H locs → lv_has ls 6 [(0, va_rf x0), (2, .int x2), (3, .int x3), (4, .int x4), (5, .int x5)] → W p l e rm_X6_checkOf s m args below meth c H locs 0 0 (MQ below (cs_Qi P A post) args s 0 0 A) (F0 m 32 ls []) := by
  obtain ⟨hx, hb, hml, hown, hK, -, -⟩ := id hC
  intro n
  induction n with
  | zero => intro S x0 x2 x3 x4 x5 H locs ls h; exact False.elim h
  | succ n ih =>
    intro S x0 x2 x3 x4 x5 H locs ls h hT hl
    refine lv_iload hx hb dX6_checkOf_32 (lv_at hl 4 rfl) ?_
    refine lv_bipush (v := 8) hx hb dX6_checkOf_34 (by decide) ?_
    refine lv_icmp_ge (tgt := 62) hx hb dX6_checkOf_36 (by decide) (fun hc => ?_) (fun hc => ?_)
    · replace h := h.1 hc
      refine lv_iinc (v := x4 + 1) (lv' := [(4, _), (0, _), (2, _), (3, _), (5, _)]) hx hb dX6_checkOf_62 hl (k := 3) rfl rfl (by decide) rfl (fun ls hl_ => ?_)
      replace hl := hl_
      refine lv_goto (tgt := 9) hx hb dX6_checkOf_65 (by decide) ?_
      exact hk9 S x0 x2 x3 (x4 + 1) _ _ _ h hT (lv_sub hl [1, 2, 3, 0] rfl)
    · replace h := h.2 hc
      refine lv_iload_n hx hb dX6_checkOf_39 rfl (lv_at hl 2 rfl) ?_
      refine lv_iconst (v := 2) hx hb dX6_checkOf_40 (by decide) ?_
      refine lv_imul hx hb dX6_checkOf_41 ?_
      refine lv_istore_n (lv' := [(3, _), (0, _), (2, _), (4, _), (5, _)]) hx hb dX6_checkOf_42 rfl hl (by decide) rfl (fun ls hl_ => ?_)
      replace hl := hl_
      refine lv_iload_n hx hb dX6_checkOf_43 rfl (lv_at hl 0 rfl) ?_
      refine lv_sipush (v := 255) hx hb dX6_checkOf_44 (by decide) ?_
      refine lv_icmp_le (tgt := 56) hx hb dX6_checkOf_47 (by decide) (fun hc => ?_) (fun hc => ?_)
      · replace h := h.1 hc
        exact t_X6_checkOf_56 hC hin hO hk9 ih S x0 x2 (x3 * 2) x4 x5 _ _ _ h hT (lv_sub hl [1, 2, 0, 3, 4] rfl)
      · replace h := h.2 hc
        refine lv_iload_n hx hb dX6_checkOf_50 rfl (lv_at hl 0 rfl) ?_
        refine lv_sipush (v := 263) hx hb dX6_checkOf_51 (by decide) ?_
        refine lv_ixor hx hb dX6_checkOf_54 ?_
        refine lv_istore_n (lv' := [(3, _), (0, _), (2, _), (4, _), (5, _)]) hx hb dX6_checkOf_55 rfl hl (by decide) rfl (fun ls hl_ => ?_)
        replace hl := hl_
        exact t_X6_checkOf_56 hC hin hO hk9 ih S x0 x2 ((x3 * 2) ^^^ 263) x4 x5 _ _ _ h hT (lv_sub hl [1, 2, 0, 3, 4] rfl)
end
def w_X6_checkOf_9 (post : Int32 → cs_S → Prop) (G : Nat → Nat) : Nat → cs_S → Option Nat → Int32 → Int32 → Int32 → Prop
  | 0, _, _, _, _, _ => False
  | n + 1, S, x0, x2, x3, x4 => (x2 ≤ x4 → w_X6_checkOf_68 post G S x3) ∧ (¬ x2 ≤ x4 → ∃ b3, x0 = some b3 ∧ cs_k S b3 = 20 ∧ ((Int32.ofNat (cs_n S b3)) ≤ x4 → w_X6_checkOf_68 post G S x3) ∧ (¬ (Int32.ofNat (cs_n S b3)) ≤ x4 → vp_in x4 (cs_n S b3) ∧ ∃ n9, w_X6_checkOf_32 post G (w_X6_checkOf_9 post G n) n9 S (some b3) x2 (x3 ^^^ (cs_ai S b3 x4.toNatClampNeg)) x4 0))
section
variable {p : Program} {l : Launch} {e : Env} {s : State} {m : MethodId} {args : Array Value} {below : List Frame} {meth : Method} {c : Code} {P : hw_G} {G : Nat → Nat} {A : Nat → Prop}
set_option maxRecDepth 100000 in
set_option maxHeartbeats 4000000 in
theorem t_X6_checkOf_9 {post : Int32 → cs_S → Prop} (hC : rf_C P RX6 p s m meth c cX6_checkOf 6 (some .int)) (hin : meth.name = yX6_checkOf.name) (hO : cs_O G A s s.heap) : ∀ (n : Nat) (S : cs_S) (x0 : Option Nat) (x2 : Int32) (x3 : Int32) (x4 : Int32) (H : Heap) (locs : List Loc) (ls : Array Slot), w_X6_checkOf_9 post G n S x0 x2 x3 x4 → cs_T P s A S H locs → lv_has ls 6 [(0, va_rf x0), (2, .int x2), (3, .int x3), (4, .int x4)] → W p l e rm_X6_checkOf s m args below meth c H locs 0 0 (MQ below (cs_Qi P A post) args s 0 0 A) (F0 m 9 ls []) := by
  obtain ⟨hx, hb, hml, hown, hK, -, -⟩ := id hC
  intro n
  induction n with
  | zero => intro S x0 x2 x3 x4 H locs ls h; exact False.elim h
  | succ n ih =>
    intro S x0 x2 x3 x4 H locs ls h hT hl
    refine lv_iload hx hb dX6_checkOf_9 (lv_at hl 3 rfl) ?_
    refine lv_iload_n hx hb dX6_checkOf_11 rfl (lv_at hl 1 rfl) ?_
    refine lv_icmp_ge (tgt := 68) hx hb dX6_checkOf_12 (by decide) (fun hc => ?_) (fun hc => ?_)
    · replace h := h.1 hc
      exact t_X6_checkOf_68 hC hin hO S x3 _ _ _ h hT (lv_sub hl [2] rfl)
    · replace h := h.2 hc
      refine lv_iload hx hb dX6_checkOf_15 (lv_at hl 3 rfl) ?_
      refine hw_aload_n (x := x0) hx hb dX6_checkOf_17 rfl (lv_at hl 0 rfl) ?_
      obtain ⟨b3, rfl, h⟩ := h
      obtain ⟨hk4_, h⟩ := h
      refine cs_alen hx hb hK hT 20 hk4_ (by decide) (by decide) dX6_checkOf_18 ?_
      refine lv_icmp_ge (tgt := 68) hx hb dX6_checkOf_19 (by decide) (fun hc => ?_) (fun hc => ?_)
      · replace h := h.1 hc
        exact t_X6_checkOf_68 hC hin hO S x3 _ _ _ h hT (lv_sub hl [2] rfl)
      · replace h := h.2 hc
        refine lv_iload_n hx hb dX6_checkOf_22 rfl (lv_at hl 2 rfl) ?_
        refine lv_aload_n (x := b3) hx hb dX6_checkOf_23 rfl (lv_at hl 0 rfl) ?_
        refine lv_iload hx hb dX6_checkOf_24 (lv_at hl 3 rfl) ?_
        obtain ⟨hi, h⟩ := h
        refine cs_iald hx hb hK hT hk4_ hi dX6_checkOf_26 ?_
        refine lv_ixor hx hb dX6_checkOf_27 ?_
        refine lv_istore_n (lv' := [(3, _), (0, _), (2, _), (4, _)]) hx hb dX6_checkOf_28 rfl hl (by decide) rfl (fun ls hl_ => ?_)
        replace hl := hl_
        refine lv_iconst (v := 0) hx hb dX6_checkOf_29 (by decide) ?_
        refine lv_istore (lv' := [(5, _), (3, _), (0, _), (2, _), (4, _)]) hx hb dX6_checkOf_30 hl (by decide) rfl (fun ls hl_ => ?_)
        replace hl := hl_
        obtain ⟨n9, h⟩ := h
        exact t_X6_checkOf_32 hC hin hO ih n9 S (some b3) x2 (x3 ^^^ (cs_ai S b3 x4.toNatClampNeg)) x4 0 _ _ _ h hT (lv_sub hl [2, 3, 1, 4, 0] rfl)
end
def wp_X6_checkOf (post : Int32 → cs_S → Prop) (G : Nat → Nat) (S : cs_S) (p0 : Option Nat) (p1 : Int32) (p2 : Int32) : Prop := ∃ n9, w_X6_checkOf_9 post G n9 S p0 p2 0 (if p1 < 0 then 0 else p1)
set_option maxRecDepth 100000 in
set_option maxHeartbeats 4000000 in
theorem c_X6_checkOf {l : Launch} {P : hw_G} {G : Nat → Nat} {S : cs_S} {sz : Nat} {p0 : Option Nat} {p1 : Int32} {p2 : Int32} {post : Int32 → cs_S → Prop} (h : wp_X6_checkOf post G S p0 p1 p2) : Met l yX6_checkOf [Cond.code yX6_checkOf cX6_checkOf 6 (some .int)] rm_X6_checkOf (cs_Pc P G S sz [va_rf p0, .int p1, .int p2]) (cs_Qi P (cs_A S sz) post) 0 0 (cs_A S sz) := by
  refine cs_met (by decide) rfl (by cases p0 <;> exact Nat.le_of_ble_eq_true rfl) ?_
  intro p e s m below meth c ls hC hin hO hT hl
  obtain ⟨hx, hb, hml, hown, hK, -, -⟩ := id hC
  replace hl : lv_has ls 6 [(0, va_rf p0), (1, .int p1), (2, .int p2)] := by cases p0 <;> exact hl
  refine lv_iconst (v := 0) hx hb dX6_checkOf_0 (by decide) ?_
  refine lv_istore_n (lv' := [(3, _), (0, _), (1, _), (2, _)]) hx hb dX6_checkOf_1 rfl hl (by decide) rfl (fun ls hl_ => ?_)
  replace hl := hl_
  refine lv_iload_n hx hb dX6_checkOf_2 rfl (lv_at hl 2 rfl) ?_
  refine lv_iconst (v := 0) hx hb dX6_checkOf_3 (by decide) ?_
  refine va_mmax hx hb (hml.trans hl.1.symm) hown (hK.word klX6_79m rfl) (hK.word ki_mmax rfl) (hK.word kn_J9 rfl) (hK.word kc_mmax rfl) (Nat.le_of_ble_eq_true rfl) (hw_catN (Nat.le_of_ble_eq_true rfl) (Nat.le_of_ble_eq_true rfl)) (Nat.le_refl _) (Nat.le_refl _) dX6_checkOf_4 ?_
  refine lv_istore (lv' := [(4, _), (3, _), (0, _), (1, _), (2, _)]) hx hb dX6_checkOf_7 hl (by decide) rfl (fun ls hl_ => ?_)
  replace hl := hl_
  obtain ⟨n9, h⟩ := h
  exact t_X6_checkOf_9 hC hin hO n9 S p0 p2 0 (if p1 < 0 then 0 else p1) _ _ _ h hT (lv_sub hl [2, 4, 1, 0] rfl)
/-! X6_readRecord -/
abbrev rm_X6_readRecord (mc ms : Nat) : Room := { frames := 4, cells := mc, slots := ms, locals := 95 }
def w_X6_readRecord_236 (post : Option Nat → cs_S → Prop) (G : Nat → Nat) (mc ms : Nat) (S : cs_S) (u v : Nat) (y0 : Option Nat) : Prop := u ≤ mc ∧ v ≤ ms ∧ post y0 S
section
variable {p : Program} {l : Launch} {e : Env} {s : State} {m : MethodId} {args : Array Value} {below : List Frame} {meth : Method} {c : Code} {P : hw_G} {G : Nat → Nat} {A : Nat → Prop}
set_option maxRecDepth 100000 in
set_option maxHeartbeats 4000000 in
theorem t_X6_readRecord_236 {post : Option Nat → cs_S → Prop} {mc ms : Nat} (hC : rf_C P RX6 p s m meth c cX6_readRecord 16 (some (.object "WatchHouse$Event"))) (hin : meth.name = yX6_readRecord.name) (hO : cs_O G A s s.heap) (S : cs_S) (u v : Nat) (y0 : Option Nat) (H : Heap) (locs : List Loc) (ls : Array Slot) (h : w_X6_readRecord_236 post G mc ms S u v y0) (hT : cs_T P s A S H locs) (hl : lv_has ls 16 []) : W p l e (rm_X6_readRecord mc ms) s m args below meth c H locs u v (MQ below (cs_Qr P A post) args s mc ms A) (F0 m 236 ls [va_rf y0]) := by
  obtain ⟨hx, hb, hml, hown, hK, -, -⟩ := id hC
  obtain ⟨hu, hv, h⟩ := h
  exact cs_aret (v := y0) hC (Or.inl ⟨_, rfl⟩) hT h dX6_readRecord_236 hu hv
end
def w_X6_readRecord_208 (post : Option Nat → cs_S → Prop) (G : Nat → Nat) (mc ms : Nat) (S : cs_S) (u v : Nat) (x0 : Nat) (x5 : Int64) (x7 : Int64) (x10 : Option Nat) (x11 : Option Nat) : Prop := u ≤ mc ∧ v ≤ ms ∧ cs_k S x0 = 8 ∧ (¬ (cs_i S 700 x0) = 0 → w_X6_readRecord_236 post G mc ms S u v none) ∧ ((cs_i S 700 x0) = 0 → u + 1 ≤ mc ∧ v + 7 ≤ ms ∧ ∀ q40, cs_k S q40 = 0 → ∀ S41, S41 = cs_new S q40 4 → wp_X3_init (fun S42 => w_X6_readRecord_236 post G mc ms S42 (u + 1) (v + 7) (some q40)) G S41 q40 x5.toInt32 x7 ((-1)) x10 x11)
section
variable {p : Program} {l : Launch} {e : Env} {s : State} {m : MethodId} {args : Array Value} {below : List Frame} {meth : Method} {c : Code} {P : hw_G} {G : Nat → Nat} {A : Nat → Prop}
set_option maxRecDepth 100000 in
set_option maxHeartbeats 4000000 in
theorem t_X6_readRecord_208 {post : Option Nat → cs_S → Prop} {mc ms : Nat} (hC : rf_C P RX6 p s m meth c cX6_readRecord 16 (some (.object "WatchHouse$Event"))) (hin : meth.name = yX6_readRecord.name) (hO : cs_O G A s s.heap) (S : cs_S) (u v : Nat) (x0 : Nat) (x5 : Int64) (x7 : Int64) (x10 : Option Nat) (x11 : Option Nat) (H : Heap) (locs : List Loc) (ls : Array Slot) (h : w_X6_readRecord_208 post G mc ms S u v x0 x5 x7 x10 x11) (hT : cs_T P s A S H locs) (hl : lv_has ls 16 [(0, .ref x0), (5, .long x5), (7, .long x7), (10, va_rf x10), (11, va_rf x11)]) : W p l e (rm_X6_readRecord mc ms) s m args below meth c H locs u v (MQ below (cs_Qr P A post) args s mc ms A) (F0 m 208 ls []) := by
  obtain ⟨hx, hb, hml, hown, hK, -, -⟩ := id hC
  obtain ⟨hu, hv, h⟩ := h
  refine lv_aload_n (x := x0) hx hb dX6_readRecord_208 rfl (lv_at hl 0 rfl) ?_
  obtain ⟨hk39_, h⟩ := h
  refine cs_get hx hb hK hT hown 7 hk39_ (by decide) rfl 0 (by decide) kfX6_37 (v := .int (cs_i S 700 x0)) rfl dX6_readRecord_209 ?_
  refine lv_if_ne (tgt := 235) hx hb dX6_readRecord_212 (by decide) (fun hc => ?_) (fun hc => ?_)
  · replace h := h.1 hc
    refine hw_null hx hb dX6_readRecord_235 ?_
    exact t_X6_readRecord_236 hC hin hO S u v none _ _ _ h hT (lv_sub hl [] rfl)
  · replace h := h.2 hc
    obtain ⟨hu40, hv40, h⟩ := h
    refine cs_newo hx hb hK hT hown 4 (by decide) rfl tyX3_ok cs_df4 kxX6_67 kj_X3 kn_X3 hu40 hv40 dX6_readRecord_215 (fun q40 H hq40 hT_ => ?_)
    replace h := h q40 hq40
    replace hT := hT_
    obtain ⟨S41, eS41⟩ : ∃ z, z = cs_new S q40 4 := ⟨_, rfl⟩
    rw [← eS41] at hT
    replace h := h S41 eS41
    refine lv_dup hx hb dX6_readRecord_218 rfl ?_
    refine lv_lload hx hb dX6_readRecord_219 (lv_at hl 1 rfl) ?_
    refine lv_l2i (v := x5.toInt32) hx hb dX6_readRecord_221 rfl ?_
    refine lv_lload hx hb dX6_readRecord_222 (lv_at hl 2 rfl) ?_
    refine lv_iconst (v := (-1)) hx hb dX6_readRecord_224 (by decide) ?_
    refine hw_aload (x := x10) hx hb dX6_readRecord_225 (lv_at hl 3 rfl) ?_
    refine hw_aload (x := x11) hx hb dX6_readRecord_227 (lv_at hl 4 rfl) ?_
    refine cs_callv0 (cs_runI hx hb hml hown hK hO hT (c_X3_init h) rfl rfl klX6_69 ki_X3_init kn_X3 kc_X3_init rfl 5 ⟨by decide, by decide, by decide +kernel⟩ ⟨Nat.le_of_ble_eq_true rfl, Nat.le_of_ble_eq_true rfl⟩ rfl hl.1 rfl (hw_cat8 (Nat.le_of_ble_eq_true rfl)) ⟨hu40, hv40⟩ dX6_readRecord_229) hT (fun S42 H locs h_ hT_ => ?_)
    replace h := h_
    replace hT := hT_
    refine lv_goto (tgt := 236) hx hb dX6_readRecord_232 (by decide) ?_
    exact t_X6_readRecord_236 hC hin hO S42 (u + 1) (v + 7) (some q40) _ _ _ h hT (lv_sub hl [] rfl)
end
def w_X6_readRecord_168 (post : Option Nat → cs_S → Prop) (G : Nat → Nat) (mc ms : Nat) (S : cs_S) (u v : Nat) (x0 : Nat) (x3 : Int32) (x5 : Int64) (x7 : Int64) (x10 : Option Nat) (x11 : Option Nat) : Prop := u ≤ mc ∧ v ≤ ms ∧ cs_k S x0 = 8 ∧ ∀ r44, r44 = cs_r S 704 x0 → wp_X6_checkOf (fun r45 S45 => cs_k S45 x0 = 8 ∧ wp_X6_nextByte (fun r47 S47 => (r47 = r45 → w_X6_readRecord_208 post G mc ms S47 u v x0 x5 x7 x10 x11) ∧ (¬ r47 = r45 → cs_k S47 x0 = 8 ∧ wp_X6_fail (fun S48 => w_X6_readRecord_208 post G mc ms S48 u v x0 x5 x7 x10 x11) G S47 x0 4 (cs_i S45 706 x0))) G S45 x0 0 255) G S r44 x3 (cs_i S 706 x0)
section
variable {p : Program} {l : Launch} {e : Env} {s : State} {m : MethodId} {args : Array Value} {below : List Frame} {meth : Method} {c : Code} {P : hw_G} {G : Nat → Nat} {A : Nat → Prop}
set_option maxRecDepth 100000 in
set_option maxHeartbeats 4000000 in
theorem t_X6_readRecord_168 {post : Option Nat → cs_S → Prop} {mc ms : Nat} (hC : rf_C P RX6 p s m meth c cX6_readRecord 16 (some (.object "WatchHouse$Event"))) (hin : meth.name = yX6_readRecord.name) (hO : cs_O G A s s.heap) (S : cs_S) (u v : Nat) (x0 : Nat) (x3 : Int32) (x5 : Int64) (x7 : Int64) (x10 : Option Nat) (x11 : Option Nat) (H : Heap) (locs : List Loc) (ls : Array Slot) (h : w_X6_readRecord_168 post G mc ms S u v x0 x3 x5 x7 x10 x11) (hT : cs_T P s A S H locs) (hl : lv_has ls 16 [(0, .ref x0), (3, .int x3), (5, .long x5), (7, .long x7), (10, va_rf x10), (11, va_rf x11)]) : W p l e (rm_X6_readRecord mc ms) s m args below meth c H locs u v (MQ below (cs_Qr P A post) args s mc ms A) (F0 m 168 ls []) := by
  obtain ⟨hx, hb, hml, hown, hK, -, -⟩ := id hC
  obtain ⟨hu, hv, h⟩ := h
  refine lv_aload_n (x := x0) hx hb dX6_readRecord_168 rfl (lv_at hl 0 rfl) ?_
  obtain ⟨hk43_, h⟩ := h
  refine cs_get hx hb hK hT hown 7 hk43_ (by decide) rfl 4 (by decide) kfX6_18 (v := va_rf (cs_r S 704 x0)) rfl dX6_readRecord_169 ?_
  refine hw_topr (fun r44 er44 => ?_)
  replace h := h r44 er44
  refine lv_iload_n hx hb dX6_readRecord_172 rfl (lv_at hl 1 rfl) ?_
  refine lv_aload_n (x := x0) hx hb dX6_readRecord_173 rfl (lv_at hl 0 rfl) ?_
  refine cs_get hx hb hK hT hown 7 hk43_ (by decide) rfl 6 (by decide) kfX6_34 (v := .int (cs_i S 706 x0)) rfl dX6_readRecord_174 ?_
  refine cs_calli0 (cs_runS hx hb hml hown hK hO hT (c_X6_checkOf h) rfl rfl klX6_63 ki_X6_checkOf kn_X6 kc_X6_checkOf 3 ⟨by decide, by decide, by decide +kernel⟩ ⟨Nat.le_of_ble_eq_true rfl, Nat.le_of_ble_eq_true rfl⟩ rfl hl.1 rfl (hw_cat8 (Nat.le_of_ble_eq_true rfl)) ⟨hu, hv⟩ dX6_readRecord_177) hT (fun r45 S45 H locs h_ hT_ => ?_)
  replace h := h_
  replace hT := hT_
  refine lv_istore (lv' := [(14, _), (0, _), (3, _), (5, _), (7, _), (10, _), (11, _)]) hx hb dX6_readRecord_180 hl (by decide) rfl (fun ls hl_ => ?_)
  replace hl := hl_
  refine lv_aload_n (x := x0) hx hb dX6_readRecord_182 rfl (lv_at hl 1 rfl) ?_
  obtain ⟨hk46_, h⟩ := h
  refine cs_get hx hb hK hT hown 7 hk46_ (by decide) rfl 6 (by decide) kfX6_34 (v := .int (cs_i S45 706 x0)) rfl dX6_readRecord_183 ?_
  refine lv_istore (lv' := [(15, _), (14, _), (0, _), (3, _), (5, _), (7, _), (10, _), (11, _)]) hx hb dX6_readRecord_186 hl (by decide) rfl (fun ls hl_ => ?_)
  replace hl := hl_
  refine lv_aload_n (x := x0) hx hb dX6_readRecord_188 rfl (lv_at hl 2 rfl) ?_
  refine lv_iconst (v := 0) hx hb dX6_readRecord_189 (by decide) ?_
  refine lv_sipush (v := 255) hx hb dX6_readRecord_190 (by decide) ?_
  refine cs_calli0 (cs_runV hx hb hml hown hK hO hT 7 hk46_ (by decide) rfl (c_X6_nextByte h) rfl rfl klX6_44 ki_X6_nextByte ks_X6_nextByte kn_X6 kc_X6_nextByte 2 ⟨rfl, by decide, by decide, by decide +kernel⟩ ⟨Nat.le_of_ble_eq_true rfl, Nat.le_of_ble_eq_true rfl⟩ rfl hl.1 rfl (hw_cat8 (Nat.le_of_ble_eq_true rfl)) ⟨hu, hv⟩ dX6_readRecord_193) hT (fun r47 S47 H locs h_ hT_ => ?_)
  replace h := h_
  replace hT := hT_
  refine lv_iload hx hb dX6_readRecord_196 (lv_at hl 1 rfl) ?_
  refine lv_icmp_eq (tgt := 208) hx hb dX6_readRecord_198 (by decide) (fun hc => ?_) (fun hc => ?_)
  · replace h := h.1 hc
    exact t_X6_readRecord_208 hC hin hO S47 u v x0 x5 x7 x10 x11 _ _ _ h hT (lv_sub hl [2, 4, 5, 6, 7] rfl)
  · replace h := h.2 hc
    refine lv_aload_n (x := x0) hx hb dX6_readRecord_201 rfl (lv_at hl 2 rfl) ?_
    refine lv_iconst (v := 4) hx hb dX6_readRecord_202 (by decide) ?_
    refine lv_iload hx hb dX6_readRecord_203 (lv_at hl 0 rfl) ?_
    obtain ⟨hk49_, h⟩ := h
    refine cs_callv0 (cs_runV hx hb hml hown hK hO hT 7 hk49_ (by decide) rfl (c_X6_fail h) rfl rfl klX6_40 ki_X6_fail ks_X6_fail kn_X6 kc_X6_fail 2 ⟨rfl, by decide, by decide, by decide +kernel⟩ ⟨Nat.le_of_ble_eq_true rfl, Nat.le_of_ble_eq_true rfl⟩ rfl hl.1 rfl (hw_cat8 (Nat.le_of_ble_eq_true rfl)) ⟨hu, hv⟩ dX6_readRecord_205) hT (fun S48 H locs h_ hT_ => ?_)
    replace h := h_
    replace hT := hT_
    exact t_X6_readRecord_208 hC hin hO S48 u v x0 x5 x7 x10 x11 _ _ _ h hT (lv_sub hl [2, 4, 5, 6, 7] rfl)
end
def w_X6_readRecord_140 (post : Option Nat → cs_S → Prop) (G : Nat → Nat) (mc ms : Nat) (k91 : cs_S → Nat → Nat → Nat → Int32 → Int64 → Int64 → Int32 → Option Nat → Option Nat → Int64 → Int32 → Prop) (S : cs_S) (u v : Nat) (x0 : Nat) (x3 : Int32) (x5 : Int64) (x7 : Int64) (x9 : Int32) (x10 : Option Nat) (x11 : Option Nat) (x14 : Int32) : Prop := u ≤ mc ∧ v ≤ ms ∧ ∃ b50, x10 = some b50 ∧ cs_k S b50 = 21 ∧ vp_in x14 (cs_n S b50) ∧ cs_k S x0 = 8 ∧ wp_X6_nextByte (fun r52 S52 => cs_k S52 x0 = 8 ∧ ∃ m54 n54, u + m54 ≤ mc ∧ v + n54 ≤ ms ∧ wp_X6_readValue (fun r54 S54 => ∃ b56, x11 = some b56 ∧ cs_k S54 b56 = 26 ∧ vp_in x14 (cs_n S54 b56) ∧ (∀ b, r54 = some b → cs_k S54 b = 11) ∧ ∀ S58, S58 = cs_uar S54 b56 x14.toNatClampNeg r54 → k91 S58 (u + m54) (v + n54) x0 x3 x5 x7 x9 (some b50) (some b56) (cs_al S b50 x14.toNatClampNeg) (x14 + 1)) G m54 n54 S52 x0 r52) G S x0 0 2
section
variable {p : Program} {l : Launch} {e : Env} {s : State} {m : MethodId} {args : Array Value} {below : List Frame} {meth : Method} {c : Code} {P : hw_G} {G : Nat → Nat} {A : Nat → Prop}
set_option maxRecDepth 100000 in
set_option maxHeartbeats 4000000 in
theorem t_X6_readRecord_140 {post : Option Nat → cs_S → Prop} {mc ms : Nat} {k91 : cs_S → Nat → Nat → Nat → Int32 → Int64 → Int64 → Int32 → Option Nat → Option Nat → Int64 → Int32 → Prop} (hC : rf_C P RX6 p s m meth c cX6_readRecord 16 (some (.object "WatchHouse$Event"))) (hin : meth.name = yX6_readRecord.name) (hO : cs_O G A s s.heap) (hk91 : ∀ (S : cs_S) (u v : Nat) (x0 : Nat) (x3 : Int32) (x5 : Int64) (x7 : Int64) (x9 : Int32) (x10 : Option Nat) (x11 : Option Nat) (x12 : Int64) (x14 : Int32) (H : Heap) (locs : List Loc) (ls : Array Slot), k91 S u v x0 x3 x5 x7 x9 x10 x11 x12 x14 → cs_T P s A S H locs → lv_has ls 16 [(0, .ref x0), (3, .int x3), (5, .long x5), (7, .long x7), (9, .int x9), (10, va_rf x10), (11, va_rf x11), (12, .long x12), (14, .int x14)] → W p l e (rm_X6_readRecord mc ms) s m args below meth c H locs u v (MQ below (cs_Qr P A post) args s mc ms A) (F0 m 91 ls [])) (S : cs_S) (u v : Nat) (x0 : Nat) (x3 : Int32) (x5 : Int64) (x7 : Int64) (x9 : Int32) (x10 : Option Nat) (x11 : Option Nat) (x14 : Int32) (H : Heap) (locs : List Loc) (ls : Array Slot) (h : w_X6_readRecord_140 post G mc ms k91 S u v x0 x3 x5 x7 x9 x10 x11 x14) (hT : cs_T P s A S H locs) (hl : lv_has ls 16 [(0, .ref x0), (3, .int x3), (5, .long x5), (7, .long x7), (9, .int x9), (10, va_rf x10), (11, va_rf x11), (14, .int x14)]) : W p l e (rm_X6_readRecord mc ms) s m args below meth c H locs u v (MQ below (cs_Qr P A post) args s mc ms A) (F0 m 140 ls []) := by
  obtain ⟨hx, hb, hml, hown, hK, -, -⟩ := id hC
  obtain ⟨hu, hv, h⟩ := h
  refine hw_aload (x := x10) hx hb dX6_readRecord_140 (lv_at hl 5 rfl) ?_
  refine lv_iload hx hb dX6_readRecord_142 (lv_at hl 7 rfl) ?_
  obtain ⟨b50, rfl, h⟩ := h
  obtain ⟨hk51_, h⟩ := h
  obtain ⟨hi, h⟩ := h
  refine cs_lald hx hb hK hT hk51_ hi dX6_readRecord_144 ?_
  refine lv_lstore (lv' := [(12, _), (0, _), (3, _), (5, _), (7, _), (9, _), (10, _), (11, _), (14, _)]) hx hb dX6_readRecord_145 hl (by decide) (congrArg (List.cons _) ((hw_flt2 (fun q hq => by simp only [List.mem_cons, List.not_mem_nil, or_false] at hq; rcases hq with rfl | rfl | rfl | rfl | rfl | rfl | rfl | rfl <;> first | exact fun _ => rfl | exact fun _ => va_rf_cat _ | (intro h; simp at h))).trans rfl)) (fun ls hl_ => ?_)
  replace hl := hl_
  refine hw_aload (x := x11) hx hb dX6_readRecord_147 (lv_at hl 7 rfl) ?_
  refine lv_iload hx hb dX6_readRecord_149 (lv_at hl 8 rfl) ?_
  refine lv_aload_n (x := x0) hx hb dX6_readRecord_151 rfl (lv_at hl 1 rfl) ?_
  refine lv_aload_n (x := x0) hx hb dX6_readRecord_152 rfl (lv_at hl 1 rfl) ?_
  refine lv_iconst (v := 0) hx hb dX6_readRecord_153 (by decide) ?_
  refine lv_iconst (v := 2) hx hb dX6_readRecord_154 (by decide) ?_
  obtain ⟨hk53_, h⟩ := h
  refine cs_calli0 (cs_runV hx hb hml hown hK hO hT 7 hk53_ (by decide) rfl (c_X6_nextByte h) rfl rfl klX6_44 ki_X6_nextByte ks_X6_nextByte kn_X6 kc_X6_nextByte 2 ⟨rfl, by decide, by decide, by decide +kernel⟩ ⟨Nat.le_of_ble_eq_true rfl, Nat.le_of_ble_eq_true rfl⟩ rfl hl.1 rfl (hw_cat8 (Nat.le_of_ble_eq_true rfl)) ⟨hu, hv⟩ dX6_readRecord_155) hT (fun r52 S52 H locs h_ hT_ => ?_)
  replace h := h_
  replace hT := hT_
  obtain ⟨hk55_, h⟩ := h
  obtain ⟨m54, n54, hu54, hv54, h⟩ := h
  refine cs_callr (cs_runV hx hb hml hown hK hO hT 7 hk55_ (by decide) rfl (c_X6_readValue h) rfl rfl klX6_59 ki_X6_readValue ks_X6_readValue kn_X6 kc_X6_readValue 1 ⟨rfl, by decide, by decide, by decide +kernel⟩ ⟨Nat.le_of_ble_eq_true rfl, Nat.le_of_ble_eq_true rfl⟩ rfl hl.1 rfl (hw_cat8 (Nat.le_of_ble_eq_true rfl)) ⟨hu54, hv54⟩ dX6_readRecord_158) hT (fun r54 S54 H locs h_ hT_ => ?_)
  replace h := h_
  replace hT := hT_
  obtain ⟨b56, rfl, h⟩ := h
  obtain ⟨hk57_, h⟩ := h
  obtain ⟨hi, h⟩ := h
  obtain ⟨he, h⟩ := h
  refine cs_aast (x := r54) hx hb hK hT 26 hk57_ (by decide) (ci := 10) rfl (by decide) rfl (by decide) hi he dX6_readRecord_161 (fun H locs hT_ => ?_)
  replace hT := hT_
  obtain ⟨S58, eS58⟩ : ∃ z, z = cs_uar S54 b56 x14.toNatClampNeg r54 := ⟨_, rfl⟩
  rw [← eS58] at hT
  replace h := h S58 eS58
  refine lv_iinc (v := x14 + 1) (lv' := [(14, _), (12, _), (0, _), (3, _), (5, _), (7, _), (9, _), (10, _), (11, _)]) hx hb dX6_readRecord_162 hl (k := 8) rfl rfl (by decide) rfl (fun ls hl_ => ?_)
  replace hl := hl_
  refine lv_goto (tgt := 91) hx hb dX6_readRecord_165 (by decide) ?_
  exact hk91 S58 (u + m54) (v + n54) x0 x3 x5 x7 x9 (some b50) (some b56) (cs_al S b50 x14.toNatClampNeg) (x14 + 1) _ _ _ h hT (lv_sub hl [2, 3, 4, 5, 6, 7, 8, 1, 0] rfl)
end
def w_X6_readRecord_91 (post : Option Nat → cs_S → Prop) (G : Nat → Nat) (mc ms : Nat) : Nat → cs_S → Nat → Nat → Nat → Int32 → Int64 → Int64 → Int32 → Option Nat → Option Nat → Int64 → Int32 → Prop
  | 0, _, _, _, _, _, _, _, _, _, _, _, _ => False
  | n + 1, S, u, v, x0, x3, x5, x7, x9, x10, x11, x12, x14 => u ≤ mc ∧ v ≤ ms ∧ (x9 ≤ x14 → w_X6_readRecord_168 post G mc ms S u v x0 x3 x5 x7 x10 x11) ∧ (¬ x9 ≤ x14 → cs_k S x0 = 8 ∧ (¬ (cs_i S 700 x0) = 0 → w_X6_readRecord_168 post G mc ms S u v x0 x3 x5 x7 x10 x11) ∧ ((cs_i S 700 x0) = 0 → wp_X6_readWord (fun r60 S60 => ∃ b61, x10 = some b61 ∧ cs_k S60 b61 = 21 ∧ vp_in x14 (cs_n S60 b61) ∧ ∀ S63, S63 = cs_ual S60 b61 x14.toNatClampNeg r60 → cs_k S63 b61 = 21 ∧ vp_in x14 (cs_n S63 b61) ∧ (0 < (lg_cmp (cs_al S63 b61 x14.toNatClampNeg) x12) → w_X6_readRecord_140 post G mc ms (w_X6_readRecord_91 post G mc ms n) S63 u v x0 x3 x5 x7 x9 (some b61) x11 x14) ∧ (¬ 0 < (lg_cmp (cs_al S63 b61 x14.toNatClampNeg) x12) → cs_k S63 x0 = 8 ∧ wp_X6_fail (fun S65 => w_X6_readRecord_140 post G mc ms (w_X6_readRecord_91 post G mc ms n) S65 u v x0 x3 x5 x7 x9 (some b61) x11 x14) G S63 x0 2 (cs_i S 706 x0))) G S x0 8))
section
variable {p : Program} {l : Launch} {e : Env} {s : State} {m : MethodId} {args : Array Value} {below : List Frame} {meth : Method} {c : Code} {P : hw_G} {G : Nat → Nat} {A : Nat → Prop}
set_option maxRecDepth 100000 in
set_option maxHeartbeats 4000000 in
theorem t_X6_readRecord_91 {post : Option Nat → cs_S → Prop} {mc ms : Nat} (hC : rf_C P RX6 p s m meth c cX6_readRecord 16 (some (.object "WatchHouse$Event"))) (hin : meth.name = yX6_readRecord.name) (hO : cs_O G A s s.heap) : ∀ (n : Nat) (S : cs_S) (u v : Nat) (x0 : Nat) (x3 : Int32) (x5 : Int64) (x7 : Int64) (x9 : Int32) (x10 : Option Nat) (x11 : Option Nat) (x12 : Int64) (x14 : Int32) (H : Heap) (locs : List Loc) (ls : Array Slot), w_X6_readRecord_91 post G mc ms n S u v x0 x3 x5 x7 x9 x10 x11 x12 x14 → cs_T P s A S H locs → lv_has ls 16 [(0, .ref x0), (3, .int x3), (5, .long x5), (7, .long x7), (9, .int x9), (10, va_rf x10), (11, va_rf x11), (12, .long x12), (14, .int x14)] → W p l e (rm_X6_readRecord mc ms) s m args below meth c H locs u v (MQ below (cs_Qr P A post) args s mc ms A) (F0 m 91 ls []) := by
  obtain ⟨hx, hb, hml, hown, hK, -, -⟩ := id hC
  intro n
  induction n with
  | zero => intro S u v x0 x3 x5 x7 x9 x10 x11 x12 x14 H locs ls h; exact False.elim h
  | succ n ih =>
    intro S u v x0 x3 x5 x7 x9 x10 x11 x12 x14 H locs ls h hT hl
    obtain ⟨hu, hv, h⟩ := h
    refine lv_iload hx hb dX6_readRecord_91 (lv_at hl 8 rfl) ?_
    refine lv_iload hx hb dX6_readRecord_93 (lv_at hl 4 rfl) ?_
    refine lv_icmp_ge (tgt := 168) hx hb dX6_readRecord_95 (by decide) (fun hc => ?_) (fun hc => ?_)
    · replace h := h.1 hc
      exact t_X6_readRecord_168 hC hin hO S u v x0 x3 x5 x7 x10 x11 _ _ _ h hT (lv_sub hl [0, 1, 2, 3, 5, 6] rfl)
    · replace h := h.2 hc
      refine lv_aload_n (x := x0) hx hb dX6_readRecord_98 rfl (lv_at hl 0 rfl) ?_
      obtain ⟨hk59_, h⟩ := h
      refine cs_get hx hb hK hT hown 7 hk59_ (by decide) rfl 0 (by decide) kfX6_37 (v := .int (cs_i S 700 x0)) rfl dX6_readRecord_99 ?_
      refine lv_if_ne (tgt := 168) hx hb dX6_readRecord_102 (by decide) (fun hc => ?_) (fun hc => ?_)
      · replace h := h.1 hc
        exact t_X6_readRecord_168 hC hin hO S u v x0 x3 x5 x7 x10 x11 _ _ _ h hT (lv_sub hl [0, 1, 2, 3, 5, 6] rfl)
      · replace h := h.2 hc
        refine lv_aload_n (x := x0) hx hb dX6_readRecord_105 rfl (lv_at hl 0 rfl) ?_
        refine cs_get hx hb hK hT hown 7 hk59_ (by decide) rfl 6 (by decide) kfX6_34 (v := .int (cs_i S 706 x0)) rfl dX6_readRecord_106 ?_
        refine lv_istore (lv' := [(15, _), (0, _), (3, _), (5, _), (7, _), (9, _), (10, _), (11, _), (12, _), (14, _)]) hx hb dX6_readRecord_109 hl (by decide) rfl (fun ls hl_ => ?_)
        replace hl := hl_
        refine hw_aload (x := x10) hx hb dX6_readRecord_111 (lv_at hl 6 rfl) ?_
        refine lv_iload hx hb dX6_readRecord_113 (lv_at hl 9 rfl) ?_
        refine lv_aload_n (x := x0) hx hb dX6_readRecord_115 rfl (lv_at hl 1 rfl) ?_
        refine lv_bipush (v := 8) hx hb dX6_readRecord_116 (by decide) ?_
        refine cs_calll0 (cs_runV hx hb hml hown hK hO hT 7 hk59_ (by decide) rfl (c_X6_readWord h) rfl rfl klX6_53 ki_X6_readWord ks_X6_readWord kn_X6 kc_X6_readWord 1 ⟨rfl, by decide, by decide, by decide +kernel⟩ ⟨Nat.le_of_ble_eq_true rfl, Nat.le_of_ble_eq_true rfl⟩ rfl hl.1 rfl (hw_cat8 (Nat.le_of_ble_eq_true rfl)) ⟨hu, hv⟩ dX6_readRecord_118) hT (fun r60 S60 H locs h_ hT_ => ?_)
        replace h := h_
        replace hT := hT_
        obtain ⟨b61, rfl, h⟩ := h
        obtain ⟨hk62_, h⟩ := h
        obtain ⟨hi, h⟩ := h
        refine cs_last hx hb hK hT hk62_ hi dX6_readRecord_121 (fun H locs hT_ => ?_)
        replace hT := hT_
        obtain ⟨S63, eS63⟩ : ∃ z, z = cs_ual S60 b61 x14.toNatClampNeg r60 := ⟨_, rfl⟩
        rw [← eS63] at hT
        replace h := h S63 eS63
        refine lv_aload (x := b61) hx hb dX6_readRecord_122 (lv_at hl 6 rfl) ?_
        refine lv_iload hx hb dX6_readRecord_124 (lv_at hl 9 rfl) ?_
        obtain ⟨hk64_, h⟩ := h
        obtain ⟨hi, h⟩ := h
        refine cs_lald hx hb hK hT hk64_ hi dX6_readRecord_126 ?_
        refine lv_lload hx hb dX6_readRecord_127 (lv_at hl 8 rfl) ?_
        refine W.lcmp hx hb dX6_readRecord_129 ?_
        refine lv_if_gt (tgt := 140) hx hb dX6_readRecord_130 (by decide) (fun hc => ?_) (fun hc => ?_)
        · replace h := h.1 hc
          exact t_X6_readRecord_140 hC hin hO ih S63 u v x0 x3 x5 x7 x9 (some b61) x11 x14 _ _ _ h hT (lv_sub hl [1, 2, 3, 4, 5, 6, 7, 9] rfl)
        · replace h := h.2 hc
          refine lv_aload_n (x := x0) hx hb dX6_readRecord_133 rfl (lv_at hl 1 rfl) ?_
          refine lv_iconst (v := 2) hx hb dX6_readRecord_134 (by decide) ?_
          refine lv_iload hx hb dX6_readRecord_135 (lv_at hl 0 rfl) ?_
          obtain ⟨hk66_, h⟩ := h
          refine cs_callv0 (cs_runV hx hb hml hown hK hO hT 7 hk66_ (by decide) rfl (c_X6_fail h) rfl rfl klX6_40 ki_X6_fail ks_X6_fail kn_X6 kc_X6_fail 2 ⟨rfl, by decide, by decide, by decide +kernel⟩ ⟨Nat.le_of_ble_eq_true rfl, Nat.le_of_ble_eq_true rfl⟩ rfl hl.1 rfl (hw_cat8 (Nat.le_of_ble_eq_true rfl)) ⟨hu, hv⟩ dX6_readRecord_137) hT (fun S65 H locs h_ hT_ => ?_)
          replace h := h_
          replace hT := hT_
          exact t_X6_readRecord_140 hC hin hO ih S65 u v x0 x3 x5 x7 x9 (some b61) x11 x14 _ _ _ h hT (lv_sub hl [1, 2, 3, 4, 5, 6, 7, 9] rfl)
end
def w_X6_readRecord_55 (post : Option Nat → cs_S → Prop) (G : Nat → Nat) (mc ms : Nat) (S : cs_S) (u v : Nat) (x0 : Nat) (x3 : Int32) (x5 : Int64) : Prop := u ≤ mc ∧ v ≤ ms ∧ cs_k S x0 = 8 ∧ wp_X6_readWord (fun r67 S67 => cs_k S67 x0 = 8 ∧ wp_X6_nextByte (fun r69 S69 => ¬ r69 < 0 ∧ r69.toNatClampNeg * componentBytes (cs_aty 21) ≤ 536870912 ∧ u + 1 ≤ mc ∧ v + r69.toNatClampNeg ≤ ms ∧ ∀ q71, cs_k S69 q71 = 0 → ∀ S72, S72 = cs_newA S69 q71 21 r69.toNatClampNeg → ¬ r69 < 0 ∧ r69.toNatClampNeg * 4 ≤ 536870912 ∧ u + 1 + 1 ≤ mc ∧ v + r69.toNatClampNeg + r69.toNatClampNeg ≤ ms ∧ ∀ q73, cs_k S72 q73 = 0 → ∀ S74, S74 = cs_newA S72 q73 26 r69.toNatClampNeg → ∃ n9, w_X6_readRecord_91 post G mc ms n9 S74 (u + 1 + 1) (v + r69.toNatClampNeg + r69.toNatClampNeg) x0 x3 x5 r67 r69 (some q71) (some q73) 0 0) G S67 x0 0 8) G S x0 12
section
variable {p : Program} {l : Launch} {e : Env} {s : State} {m : MethodId} {args : Array Value} {below : List Frame} {meth : Method} {c : Code} {P : hw_G} {G : Nat → Nat} {A : Nat → Prop}
set_option maxRecDepth 100000 in
set_option maxHeartbeats 4000000 in
theorem t_X6_readRecord_55 {post : Option Nat → cs_S → Prop} {mc ms : Nat} (hC : rf_C P RX6 p s m meth c cX6_readRecord 16 (some (.object "WatchHouse$Event"))) (hin : meth.name = yX6_readRecord.name) (hO : cs_O G A s s.heap) (S : cs_S) (u v : Nat) (x0 : Nat) (x3 : Int32) (x5 : Int64) (H : Heap) (locs : List Loc) (ls : Array Slot) (h : w_X6_readRecord_55 post G mc ms S u v x0 x3 x5) (hT : cs_T P s A S H locs) (hl : lv_has ls 16 [(0, .ref x0), (3, .int x3), (5, .long x5)]) : W p l e (rm_X6_readRecord mc ms) s m args below meth c H locs u v (MQ below (cs_Qr P A post) args s mc ms A) (F0 m 55 ls []) := by
  obtain ⟨hx, hb, hml, hown, hK, -, -⟩ := id hC
  obtain ⟨hu, hv, h⟩ := h
  refine lv_aload_n (x := x0) hx hb dX6_readRecord_55 rfl (lv_at hl 0 rfl) ?_
  refine lv_bipush (v := 12) hx hb dX6_readRecord_56 (by decide) ?_
  obtain ⟨hk68_, h⟩ := h
  refine cs_calll0 (cs_runV hx hb hml hown hK hO hT 7 hk68_ (by decide) rfl (c_X6_readWord h) rfl rfl klX6_53 ki_X6_readWord ks_X6_readWord kn_X6 kc_X6_readWord 1 ⟨rfl, by decide, by decide, by decide +kernel⟩ ⟨Nat.le_of_ble_eq_true rfl, Nat.le_of_ble_eq_true rfl⟩ rfl hl.1 rfl (hw_cat8 (Nat.le_of_ble_eq_true rfl)) ⟨hu, hv⟩ dX6_readRecord_58) hT (fun r67 S67 H locs h_ hT_ => ?_)
  replace h := h_
  replace hT := hT_
  refine lv_lstore (lv' := [(7, _), (0, _), (3, _), (5, _)]) hx hb dX6_readRecord_61 hl (by decide) rfl (fun ls hl_ => ?_)
  replace hl := hl_
  refine lv_aload_n (x := x0) hx hb dX6_readRecord_63 rfl (lv_at hl 1 rfl) ?_
  refine lv_iconst (v := 0) hx hb dX6_readRecord_64 (by decide) ?_
  refine lv_bipush (v := 8) hx hb dX6_readRecord_65 (by decide) ?_
  obtain ⟨hk70_, h⟩ := h
  refine cs_calli0 (cs_runV hx hb hml hown hK hO hT 7 hk70_ (by decide) rfl (c_X6_nextByte h) rfl rfl klX6_44 ki_X6_nextByte ks_X6_nextByte kn_X6 kc_X6_nextByte 2 ⟨rfl, by decide, by decide, by decide +kernel⟩ ⟨Nat.le_of_ble_eq_true rfl, Nat.le_of_ble_eq_true rfl⟩ rfl hl.1 rfl (hw_cat8 (Nat.le_of_ble_eq_true rfl)) ⟨hu, hv⟩ dX6_readRecord_67) hT (fun r69 S69 H locs h_ hT_ => ?_)
  replace h := h_
  replace hT := hT_
  refine lv_istore (lv' := [(9, _), (7, _), (0, _), (3, _), (5, _)]) hx hb dX6_readRecord_70 hl (by decide) rfl (fun ls hl_ => ?_)
  replace hl := hl_
  refine lv_iload hx hb dX6_readRecord_72 (lv_at hl 0 rfl) ?_
  obtain ⟨hn1, hn2, hu71, hv71, h⟩ := h
  refine cs_newa hx hb hK hT 21 rfl ka_long (by decide) (by decide) rfl hn1 hn2 hu71 hv71 dX6_readRecord_74 (fun q71 H hq71 hT_ => ?_)
  replace h := h q71 hq71
  replace hT := hT_
  obtain ⟨S72, eS72⟩ : ∃ z, z = cs_newA S69 q71 21 r69.toNatClampNeg := ⟨_, rfl⟩
  rw [← eS72] at hT
  replace h := h S72 eS72
  refine lv_astore (lv' := [(10, _), (9, _), (7, _), (0, _), (3, _), (5, _)]) (x := q71) hx hb dX6_readRecord_76 hl (by decide) rfl (fun ls hl_ => ?_)
  replace hl := hl_
  refine lv_iload hx hb dX6_readRecord_78 (lv_at hl 1 rfl) ?_
  obtain ⟨hn1, hn2, hu73, hv73, h⟩ := h
  refine cs_anew hx hb hK hT hown 26 rfl kxX6_57 (by decide) (by decide) (by decide) hn1 hn2 hu73 hv73 dX6_readRecord_80 (fun q73 H hq73 hT_ => ?_)
  replace h := h q73 hq73
  replace hT := hT_
  obtain ⟨S74, eS74⟩ : ∃ z, z = cs_newA S72 q73 26 r69.toNatClampNeg := ⟨_, rfl⟩
  rw [← eS74] at hT
  replace h := h S74 eS74
  refine lv_astore (lv' := [(11, _), (10, _), (9, _), (7, _), (0, _), (3, _), (5, _)]) (x := q73) hx hb dX6_readRecord_83 hl (by decide) rfl (fun ls hl_ => ?_)
  replace hl := hl_
  refine lv_lconst (v := 0) hx hb dX6_readRecord_85 (by decide) ?_
  refine lv_lstore (lv' := [(12, _), (11, _), (10, _), (9, _), (7, _), (0, _), (3, _), (5, _)]) hx hb dX6_readRecord_86 hl (by decide) rfl (fun ls hl_ => ?_)
  replace hl := hl_
  refine lv_iconst (v := 0) hx hb dX6_readRecord_88 (by decide) ?_
  refine lv_istore (lv' := [(14, _), (12, _), (11, _), (10, _), (9, _), (7, _), (0, _), (3, _), (5, _)]) hx hb dX6_readRecord_89 hl (by decide) rfl (fun ls hl_ => ?_)
  replace hl := hl_
  obtain ⟨n9, h⟩ := h
  exact t_X6_readRecord_91 hC hin hO n9 S74 (u + 1 + 1) (v + r69.toNatClampNeg + r69.toNatClampNeg) x0 x3 x5 r67 r69 (some q71) (some q73) 0 0 _ _ _ h hT (lv_sub hl [6, 7, 8, 5, 4, 3, 2, 1, 0] rfl)
end
def w_X6_readRecord_48 (post : Option Nat → cs_S → Prop) (G : Nat → Nat) (mc ms : Nat) (S : cs_S) (u v : Nat) (x0 : Nat) (x3 : Int32) (x4 : Int32) (x5 : Int64) : Prop := u ≤ mc ∧ v ≤ ms ∧ cs_k S x0 = 8 ∧ wp_X6_fail (fun S75 => w_X6_readRecord_55 post G mc ms S75 u v x0 x3 x5) G S x0 3 x4
section
variable {p : Program} {l : Launch} {e : Env} {s : State} {m : MethodId} {args : Array Value} {below : List Frame} {meth : Method} {c : Code} {P : hw_G} {G : Nat → Nat} {A : Nat → Prop}
set_option maxRecDepth 100000 in
set_option maxHeartbeats 4000000 in
theorem t_X6_readRecord_48 {post : Option Nat → cs_S → Prop} {mc ms : Nat} (hC : rf_C P RX6 p s m meth c cX6_readRecord 16 (some (.object "WatchHouse$Event"))) (hin : meth.name = yX6_readRecord.name) (hO : cs_O G A s s.heap) (S : cs_S) (u v : Nat) (x0 : Nat) (x3 : Int32) (x4 : Int32) (x5 : Int64) (H : Heap) (locs : List Loc) (ls : Array Slot) (h : w_X6_readRecord_48 post G mc ms S u v x0 x3 x4 x5) (hT : cs_T P s A S H locs) (hl : lv_has ls 16 [(0, .ref x0), (3, .int x3), (4, .int x4), (5, .long x5)]) : W p l e (rm_X6_readRecord mc ms) s m args below meth c H locs u v (MQ below (cs_Qr P A post) args s mc ms A) (F0 m 48 ls []) := by
  obtain ⟨hx, hb, hml, hown, hK, -, -⟩ := id hC
  obtain ⟨hu, hv, h⟩ := h
  refine lv_aload_n (x := x0) hx hb dX6_readRecord_48 rfl (lv_at hl 0 rfl) ?_
  refine lv_iconst (v := 3) hx hb dX6_readRecord_49 (by decide) ?_
  refine lv_iload hx hb dX6_readRecord_50 (lv_at hl 2 rfl) ?_
  obtain ⟨hk76_, h⟩ := h
  refine cs_callv0 (cs_runV hx hb hml hown hK hO hT 7 hk76_ (by decide) rfl (c_X6_fail h) rfl rfl klX6_40 ki_X6_fail ks_X6_fail kn_X6 kc_X6_fail 2 ⟨rfl, by decide, by decide, by decide +kernel⟩ ⟨Nat.le_of_ble_eq_true rfl, Nat.le_of_ble_eq_true rfl⟩ rfl hl.1 rfl (hw_cat8 (Nat.le_of_ble_eq_true rfl)) ⟨hu, hv⟩ dX6_readRecord_52) hT (fun S75 H locs h_ hT_ => ?_)
  replace h := h_
  replace hT := hT_
  exact t_X6_readRecord_55 hC hin hO S75 u v x0 x3 x5 _ _ _ h hT (lv_sub hl [0, 1, 3] rfl)
end
def wp_X6_readRecord (post : Option Nat → cs_S → Prop) (G : Nat → Nat) (mc ms : Nat) (S : cs_S) (o : Nat) (p1 : Int32) (p2 : Int32) : Prop := cs_k S o = 8 ∧ wp_X6_nextByte (fun r78 S78 => cs_k S78 o = 8 ∧ wp_X6_readUnsigned (fun r80 S80 => (0 < (lg_cmp (p1.toInt64 + r80) 2000000000) → w_X6_readRecord_48 post G mc ms S80 0 0 o (cs_i S 706 o) (cs_i S78 706 o) (p1.toInt64 + r80)) ∧ (¬ 0 < (lg_cmp (p1.toInt64 + r80) 2000000000) → (0 ≤ (lg_cmp (p1.toInt64 + r80) p2.toInt64) → w_X6_readRecord_55 post G mc ms S80 0 0 o (cs_i S 706 o) (p1.toInt64 + r80)) ∧ (¬ 0 ≤ (lg_cmp (p1.toInt64 + r80) p2.toInt64) → w_X6_readRecord_48 post G mc ms S80 0 0 o (cs_i S 706 o) (cs_i S78 706 o) (p1.toInt64 + r80)))) G S78 o) G S o 229 229
set_option maxRecDepth 100000 in
set_option maxHeartbeats 4000000 in
theorem c_X6_readRecord {l : Launch} {P : hw_G} {G : Nat → Nat} {S : cs_S} {sz : Nat} {mc ms : Nat} {o : Nat} {p1 : Int32} {p2 : Int32} {post : Option Nat → cs_S → Prop} (h : wp_X6_readRecord post G mc ms S o p1 p2) : Met l yX6_readRecord [Cond.code yX6_readRecord cX6_readRecord 16 (some (.object "WatchHouse$Event"))] (rm_X6_readRecord mc ms) (cs_Pc P G S sz [.ref o, .int p1, .int p2]) (cs_Qr P (cs_A S sz) post) mc ms (cs_A S sz) := by
  refine cs_met (by decide) rfl (Nat.le_of_ble_eq_true rfl) ?_
  intro p e s m below meth c ls hC hin hO hT hl
  obtain ⟨hx, hb, hml, hown, hK, -, -⟩ := id hC
  replace hl : lv_has ls 16 [(0, .ref o), (1, .int p1), (2, .int p2)] := hl
  refine lv_aload_n (x := o) hx hb dX6_readRecord_0 rfl (lv_at hl 0 rfl) ?_
  obtain ⟨hk77_, h⟩ := h
  refine cs_get hx hb hK hT hown 7 hk77_ (by decide) rfl 6 (by decide) kfX6_34 (v := .int (cs_i S 706 o)) rfl dX6_readRecord_1 ?_
  refine lv_istore_n (lv' := [(3, _), (0, _), (1, _), (2, _)]) hx hb dX6_readRecord_4 rfl hl (by decide) rfl (fun ls hl_ => ?_)
  replace hl := hl_
  refine lv_aload_n (x := o) hx hb dX6_readRecord_5 rfl (lv_at hl 1 rfl) ?_
  refine lv_sipush (v := 229) hx hb dX6_readRecord_6 (by decide) ?_
  refine lv_sipush (v := 229) hx hb dX6_readRecord_9 (by decide) ?_
  refine cs_calli0 (cs_runV hx hb hml hown hK hO hT 7 hk77_ (by decide) rfl (c_X6_nextByte h) rfl rfl klX6_44 ki_X6_nextByte ks_X6_nextByte kn_X6 kc_X6_nextByte 2 ⟨rfl, by decide, by decide, by decide +kernel⟩ ⟨Nat.le_of_ble_eq_true rfl, Nat.le_of_ble_eq_true rfl⟩ rfl hl.1 rfl (hw_cat8 (Nat.le_of_ble_eq_true rfl)) ⟨(Nat.zero_le _), (Nat.zero_le _)⟩ dX6_readRecord_12) hT (fun r78 S78 H locs h_ hT_ => ?_)
  replace h := h_
  replace hT := hT_
  refine lv_pop hx hb dX6_readRecord_15 rfl ?_
  refine lv_aload_n (x := o) hx hb dX6_readRecord_16 rfl (lv_at hl 1 rfl) ?_
  obtain ⟨hk79_, h⟩ := h
  refine cs_get hx hb hK hT hown 7 hk79_ (by decide) rfl 6 (by decide) kfX6_34 (v := .int (cs_i S78 706 o)) rfl dX6_readRecord_17 ?_
  refine lv_istore (lv' := [(4, _), (3, _), (0, _), (1, _), (2, _)]) hx hb dX6_readRecord_20 hl (by decide) rfl (fun ls hl_ => ?_)
  replace hl := hl_
  refine lv_iload_n hx hb dX6_readRecord_22 rfl (lv_at hl 3 rfl) ?_
  refine lv_i2l (v := p1.toInt64) hx hb dX6_readRecord_23 rfl ?_
  refine lv_aload_n (x := o) hx hb dX6_readRecord_24 rfl (lv_at hl 2 rfl) ?_
  refine cs_calll0 (cs_runV hx hb hml hown hK hO hT 7 hk79_ (by decide) rfl (c_X6_readUnsigned h) rfl rfl klX6_47 ki_X6_readUnsigned ks_X6_readUnsigned kn_X6 kc_X6_readUnsigned 0 ⟨rfl, by decide, by decide, by decide +kernel⟩ ⟨Nat.le_of_ble_eq_true rfl, Nat.le_of_ble_eq_true rfl⟩ rfl hl.1 rfl (hw_cat8 (Nat.le_of_ble_eq_true rfl)) ⟨(Nat.zero_le _), (Nat.zero_le _)⟩ dX6_readRecord_25) hT (fun r80 S80 H locs h_ hT_ => ?_)
  replace h := h_
  replace hT := hT_
  refine lv_ladd hx hb dX6_readRecord_28 ?_
  refine lv_lstore (lv' := [(5, _), (4, _), (3, _), (0, _), (1, _), (2, _)]) hx hb dX6_readRecord_29 hl (by decide) rfl (fun ls hl_ => ?_)
  replace hl := hl_
  refine lv_lload hx hb dX6_readRecord_31 (lv_at hl 0 rfl) ?_
  refine lv_ldc2 (v := 2000000000) hx hb hown (hK.word kkX6_51 rfl) dX6_readRecord_33 ?_
  refine W.lcmp hx hb dX6_readRecord_36 ?_
  refine lv_if_gt (tgt := 48) hx hb dX6_readRecord_37 (by decide) (fun hc => ?_) (fun hc => ?_)
  · replace h := h.1 hc
    exact t_X6_readRecord_48 hC hin hO S80 0 0 o (cs_i S 706 o) (cs_i S78 706 o) (p1.toInt64 + r80) _ _ _ h hT (lv_sub hl [3, 2, 1, 0] rfl)
  · replace h := h.2 hc
    refine lv_lload hx hb dX6_readRecord_40 (lv_at hl 0 rfl) ?_
    refine lv_iload_n hx hb dX6_readRecord_42 rfl (lv_at hl 5 rfl) ?_
    refine lv_i2l (v := p2.toInt64) hx hb dX6_readRecord_43 rfl ?_
    refine W.lcmp hx hb dX6_readRecord_44 ?_
    refine lv_if_ge (tgt := 55) hx hb dX6_readRecord_45 (by decide) (fun hc => ?_) (fun hc => ?_)
    · replace h := h.1 hc
      exact t_X6_readRecord_55 hC hin hO S80 0 0 o (cs_i S 706 o) (p1.toInt64 + r80) _ _ _ h hT (lv_sub hl [3, 2, 0] rfl)
    · replace h := h.2 hc
      exact t_X6_readRecord_48 hC hin hO S80 0 0 o (cs_i S 706 o) (cs_i S78 706 o) (p1.toInt64 + r80) _ _ _ h hT (lv_sub hl [3, 2, 1, 0] rfl)
/-! X6_put -/
abbrev rm_X6_put : Room := { frames := 0, cells := 0, slots := 0, locals := 0 }
def w_X6_put_32 (post : cs_S → Prop) (G : Nat → Nat) (S : cs_S)  : Prop := post S
section
variable {p : Program} {l : Launch} {e : Env} {s : State} {m : MethodId} {args : Array Value} {below : List Frame} {meth : Method} {c : Code} {P : hw_G} {G : Nat → Nat} {A : Nat → Prop}
set_option maxRecDepth 100000 in
set_option maxHeartbeats 4000000 in
theorem t_X6_put_32 {post : cs_S → Prop} (hC : rf_C P RX6 p s m meth c cX6_put 2 none) (hin : meth.name = yX6_put.name) (hO : cs_O G A s s.heap) (S : cs_S)  (H : Heap) (locs : List Loc) (ls : Array Slot) (h : w_X6_put_32 post G S ) (hT : cs_T P s A S H locs) (hl : lv_has ls 2 []) : W p l e rm_X6_put s m args below meth c H locs 0 0 (MQ below (cs_Qv P A post) args s 0 0 A) (F0 m 32 ls []) := by
  obtain ⟨hx, hb, hml, hown, hK, -, -⟩ := id hC
  exact cs_vret hC hT h dX6_put_32 (Nat.le_refl _) (Nat.le_refl _)
end
def wp_X6_put (post : cs_S → Prop) (G : Nat → Nat) (S : cs_S) (o : Nat) (p1 : Int32) : Prop := cs_k S o = 8 ∧ ∀ r12, r12 = cs_r S 702 o → ∃ b13, r12 = some b13 ∧ cs_k S b13 = 20 ∧ ((Int32.ofNat (cs_n S b13)) ≤ (cs_i S 703 o) → w_X6_put_32 post G S) ∧ (¬ (Int32.ofNat (cs_n S b13)) ≤ (cs_i S 703 o) → ∀ r15, r15 = cs_r S 702 o → ∃ b16, r15 = some b16 ∧ cs_k S b16 = 20 ∧ vp_in (cs_i S 703 o) (cs_n S b16) ∧ ∀ S18, S18 = cs_uai S b16 (cs_i S 703 o).toNatClampNeg p1 → cs_k S18 o = 8 ∧ ∀ S20, S20 = cs_ui S18 703 o ((cs_i S18 703 o) + 1) → w_X6_put_32 post G S20)
set_option maxRecDepth 100000 in
set_option maxHeartbeats 4000000 in
theorem c_X6_put {l : Launch} {P : hw_G} {G : Nat → Nat} {S : cs_S} {sz : Nat} {o : Nat} {p1 : Int32} {post : cs_S → Prop} (h : wp_X6_put post G S o p1) : Met l yX6_put [Cond.code yX6_put cX6_put 2 none] rm_X6_put (cs_Pc P G S sz [.ref o, .int p1]) (cs_Qv P (cs_A S sz) post) 0 0 (cs_A S sz) := by
  refine cs_met (by decide) rfl (Nat.le_of_ble_eq_true rfl) ?_
  intro p e s m below meth c ls hC hin hO hT hl
  obtain ⟨hx, hb, hml, hown, hK, -, -⟩ := id hC
  replace hl : lv_has ls 2 [(0, .ref o), (1, .int p1)] := hl
  refine lv_aload_n (x := o) hx hb dX6_put_0 rfl (lv_at hl 0 rfl) ?_
  obtain ⟨hk11_, h⟩ := h
  refine cs_get hx hb hK hT hown 7 hk11_ (by decide) rfl 3 (by decide) kfX6_82 (v := .int (cs_i S 703 o)) rfl dX6_put_1 ?_
  refine lv_aload_n (x := o) hx hb dX6_put_4 rfl (lv_at hl 0 rfl) ?_
  refine cs_get hx hb hK hT hown 7 hk11_ (by decide) rfl 2 (by decide) kfX6_11 (v := va_rf (cs_r S 702 o)) rfl dX6_put_5 ?_
  refine hw_topr (fun r12 er12 => ?_)
  replace h := h r12 er12
  obtain ⟨b13, rfl, h⟩ := h
  obtain ⟨hk14_, h⟩ := h
  refine cs_alen hx hb hK hT 20 hk14_ (by decide) (by decide) dX6_put_8 ?_
  refine lv_icmp_ge (tgt := 32) hx hb dX6_put_9 (by decide) (fun hc => ?_) (fun hc => ?_)
  · replace h := h.1 hc
    exact t_X6_put_32 hC hin hO S _ _ _ h hT (lv_sub hl [] rfl)
  · replace h := h.2 hc
    refine lv_aload_n (x := o) hx hb dX6_put_12 rfl (lv_at hl 0 rfl) ?_
    refine cs_get hx hb hK hT hown 7 hk11_ (by decide) rfl 2 (by decide) kfX6_11 (v := va_rf (cs_r S 702 o)) rfl dX6_put_13 ?_
    refine hw_topr (fun r15 er15 => ?_)
    replace h := h r15 er15
    refine lv_aload_n (x := o) hx hb dX6_put_16 rfl (lv_at hl 0 rfl) ?_
    refine cs_get hx hb hK hT hown 7 hk11_ (by decide) rfl 3 (by decide) kfX6_82 (v := .int (cs_i S 703 o)) rfl dX6_put_17 ?_
    refine lv_iload_n hx hb dX6_put_20 rfl (lv_at hl 1 rfl) ?_
    obtain ⟨b16, rfl, h⟩ := h
    obtain ⟨hk17_, h⟩ := h
    obtain ⟨hi, h⟩ := h
    refine cs_iast hx hb hK hT hk17_ hi dX6_put_21 (fun H locs hT_ => ?_)
    replace hT := hT_
    obtain ⟨S18, eS18⟩ : ∃ z, z = cs_uai S b16 (cs_i S 703 o).toNatClampNeg p1 := ⟨_, rfl⟩
    rw [← eS18] at hT
    replace h := h S18 eS18
    refine lv_aload_n (x := o) hx hb dX6_put_22 rfl (lv_at hl 0 rfl) ?_
    refine lv_dup hx hb dX6_put_23 rfl ?_
    obtain ⟨hk19_, h⟩ := h
    refine cs_get hx hb hK hT hown 7 hk19_ (by decide) rfl 3 (by decide) kfX6_82 (v := .int (cs_i S18 703 o)) rfl dX6_put_24 ?_
    refine lv_iconst (v := 1) hx hb dX6_put_27 (by decide) ?_
    refine lv_iadd hx hb dX6_put_28 ?_
    refine cs_puti (x := ((cs_i S18 703 o) + 1)) hx hb hK hT hown 7 hk19_ (by decide) rfl 3 (by decide) kfX6_82 rfl (tyX6_ok 3 (by decide)) rfl 703 rfl dX6_put_29 (fun H locs hT_ => ?_)
    replace hT := hT_
    obtain ⟨S20, eS20⟩ : ∃ z, z = cs_ui S18 703 o ((cs_i S18 703 o) + 1) := ⟨_, rfl⟩
    rw [← eS20] at hT
    replace h := h S20 eS20
    exact t_X6_put_32 hC hin hO S20 _ _ _ h hT (lv_sub hl [] rfl)
/-! X6_putUnsigned -/
abbrev rm_X6_putUnsigned : Room := { frames := 1, cells := 0, slots := 0, locals := 21 }
def w_X6_putUnsigned_44 (post : cs_S → Prop) (G : Nat → Nat) (S : cs_S) (x0 : Nat) (x3 : Int64) : Prop := cs_k S x0 = 8 ∧ wp_X6_put (fun S5 => post S5) G S x0 x3.toInt32
section
variable {p : Program} {l : Launch} {e : Env} {s : State} {m : MethodId} {args : Array Value} {below : List Frame} {meth : Method} {c : Code} {P : hw_G} {G : Nat → Nat} {A : Nat → Prop}
set_option maxRecDepth 100000 in
set_option maxHeartbeats 4000000 in
theorem t_X6_putUnsigned_44 {post : cs_S → Prop} (hC : rf_C P RX6 p s m meth c cX6_putUnsigned 6 none) (hin : meth.name = yX6_putUnsigned.name) (hO : cs_O G A s s.heap) (S : cs_S) (x0 : Nat) (x3 : Int64) (H : Heap) (locs : List Loc) (ls : Array Slot) (h : w_X6_putUnsigned_44 post G S x0 x3) (hT : cs_T P s A S H locs) (hl : lv_has ls 6 [(0, .ref x0), (3, .long x3)]) : W p l e rm_X6_putUnsigned s m args below meth c H locs 0 0 (MQ below (cs_Qv P A post) args s 0 0 A) (F0 m 44 ls []) := by
  obtain ⟨hx, hb, hml, hown, hK, -, -⟩ := id hC
  refine lv_aload_n (x := x0) hx hb dX6_putUnsigned_44 rfl (lv_at hl 0 rfl) ?_
  refine lv_lload_n hx hb dX6_putUnsigned_45 rfl (lv_at hl 1 rfl) ?_
  refine lv_l2i (v := x3.toInt32) hx hb dX6_putUnsigned_46 rfl ?_
  obtain ⟨hk6_, h⟩ := h
  refine cs_callv0 (cs_runV hx hb hml hown hK hO hT 7 hk6_ (by decide) rfl (c_X6_put h) rfl rfl klX6_85 ki_X6_put ks_X6_put kn_X6 kc_X6_put 1 ⟨rfl, by decide, by decide, by decide +kernel⟩ ⟨by decide, by decide⟩ rfl hl.1 rfl (hw_cat8 (Nat.le_of_ble_eq_true rfl)) ⟨(Nat.le_refl _), (Nat.le_refl _)⟩ dX6_putUnsigned_47) hT (fun S5 H locs h_ hT_ => ?_)
  replace h := h_
  replace hT := hT_
  exact cs_vret hC hT h dX6_putUnsigned_50 (Nat.le_refl _) (Nat.le_refl _)
end
def w_X6_putUnsigned_5 (post : cs_S → Prop) (G : Nat → Nat) : Nat → cs_S → Nat → Int64 → Int32 → Prop
  | 0, _, _, _, _ => False
  | n + 1, S, x0, x3, x5 => (5 ≤ x5 → w_X6_putUnsigned_44 post G S x0 x3) ∧ (¬ 5 ≤ x5 → ((lg_cmp x3 127) ≤ 0 → w_X6_putUnsigned_44 post G S x0 x3) ∧ (¬ (lg_cmp x3 127) ≤ 0 → cs_k S x0 = 8 ∧ wp_X6_put (fun S7 => w_X6_putUnsigned_5 post G n S7 x0 (x3 >>> ((7 : Int32).toInt64 &&& 63)) (x5 + 1)) G S x0 (((x3 &&& 127).toInt32) + 128)))
section
variable {p : Program} {l : Launch} {e : Env} {s : State} {m : MethodId} {args : Array Value} {below : List Frame} {meth : Method} {c : Code} {P : hw_G} {G : Nat → Nat} {A : Nat → Prop}
set_option maxRecDepth 100000 in
set_option maxHeartbeats 4000000 in
theorem t_X6_putUnsigned_5 {post : cs_S → Prop} (hC : rf_C P RX6 p s m meth c cX6_putUnsigned 6 none) (hin : meth.name = yX6_putUnsigned.name) (hO : cs_O G A s s.heap) : ∀ (n : Nat) (S : cs_S) (x0 : Nat) (x3 : Int64) (x5 : Int32) (H : Heap) (locs : List Loc) (ls : Array Slot), w_X6_putUnsigned_5 post G n S x0 x3 x5 → cs_T P s A S H locs → lv_has ls 6 [(0, .ref x0), (3, .long x3), (5, .int x5)] → W p l e rm_X6_putUnsigned s m args below meth c H locs 0 0 (MQ below (cs_Qv P A post) args s 0 0 A) (F0 m 5 ls []) := by
  obtain ⟨hx, hb, hml, hown, hK, -, -⟩ := id hC
  intro n
  induction n with
  | zero => intro S x0 x3 x5 H locs ls h; exact False.elim h
  | succ n ih =>
    intro S x0 x3 x5 H locs ls h hT hl
    refine lv_iload hx hb dX6_putUnsigned_5 (lv_at hl 2 rfl) ?_
    refine lv_iconst (v := 5) hx hb dX6_putUnsigned_7 (by decide) ?_
    refine lv_icmp_ge (tgt := 44) hx hb dX6_putUnsigned_8 (by decide) (fun hc => ?_) (fun hc => ?_)
    · replace h := h.1 hc
      exact t_X6_putUnsigned_44 hC hin hO S x0 x3 _ _ _ h hT (lv_sub hl [0, 1] rfl)
    · replace h := h.2 hc
      refine lv_lload_n hx hb dX6_putUnsigned_11 rfl (lv_at hl 1 rfl) ?_
      refine lv_ldc2 (v := 127) hx hb hown (hK.word kkX6_115 rfl) dX6_putUnsigned_12 ?_
      refine W.lcmp hx hb dX6_putUnsigned_15 ?_
      refine lv_if_le (tgt := 44) hx hb dX6_putUnsigned_16 (by decide) (fun hc => ?_) (fun hc => ?_)
      · replace h := h.1 hc
        exact t_X6_putUnsigned_44 hC hin hO S x0 x3 _ _ _ h hT (lv_sub hl [0, 1] rfl)
      · replace h := h.2 hc
        refine lv_aload_n (x := x0) hx hb dX6_putUnsigned_19 rfl (lv_at hl 0 rfl) ?_
        refine lv_lload_n hx hb dX6_putUnsigned_20 rfl (lv_at hl 1 rfl) ?_
        refine lv_ldc2 (v := 127) hx hb hown (hK.word kkX6_115 rfl) dX6_putUnsigned_21 ?_
        refine lv_land hx hb dX6_putUnsigned_24 ?_
        refine lv_l2i (v := (x3 &&& 127).toInt32) hx hb dX6_putUnsigned_25 rfl ?_
        refine lv_sipush (v := 128) hx hb dX6_putUnsigned_26 (by decide) ?_
        refine lv_iadd hx hb dX6_putUnsigned_29 ?_
        obtain ⟨hk8_, h⟩ := h
        refine cs_callv0 (cs_runV hx hb hml hown hK hO hT 7 hk8_ (by decide) rfl (c_X6_put h) rfl rfl klX6_85 ki_X6_put ks_X6_put kn_X6 kc_X6_put 1 ⟨rfl, by decide, by decide, by decide +kernel⟩ ⟨by decide, by decide⟩ rfl hl.1 rfl (hw_cat8 (Nat.le_of_ble_eq_true rfl)) ⟨(Nat.le_refl _), (Nat.le_refl _)⟩ dX6_putUnsigned_30) hT (fun S7 H locs h_ hT_ => ?_)
        replace h := h_
        replace hT := hT_
        refine lv_lload_n hx hb dX6_putUnsigned_33 rfl (lv_at hl 1 rfl) ?_
        refine lv_bipush (v := 7) hx hb dX6_putUnsigned_34 (by decide) ?_
        refine lv_lshr (v := x3 >>> ((7 : Int32).toInt64 &&& 63)) hx hb dX6_putUnsigned_36 rfl ?_
        refine lv_lstore_n (lv' := [(3, _), (0, _), (5, _)]) hx hb dX6_putUnsigned_37 rfl hl (by decide) rfl (fun ls hl_ => ?_)
        replace hl := hl_
        refine lv_iinc (v := x5 + 1) (lv' := [(5, _), (3, _), (0, _)]) hx hb dX6_putUnsigned_38 hl (k := 2) rfl rfl (by decide) rfl (fun ls hl_ => ?_)
        replace hl := hl_
        refine lv_goto (tgt := 5) hx hb dX6_putUnsigned_41 (by decide) ?_
        exact ih S7 x0 (x3 >>> ((7 : Int32).toInt64 &&& 63)) (x5 + 1) _ _ _ h hT (lv_sub hl [2, 1, 0] rfl)
end
def wp_X6_putUnsigned (post : cs_S → Prop) (G : Nat → Nat) (S : cs_S) (o : Nat) (p1 : Int64) : Prop := ∃ n9, w_X6_putUnsigned_5 post G n9 S o p1 0
set_option maxRecDepth 100000 in
set_option maxHeartbeats 4000000 in
theorem c_X6_putUnsigned {l : Launch} {P : hw_G} {G : Nat → Nat} {S : cs_S} {sz : Nat} {o : Nat} {p1 : Int64} {post : cs_S → Prop} (h : wp_X6_putUnsigned post G S o p1) : Met l yX6_putUnsigned [Cond.code yX6_putUnsigned cX6_putUnsigned 6 none] rm_X6_putUnsigned (cs_Pc P G S sz [.ref o, .long p1]) (cs_Qv P (cs_A S sz) post) 0 0 (cs_A S sz) := by
  refine cs_met (by decide) rfl (Nat.le_of_ble_eq_true rfl) ?_
  intro p e s m below meth c ls hC hin hO hT hl
  obtain ⟨hx, hb, hml, hown, hK, -, -⟩ := id hC
  replace hl : lv_has ls 6 [(0, .ref o), (1, .long p1)] := hl
  refine lv_lload_n hx hb dX6_putUnsigned_0 rfl (lv_at hl 1 rfl) ?_
  refine lv_lstore_n (lv' := [(3, _), (0, _), (1, _)]) hx hb dX6_putUnsigned_1 rfl hl (by decide) rfl (fun ls hl_ => ?_)
  replace hl := hl_
  refine lv_iconst (v := 0) hx hb dX6_putUnsigned_2 (by decide) ?_
  refine lv_istore (lv' := [(5, _), (3, _), (0, _), (1, _)]) hx hb dX6_putUnsigned_3 hl (by decide) rfl (fun ls hl_ => ?_)
  replace hl := hl_
  obtain ⟨n9, h⟩ := h
  exact t_X6_putUnsigned_5 hC hin hO n9 S o p1 0 _ _ _ h hT (lv_sub hl [2, 1, 0] rfl)
/-! X11_letterAt -/
abbrev rm_X11_letterAt : Room := { frames := 0, cells := 0, slots := 0, locals := 0 }
def wp_X11_letterAt (post : Int32 → cs_S → Prop) (G : Nat → Nat) (S : cs_S) (p0 : Int64) (p2 : Int32) : Prop := post ((((((p0.toUInt64 >>> ((5 * (11 - p2)).toInt64.toUInt64 &&& 63)).toInt64) &&& 31).toInt32) + 97) - 1) S
set_option maxRecDepth 100000 in
set_option maxHeartbeats 4000000 in
theorem c_X11_letterAt {l : Launch} {P : hw_G} {G : Nat → Nat} {S : cs_S} {sz : Nat} {p0 : Int64} {p2 : Int32} {post : Int32 → cs_S → Prop} (h : wp_X11_letterAt post G S p0 p2) : Met l yX11_letterAt [Cond.code yX11_letterAt cX11_letterAt 3 (some .int)] rm_X11_letterAt (cs_Pc P G S sz [.long p0, .int p2]) (cs_Qi P (cs_A S sz) post) 0 0 (cs_A S sz) := by
  refine cs_met (by decide) rfl (Nat.le_of_ble_eq_true rfl) ?_
  intro p e s m below meth c ls hC hin hO hT hl
  obtain ⟨hx, hb, hml, hown, hK, -, -⟩ := id hC
  replace hl : lv_has ls 3 [(0, .long p0), (2, .int p2)] := hl
  refine lv_lload_n hx hb dX11_letterAt_0 rfl (lv_at hl 0 rfl) ?_
  refine lv_iconst (v := 5) hx hb dX11_letterAt_1 (by decide) ?_
  refine lv_bipush (v := 11) hx hb dX11_letterAt_2 (by decide) ?_
  refine lv_iload_n hx hb dX11_letterAt_4 rfl (lv_at hl 1 rfl) ?_
  refine lv_isub hx hb dX11_letterAt_5 ?_
  refine lv_imul hx hb dX11_letterAt_6 ?_
  refine lv_lushr (v := (p0.toUInt64 >>> ((5 * (11 - p2)).toInt64.toUInt64 &&& 63)).toInt64) hx hb dX11_letterAt_7 rfl ?_
  refine lv_ldc2 (v := 31) hx hb hown (hK.word kkX11_223 rfl) dX11_letterAt_8 ?_
  refine lv_land hx hb dX11_letterAt_11 ?_
  refine lv_l2i (v := (((p0.toUInt64 >>> ((5 * (11 - p2)).toInt64.toUInt64 &&& 63)).toInt64) &&& 31).toInt32) hx hb dX11_letterAt_12 rfl ?_
  refine lv_bipush (v := 97) hx hb dX11_letterAt_13 (by decide) ?_
  refine lv_iadd hx hb dX11_letterAt_15 ?_
  refine lv_iconst (v := 1) hx hb dX11_letterAt_16 (by decide) ?_
  refine lv_isub hx hb dX11_letterAt_17 ?_
  exact cs_iret hC hT h dX11_letterAt_18 (Nat.le_refl _) (Nat.le_refl _)
/-! X11_lettersOf -/
abbrev rm_X11_lettersOf : Room := { frames := 1, cells := 0, slots := 0, locals := 22 }
def w_X11_lettersOf_24 (post : Int32 → cs_S → Prop) (G : Nat → Nat) (S : cs_S) (x2 : Int32) : Prop := post x2 S
section
variable {p : Program} {l : Launch} {e : Env} {s : State} {m : MethodId} {args : Array Value} {below : List Frame} {meth : Method} {c : Code} {P : hw_G} {G : Nat → Nat} {A : Nat → Prop}
set_option maxRecDepth 100000 in
set_option maxHeartbeats 4000000 in
theorem t_X11_lettersOf_24 {post : Int32 → cs_S → Prop} (hC : rf_C P RX11 p s m meth c cX11_lettersOf 3 (some .int)) (hin : meth.name = yX11_lettersOf.name) (hO : cs_O G A s s.heap) (S : cs_S) (x2 : Int32) (H : Heap) (locs : List Loc) (ls : Array Slot) (h : w_X11_lettersOf_24 post G S x2) (hT : cs_T P s A S H locs) (hl : lv_has ls 3 [(2, .int x2)]) : W p l e rm_X11_lettersOf s m args below meth c H locs 0 0 (MQ below (cs_Qi P A post) args s 0 0 A) (F0 m 24 ls []) := by
  obtain ⟨hx, hb, hml, hown, hK, -, -⟩ := id hC
  refine lv_iload_n hx hb dX11_lettersOf_24 rfl (lv_at hl 0 rfl) ?_
  exact cs_iret hC hT h dX11_lettersOf_25 (Nat.le_refl _) (Nat.le_refl _)
end
def w_X11_lettersOf_2 (post : Int32 → cs_S → Prop) (G : Nat → Nat) : Nat → cs_S → Int64 → Int32 → Prop
  | 0, _, _, _ => False
  | n + 1, S, x0, x2 => (12 ≤ x2 → w_X11_lettersOf_24 post G S x2) ∧ (¬ 12 ≤ x2 → wp_X11_letterAt (fun r2 S2 => (r2 < 97 → w_X11_lettersOf_24 post G S2 x2) ∧ (¬ r2 < 97 → w_X11_lettersOf_2 post G n S2 x0 (x2 + 1))) G S x0 x2)
section
variable {p : Program} {l : Launch} {e : Env} {s : State} {m : MethodId} {args : Array Value} {below : List Frame} {meth : Method} {c : Code} {P : hw_G} {G : Nat → Nat} {A : Nat → Prop}
set_option maxRecDepth 100000 in
set_option maxHeartbeats 4000000 in
theorem t_X11_lettersOf_2 {post : Int32 → cs_S → Prop} (hC : rf_C P RX11 p s m meth c cX11_lettersOf 3 (some .int)) (hin : meth.name = yX11_lettersOf.name) (hO : cs_O G A s s.heap) : ∀ (n : Nat) (S : cs_S) (x0 : Int64) (x2 : Int32) (H : Heap) (locs : List Loc) (ls : Array Slot), w_X11_lettersOf_2 post G n S x0 x2 → cs_T P s A S H locs → lv_has ls 3 [(0, .long x0), (2, .int x2)] → W p l e rm_X11_lettersOf s m args below meth c H locs 0 0 (MQ below (cs_Qi P A post) args s 0 0 A) (F0 m 2 ls []) := by
  obtain ⟨hx, hb, hml, hown, hK, -, -⟩ := id hC
  intro n
  induction n with
  | zero => intro S x0 x2 H locs ls h; exact False.elim h
  | succ n ih =>
    intro S x0 x2 H locs ls h hT hl
    refine lv_iload_n hx hb dX11_lettersOf_2 rfl (lv_at hl 1 rfl) ?_
    refine lv_bipush (v := 12) hx hb dX11_lettersOf_3 (by decide) ?_
    refine lv_icmp_ge (tgt := 24) hx hb dX11_lettersOf_5 (by decide) (fun hc => ?_) (fun hc => ?_)
    · replace h := h.1 hc
      exact t_X11_lettersOf_24 hC hin hO S x2 _ _ _ h hT (lv_sub hl [1] rfl)
    · replace h := h.2 hc
      refine lv_lload_n hx hb dX11_lettersOf_8 rfl (lv_at hl 0 rfl) ?_
      refine lv_iload_n hx hb dX11_lettersOf_9 rfl (lv_at hl 1 rfl) ?_
      refine cs_calli0 (cs_runS hx hb hml hown hK hO hT (c_X11_letterAt h) rfl rfl klX11_225 ki_X11_letterAt kn_X11 kc_X11_letterAt 2 ⟨by decide, by decide, by decide +kernel⟩ ⟨by decide, by decide⟩ rfl hl.1 rfl (hw_cat8 (Nat.le_of_ble_eq_true rfl)) ⟨(Nat.le_refl _), (Nat.le_refl _)⟩ dX11_lettersOf_10) hT (fun r2 S2 H locs h_ hT_ => ?_)
      replace h := h_
      replace hT := hT_
      refine lv_bipush (v := 97) hx hb dX11_lettersOf_13 (by decide) ?_
      refine lv_icmp_lt (tgt := 24) hx hb dX11_lettersOf_15 (by decide) (fun hc => ?_) (fun hc => ?_)
      · replace h := h.1 hc
        exact t_X11_lettersOf_24 hC hin hO S2 x2 _ _ _ h hT (lv_sub hl [1] rfl)
      · replace h := h.2 hc
        refine lv_iinc (v := x2 + 1) (lv' := [(2, _), (0, _)]) hx hb dX11_lettersOf_18 hl (k := 1) rfl rfl (by decide) rfl (fun ls hl_ => ?_)
        replace hl := hl_
        refine lv_goto (tgt := 2) hx hb dX11_lettersOf_21 (by decide) ?_
        exact ih S2 x0 (x2 + 1) _ _ _ h hT (lv_sub hl [1, 0] rfl)
end
def wp_X11_lettersOf (post : Int32 → cs_S → Prop) (G : Nat → Nat) (S : cs_S) (p0 : Int64) : Prop := ∃ n9, w_X11_lettersOf_2 post G n9 S p0 0
set_option maxRecDepth 100000 in
set_option maxHeartbeats 4000000 in
theorem c_X11_lettersOf {l : Launch} {P : hw_G} {G : Nat → Nat} {S : cs_S} {sz : Nat} {p0 : Int64} {post : Int32 → cs_S → Prop} (h : wp_X11_lettersOf post G S p0) : Met l yX11_lettersOf [Cond.code yX11_lettersOf cX11_lettersOf 3 (some .int)] rm_X11_lettersOf (cs_Pc P G S sz [.long p0]) (cs_Qi P (cs_A S sz) post) 0 0 (cs_A S sz) := by
  refine cs_met (by decide) rfl (Nat.le_of_ble_eq_true rfl) ?_
  intro p e s m below meth c ls hC hin hO hT hl
  obtain ⟨hx, hb, hml, hown, hK, -, -⟩ := id hC
  replace hl : lv_has ls 3 [(0, .long p0)] := hl
  refine lv_iconst (v := 0) hx hb dX11_lettersOf_0 (by decide) ?_
  refine lv_istore_n (lv' := [(2, _), (0, _)]) hx hb dX11_lettersOf_1 rfl hl (by decide) rfl (fun ls hl_ => ?_)
  replace hl := hl_
  obtain ⟨n9, h⟩ := h
  exact t_X11_lettersOf_2 hC hin hO n9 S p0 0 _ _ _ h hT (lv_sub hl [1, 0] rfl)
/-! X6_putWord -/
abbrev rm_X6_putWord : Room := { frames := 2, cells := 0, slots := 0, locals := 44 }
def w_X6_putWord_13 (post : cs_S → Prop) (G : Nat → Nat) : Nat → cs_S → Nat → Int64 → Int32 → Int32 → Prop
  | 0, _, _, _, _, _ => False
  | n + 1, S, x0, x1, x3, x4 => (x3 ≤ x4 → post S) ∧ (¬ x3 ≤ x4 → wp_X11_letterAt (fun r7 S7 => cs_k S7 x0 = 8 ∧ wp_X6_put (fun S8 => w_X6_putWord_13 post G n S8 x0 x1 x3 (x4 + 1)) G S7 x0 r7) G S x1 x4)
section
variable {p : Program} {l : Launch} {e : Env} {s : State} {m : MethodId} {args : Array Value} {below : List Frame} {meth : Method} {c : Code} {P : hw_G} {G : Nat → Nat} {A : Nat → Prop}
set_option maxRecDepth 100000 in
set_option maxHeartbeats 4000000 in
theorem t_X6_putWord_13 {post : cs_S → Prop} (hC : rf_C P RX6 p s m meth c cX6_putWord 5 none) (hin : meth.name = yX6_putWord.name) (hO : cs_O G A s s.heap) : ∀ (n : Nat) (S : cs_S) (x0 : Nat) (x1 : Int64) (x3 : Int32) (x4 : Int32) (H : Heap) (locs : List Loc) (ls : Array Slot), w_X6_putWord_13 post G n S x0 x1 x3 x4 → cs_T P s A S H locs → lv_has ls 5 [(0, .ref x0), (1, .long x1), (3, .int x3), (4, .int x4)] → W p l e rm_X6_putWord s m args below meth c H locs 0 0 (MQ below (cs_Qv P A post) args s 0 0 A) (F0 m 13 ls []) := by
  obtain ⟨hx, hb, hml, hown, hK, -, -⟩ := id hC
  intro n
  induction n with
  | zero => intro S x0 x1 x3 x4 H locs ls h; exact False.elim h
  | succ n ih =>
    intro S x0 x1 x3 x4 H locs ls h hT hl
    refine lv_iload hx hb dX6_putWord_13 (lv_at hl 3 rfl) ?_
    refine lv_iload_n hx hb dX6_putWord_15 rfl (lv_at hl 2 rfl) ?_
    refine lv_icmp_ge (tgt := 35) hx hb dX6_putWord_16 (by decide) (fun hc => ?_) (fun hc => ?_)
    · replace h := h.1 hc
      exact cs_vret hC hT h dX6_putWord_35 (Nat.le_refl _) (Nat.le_refl _)
    · replace h := h.2 hc
      refine lv_aload_n (x := x0) hx hb dX6_putWord_19 rfl (lv_at hl 0 rfl) ?_
      refine lv_lload_n hx hb dX6_putWord_20 rfl (lv_at hl 1 rfl) ?_
      refine lv_iload hx hb dX6_putWord_21 (lv_at hl 3 rfl) ?_
      refine cs_calli0 (cs_runSN hx hb hml hown hK hO hT (c_X11_letterAt h) rfl rfl klnX6_121 ki_X11_letterAt kn_X11 kc_X11_letterAt 2 ⟨by decide, by decide, by decide +kernel⟩ ⟨by decide, by decide⟩ rfl hl.1 rfl (hw_cat8 (Nat.le_of_ble_eq_true rfl)) ⟨(Nat.le_refl _), (Nat.le_refl _)⟩ dX6_putWord_23) hT (fun r7 S7 H locs h_ hT_ => ?_)
      replace h := h_
      replace hT := hT_
      obtain ⟨hk9_, h⟩ := h
      refine cs_callv0 (cs_runV hx hb hml hown hK hO hT 7 hk9_ (by decide) rfl (c_X6_put h) rfl rfl klX6_85 ki_X6_put ks_X6_put kn_X6 kc_X6_put 1 ⟨rfl, by decide, by decide, by decide +kernel⟩ ⟨by decide, by decide⟩ rfl hl.1 rfl (hw_cat8 (Nat.le_of_ble_eq_true rfl)) ⟨(Nat.le_refl _), (Nat.le_refl _)⟩ dX6_putWord_26) hT (fun S8 H locs h_ hT_ => ?_)
      replace h := h_
      replace hT := hT_
      refine lv_iinc (v := x4 + 1) (lv' := [(4, _), (0, _), (1, _), (3, _)]) hx hb dX6_putWord_29 hl (k := 3) rfl rfl (by decide) rfl (fun ls hl_ => ?_)
      replace hl := hl_
      refine lv_goto (tgt := 13) hx hb dX6_putWord_32 (by decide) ?_
      exact ih S8 x0 x1 x3 (x4 + 1) _ _ _ h hT (lv_sub hl [1, 2, 3, 0] rfl)
end
def wp_X6_putWord (post : cs_S → Prop) (G : Nat → Nat) (S : cs_S) (o : Nat) (p1 : Int64) : Prop := wp_X11_lettersOf (fun r10 S10 => cs_k S10 o = 8 ∧ wp_X6_put (fun S11 => ∃ n9, w_X6_putWord_13 post G n9 S11 o p1 r10 0) G S10 o r10) G S p1
set_option maxRecDepth 100000 in
set_option maxHeartbeats 4000000 in
theorem c_X6_putWord {l : Launch} {P : hw_G} {G : Nat → Nat} {S : cs_S} {sz : Nat} {o : Nat} {p1 : Int64} {post : cs_S → Prop} (h : wp_X6_putWord post G S o p1) : Met l yX6_putWord [Cond.code yX6_putWord cX6_putWord 5 none] rm_X6_putWord (cs_Pc P G S sz [.ref o, .long p1]) (cs_Qv P (cs_A S sz) post) 0 0 (cs_A S sz) := by
  refine cs_met (by decide) rfl (Nat.le_of_ble_eq_true rfl) ?_
  intro p e s m below meth c ls hC hin hO hT hl
  obtain ⟨hx, hb, hml, hown, hK, -, -⟩ := id hC
  replace hl : lv_has ls 5 [(0, .ref o), (1, .long p1)] := hl
  refine lv_lload_n hx hb dX6_putWord_0 rfl (lv_at hl 1 rfl) ?_
  refine cs_calli0 (cs_runSN hx hb hml hown hK hO hT (c_X11_lettersOf h) rfl rfl klnX6_117 ki_X11_lettersOf kn_X11 kc_X11_lettersOf 1 ⟨by decide, by decide, by decide +kernel⟩ ⟨by decide, by decide⟩ rfl hl.1 rfl (hw_cat8 (Nat.le_of_ble_eq_true rfl)) ⟨(Nat.le_refl _), (Nat.le_refl _)⟩ dX6_putWord_1) hT (fun r10 S10 H locs h_ hT_ => ?_)
  replace h := h_
  replace hT := hT_
  refine lv_istore_n (lv' := [(3, _), (0, _), (1, _)]) hx hb dX6_putWord_4 rfl hl (by decide) rfl (fun ls hl_ => ?_)
  replace hl := hl_
  refine lv_aload_n (x := o) hx hb dX6_putWord_5 rfl (lv_at hl 1 rfl) ?_
  refine lv_iload_n hx hb dX6_putWord_6 rfl (lv_at hl 0 rfl) ?_
  obtain ⟨hk12_, h⟩ := h
  refine cs_callv0 (cs_runV hx hb hml hown hK hO hT 7 hk12_ (by decide) rfl (c_X6_put h) rfl rfl klX6_85 ki_X6_put ks_X6_put kn_X6 kc_X6_put 1 ⟨rfl, by decide, by decide, by decide +kernel⟩ ⟨by decide, by decide⟩ rfl hl.1 rfl (hw_cat8 (Nat.le_of_ble_eq_true rfl)) ⟨(Nat.le_refl _), (Nat.le_refl _)⟩ dX6_putWord_7) hT (fun S11 H locs h_ hT_ => ?_)
  replace h := h_
  replace hT := hT_
  refine lv_iconst (v := 0) hx hb dX6_putWord_10 (by decide) ?_
  refine lv_istore (lv' := [(4, _), (3, _), (0, _), (1, _)]) hx hb dX6_putWord_11 hl (by decide) rfl (fun ls hl_ => ?_)
  replace hl := hl_
  obtain ⟨n9, h⟩ := h
  exact t_X6_putWord_13 hC hin hO n9 S11 o p1 r10 0 _ _ _ h hT (lv_sub hl [2, 3, 1, 0] rfl)
/-! X6_putValue -/
abbrev rm_X6_putValue : Room := { frames := 2, cells := 0, slots := 0, locals := 46 }
def w_X6_putValue_131 (post : cs_S → Prop) (G : Nat → Nat) (S : cs_S)  : Prop := post S
section
variable {p : Program} {l : Launch} {e : Env} {s : State} {m : MethodId} {args : Array Value} {below : List Frame} {meth : Method} {c : Code} {P : hw_G} {G : Nat → Nat} {A : Nat → Prop}
set_option maxRecDepth 100000 in
set_option maxHeartbeats 4000000 in
theorem t_X6_putValue_131 {post : cs_S → Prop} (hC : rf_C P RX6 p s m meth c cX6_putValue 6 none) (hin : meth.name = yX6_putValue.name) (hO : cs_O G A s s.heap) (S : cs_S)  (H : Heap) (locs : List Loc) (ls : Array Slot) (h : w_X6_putValue_131 post G S ) (hT : cs_T P s A S H locs) (hl : lv_has ls 6 []) : W p l e rm_X6_putValue s m args below meth c H locs 0 0 (MQ below (cs_Qv P A post) args s 0 0 A) (F0 m 131 ls []) := by
  obtain ⟨hx, hb, hml, hown, hK, -, -⟩ := id hC
  exact cs_vret hC hT h dX6_putValue_131 (Nat.le_refl _) (Nat.le_refl _)
end
def w_X6_putValue_107 (post : cs_S → Prop) (G : Nat → Nat) : Nat → cs_S → Nat → Option Nat → Int32 → Int32 → Prop
  | 0, _, _, _, _, _ => False
  | n + 1, S, x0, x2, x3, x4 => (x3 ≤ x4 → w_X6_putValue_131 post G S) ∧ (¬ x3 ≤ x4 → ∃ b21, x2 = some b21 ∧ cs_k S b21 = 20 ∧ vp_in x4 (cs_n S b21) ∧ cs_k S x0 = 8 ∧ wp_X6_put (fun S23 => w_X6_putValue_107 post G n S23 x0 (some b21) x3 (x4 + 1)) G S x0 (cs_ai S b21 x4.toNatClampNeg))
section
variable {p : Program} {l : Launch} {e : Env} {s : State} {m : MethodId} {args : Array Value} {below : List Frame} {meth : Method} {c : Code} {P : hw_G} {G : Nat → Nat} {A : Nat → Prop}
set_option maxRecDepth 100000 in
set_option maxHeartbeats 4000000 in
theorem t_X6_putValue_107 {post : cs_S → Prop} (hC : rf_C P RX6 p s m meth c cX6_putValue 6 none) (hin : meth.name = yX6_putValue.name) (hO : cs_O G A s s.heap) : ∀ (n : Nat) (S : cs_S) (x0 : Nat) (x2 : Option Nat) (x3 : Int32) (x4 : Int32) (H : Heap) (locs : List Loc) (ls : Array Slot), w_X6_putValue_107 post G n S x0 x2 x3 x4 → cs_T P s A S H locs → lv_has ls 6 [(0, .ref x0), (2, va_rf x2), (3, .int x3), (4, .int x4)] → W p l e rm_X6_putValue s m args below meth c H locs 0 0 (MQ below (cs_Qv P A post) args s 0 0 A) (F0 m 107 ls []) := by
  obtain ⟨hx, hb, hml, hown, hK, -, -⟩ := id hC
  intro n
  induction n with
  | zero => intro S x0 x2 x3 x4 H locs ls h; exact False.elim h
  | succ n ih =>
    intro S x0 x2 x3 x4 H locs ls h hT hl
    refine lv_iload hx hb dX6_putValue_107 (lv_at hl 3 rfl) ?_
    refine lv_iload_n hx hb dX6_putValue_109 rfl (lv_at hl 2 rfl) ?_
    refine lv_icmp_ge (tgt := 131) hx hb dX6_putValue_110 (by decide) (fun hc => ?_) (fun hc => ?_)
    · replace h := h.1 hc
      exact t_X6_putValue_131 hC hin hO S _ _ _ h hT (lv_sub hl [] rfl)
    · replace h := h.2 hc
      refine hw_aload_n (x := x2) hx hb dX6_putValue_113 rfl (lv_at hl 1 rfl) ?_
      refine lv_iload hx hb dX6_putValue_114 (lv_at hl 3 rfl) ?_
      obtain ⟨b21, rfl, h⟩ := h
      obtain ⟨hk22_, h⟩ := h
      obtain ⟨hi, h⟩ := h
      refine cs_iald hx hb hK hT hk22_ hi dX6_putValue_116 ?_
      refine lv_istore (lv' := [(5, _), (0, _), (2, _), (3, _), (4, _)]) hx hb dX6_putValue_117 hl (by decide) rfl (fun ls hl_ => ?_)
      replace hl := hl_
      refine lv_aload_n (x := x0) hx hb dX6_putValue_119 rfl (lv_at hl 1 rfl) ?_
      refine lv_iload hx hb dX6_putValue_120 (lv_at hl 0 rfl) ?_
      obtain ⟨hk24_, h⟩ := h
      refine cs_callv0 (cs_runV hx hb hml hown hK hO hT 7 hk24_ (by decide) rfl (c_X6_put h) rfl rfl klX6_85 ki_X6_put ks_X6_put kn_X6 kc_X6_put 1 ⟨rfl, by decide, by decide, by decide +kernel⟩ ⟨by decide, by decide⟩ rfl hl.1 rfl (hw_cat8 (Nat.le_of_ble_eq_true rfl)) ⟨(Nat.le_refl _), (Nat.le_refl _)⟩ dX6_putValue_122) hT (fun S23 H locs h_ hT_ => ?_)
      replace h := h_
      replace hT := hT_
      refine lv_iinc (v := x4 + 1) (lv' := [(4, _), (5, _), (0, _), (2, _), (3, _)]) hx hb dX6_putValue_125 hl (k := 4) rfl rfl (by decide) rfl (fun ls hl_ => ?_)
      replace hl := hl_
      refine lv_goto (tgt := 107) hx hb dX6_putValue_128 (by decide) ?_
      exact ih S23 x0 (some b21) x3 (x4 + 1) _ _ _ h hT (lv_sub hl [2, 3, 4, 0] rfl)
end
def w_X6_putValue_60 (post : cs_S → Prop) (G : Nat → Nat) : Nat → cs_S → Nat → Option Nat → Int32 → Prop
  | 0, _, _, _, _ => False
  | n + 1, S, x0, x1, x2 => (x2 < 0 → w_X6_putValue_131 post G S) ∧ (¬ x2 < 0 → ∃ b25, x1 = some b25 ∧ cs_k S b25 = 11 ∧ cs_k S x0 = 8 ∧ wp_X6_put (fun S27 => w_X6_putValue_60 post G n S27 x0 (some b25) (x2 + (-8))) G S x0 ((((cs_i S 1001 b25).toUInt32 >>> (x2.toUInt32 &&& Int32.toUInt32 31)).toInt32) &&& 255))
section
variable {p : Program} {l : Launch} {e : Env} {s : State} {m : MethodId} {args : Array Value} {below : List Frame} {meth : Method} {c : Code} {P : hw_G} {G : Nat → Nat} {A : Nat → Prop}
set_option maxRecDepth 100000 in
set_option maxHeartbeats 4000000 in
theorem t_X6_putValue_60 {post : cs_S → Prop} (hC : rf_C P RX6 p s m meth c cX6_putValue 6 none) (hin : meth.name = yX6_putValue.name) (hO : cs_O G A s s.heap) : ∀ (n : Nat) (S : cs_S) (x0 : Nat) (x1 : Option Nat) (x2 : Int32) (H : Heap) (locs : List Loc) (ls : Array Slot), w_X6_putValue_60 post G n S x0 x1 x2 → cs_T P s A S H locs → lv_has ls 6 [(0, .ref x0), (1, va_rf x1), (2, .int x2)] → W p l e rm_X6_putValue s m args below meth c H locs 0 0 (MQ below (cs_Qv P A post) args s 0 0 A) (F0 m 60 ls []) := by
  obtain ⟨hx, hb, hml, hown, hK, -, -⟩ := id hC
  intro n
  induction n with
  | zero => intro S x0 x1 x2 H locs ls h; exact False.elim h
  | succ n ih =>
    intro S x0 x1 x2 H locs ls h hT hl
    refine lv_iload_n hx hb dX6_putValue_60 rfl (lv_at hl 2 rfl) ?_
    refine lv_if_lt (tgt := 84) hx hb dX6_putValue_61 (by decide) (fun hc => ?_) (fun hc => ?_)
    · replace h := h.1 hc
      refine lv_goto (tgt := 131) hx hb dX6_putValue_84 (by decide) ?_
      exact t_X6_putValue_131 hC hin hO S _ _ _ h hT (lv_sub hl [] rfl)
    · replace h := h.2 hc
      refine lv_aload_n (x := x0) hx hb dX6_putValue_64 rfl (lv_at hl 0 rfl) ?_
      refine hw_aload_n (x := x1) hx hb dX6_putValue_65 rfl (lv_at hl 1 rfl) ?_
      obtain ⟨b25, rfl, h⟩ := h
      obtain ⟨hk26_, h⟩ := h
      refine cs_get hx hb hK hT hown 10 hk26_ (by decide) rfl 1 (by decide) kfX6_128 (v := .int (cs_i S 1001 b25)) rfl dX6_putValue_66 ?_
      refine lv_iload_n hx hb dX6_putValue_69 rfl (lv_at hl 2 rfl) ?_
      refine lv_iushr (v := ((cs_i S 1001 b25).toUInt32 >>> (x2.toUInt32 &&& Int32.toUInt32 31)).toInt32) hx hb dX6_putValue_70 rfl ?_
      refine lv_sipush (v := 255) hx hb dX6_putValue_71 (by decide) ?_
      refine lv_iand hx hb dX6_putValue_74 ?_
      obtain ⟨hk28_, h⟩ := h
      refine cs_callv0 (cs_runV hx hb hml hown hK hO hT 7 hk28_ (by decide) rfl (c_X6_put h) rfl rfl klX6_85 ki_X6_put ks_X6_put kn_X6 kc_X6_put 1 ⟨rfl, by decide, by decide, by decide +kernel⟩ ⟨by decide, by decide⟩ rfl hl.1 rfl (hw_cat8 (Nat.le_of_ble_eq_true rfl)) ⟨(Nat.le_refl _), (Nat.le_refl _)⟩ dX6_putValue_75) hT (fun S27 H locs h_ hT_ => ?_)
      replace h := h_
      replace hT := hT_
      refine lv_iinc (v := x2 + (-8)) (lv' := [(2, _), (0, _), (1, _)]) hx hb dX6_putValue_78 hl (k := 2) rfl rfl (by decide) rfl (fun ls hl_ => ?_)
      replace hl := hl_
      refine lv_goto (tgt := 60) hx hb dX6_putValue_81 (by decide) ?_
      exact ih S27 x0 (some b25) (x2 + (-8)) _ _ _ h hT (lv_sub hl [1, 2, 0] rfl)
end
def w_X6_putValue_43 (post : cs_S → Prop) (G : Nat → Nat) (S : cs_S) (y0 : Option Nat) (y1 : Int64) : Prop := ∃ b29, y0 = some b29 ∧ cs_k S b29 = 8 ∧ wp_X6_putUnsigned (fun S30 => w_X6_putValue_131 post G S30) G S b29 y1
section
variable {p : Program} {l : Launch} {e : Env} {s : State} {m : MethodId} {args : Array Value} {below : List Frame} {meth : Method} {c : Code} {P : hw_G} {G : Nat → Nat} {A : Nat → Prop}
set_option maxRecDepth 100000 in
set_option maxHeartbeats 4000000 in
theorem t_X6_putValue_43 {post : cs_S → Prop} (hC : rf_C P RX6 p s m meth c cX6_putValue 6 none) (hin : meth.name = yX6_putValue.name) (hO : cs_O G A s s.heap) (S : cs_S) (y0 : Option Nat) (y1 : Int64) (H : Heap) (locs : List Loc) (ls : Array Slot) (h : w_X6_putValue_43 post G S y0 y1) (hT : cs_T P s A S H locs) (hl : lv_has ls 6 []) : W p l e rm_X6_putValue s m args below meth c H locs 0 0 (MQ below (cs_Qv P A post) args s 0 0 A) (F0 m 43 ls [.long y1, va_rf y0]) := by
  obtain ⟨hx, hb, hml, hown, hK, -, -⟩ := id hC
  obtain ⟨b29, rfl, h⟩ := h
  obtain ⟨hk31_, h⟩ := h
  refine cs_callv0 (cs_runV hx hb hml hown hK hO hT 7 hk31_ (by decide) rfl (c_X6_putUnsigned h) rfl rfl klX6_92 ki_X6_putUnsigned ks_X6_putUnsigned kn_X6 kc_X6_putUnsigned 1 ⟨rfl, by decide, by decide, by decide +kernel⟩ ⟨by decide, by decide⟩ rfl hl.1 rfl (hw_cat8 (Nat.le_of_ble_eq_true rfl)) ⟨(Nat.le_refl _), (Nat.le_refl _)⟩ dX6_putValue_43) hT (fun S30 H locs h_ hT_ => ?_)
  replace h := h_
  replace hT := hT_
  refine lv_goto (tgt := 131) hx hb dX6_putValue_46 (by decide) ?_
  exact t_X6_putValue_131 hC hin hO S30 _ _ _ h hT (lv_sub hl [] rfl)
end
def wp_X6_putValue (post : cs_S → Prop) (G : Nat → Nat) (S : cs_S) (o : Nat) (p1 : Option Nat) : Prop := ∃ b32, p1 = some b32 ∧ cs_k S b32 = 11 ∧ cs_k S o = 8 ∧ wp_X6_put (fun S34 => cs_k S34 b32 = 11 ∧ (¬ (cs_i S34 1000 b32) = 0 → (¬ (cs_i S34 1000 b32) = 2 → ∀ r37, r37 = cs_r S34 1002 b32 → ∃ b38, r37 = some b38 ∧ cs_k S34 b38 = 20 ∧ cs_k S34 o = 8 ∧ wp_X6_put (fun S40 => cs_k S40 b32 = 11 ∧ ∀ r43, r43 = cs_r S40 1002 b32 → ∃ b44, r43 = some b44 ∧ cs_k S40 b44 = 20 ∧ ∃ n9, w_X6_putValue_107 post G n9 S40 o (some b44) (Int32.ofNat (cs_n S40 b44)) 0) G S34 o (Int32.ofNat (cs_n S34 b38))) ∧ ((cs_i S34 1000 b32) = 2 → ∃ n9, w_X6_putValue_60 post G n9 S34 o (some b32) 24)) ∧ ((cs_i S34 1000 b32) = 0 → ((lg_cmp ((cs_i S34 1001 b32).toInt64) 0) < 0 → w_X6_putValue_43 post G S34 (some o) ((((-2)) * ((cs_i S34 1001 b32).toInt64)) - 1)) ∧ (¬ (lg_cmp ((cs_i S34 1001 b32).toInt64) 0) < 0 → w_X6_putValue_43 post G S34 (some o) (2 * ((cs_i S34 1001 b32).toInt64))))) G S o (cs_i S 1000 b32)
set_option maxRecDepth 100000 in
set_option maxHeartbeats 4000000 in
theorem c_X6_putValue {l : Launch} {P : hw_G} {G : Nat → Nat} {S : cs_S} {sz : Nat} {o : Nat} {p1 : Option Nat} {post : cs_S → Prop} (h : wp_X6_putValue post G S o p1) : Met l yX6_putValue [Cond.code yX6_putValue cX6_putValue 6 none] rm_X6_putValue (cs_Pc P G S sz [.ref o, va_rf p1]) (cs_Qv P (cs_A S sz) post) 0 0 (cs_A S sz) := by
  refine cs_met (by decide) rfl (by cases p1 <;> exact Nat.le_of_ble_eq_true rfl) ?_
  intro p e s m below meth c ls hC hin hO hT hl
  obtain ⟨hx, hb, hml, hown, hK, -, -⟩ := id hC
  replace hl : lv_has ls 6 [(0, .ref o), (1, va_rf p1)] := by cases p1 <;> exact hl
  refine lv_aload_n (x := o) hx hb dX6_putValue_0 rfl (lv_at hl 0 rfl) ?_
  refine hw_aload_n (x := p1) hx hb dX6_putValue_1 rfl (lv_at hl 1 rfl) ?_
  obtain ⟨b32, rfl, h⟩ := h
  obtain ⟨hk33_, h⟩ := h
  refine cs_get hx hb hK hT hown 10 hk33_ (by decide) rfl 0 (by decide) kfX6_125 (v := .int (cs_i S 1000 b32)) rfl dX6_putValue_2 ?_
  obtain ⟨hk35_, h⟩ := h
  refine cs_callv0 (cs_runV hx hb hml hown hK hO hT 7 hk35_ (by decide) rfl (c_X6_put h) rfl rfl klX6_85 ki_X6_put ks_X6_put kn_X6 kc_X6_put 1 ⟨rfl, by decide, by decide, by decide +kernel⟩ ⟨by decide, by decide⟩ rfl hl.1 rfl (hw_cat8 (Nat.le_of_ble_eq_true rfl)) ⟨(Nat.le_refl _), (Nat.le_refl _)⟩ dX6_putValue_5) hT (fun S34 H locs h_ hT_ => ?_)
  replace h := h_
  replace hT := hT_
  refine lv_aload_n (x := b32) hx hb dX6_putValue_8 rfl (lv_at hl 1 rfl) ?_
  obtain ⟨hk36_, h⟩ := h
  refine cs_get hx hb hK hT hown 10 hk36_ (by decide) rfl 0 (by decide) kfX6_125 (v := .int (cs_i S34 1000 b32)) rfl dX6_putValue_9 ?_
  refine lv_if_ne (tgt := 49) hx hb dX6_putValue_12 (by decide) (fun hc => ?_) (fun hc => ?_)
  · replace h := h.1 hc
    refine lv_aload_n (x := b32) hx hb dX6_putValue_49 rfl (lv_at hl 1 rfl) ?_
    refine cs_get hx hb hK hT hown 10 hk36_ (by decide) rfl 0 (by decide) kfX6_125 (v := .int (cs_i S34 1000 b32)) rfl dX6_putValue_50 ?_
    refine lv_iconst (v := 2) hx hb dX6_putValue_53 (by decide) ?_
    refine lv_icmp_ne (tgt := 87) hx hb dX6_putValue_54 (by decide) (fun hc => ?_) (fun hc => ?_)
    · replace h := h.1 hc
      refine lv_aload_n (x := o) hx hb dX6_putValue_87 rfl (lv_at hl 0 rfl) ?_
      refine lv_aload_n (x := b32) hx hb dX6_putValue_88 rfl (lv_at hl 1 rfl) ?_
      refine cs_get hx hb hK hT hown 10 hk36_ (by decide) rfl 2 (by decide) kfX6_135 (v := va_rf (cs_r S34 1002 b32)) rfl dX6_putValue_89 ?_
      refine hw_topr (fun r37 er37 => ?_)
      replace h := h r37 er37
      obtain ⟨b38, rfl, h⟩ := h
      obtain ⟨hk39_, h⟩ := h
      refine cs_alen hx hb hK hT 20 hk39_ (by decide) (by decide) dX6_putValue_92 ?_
      obtain ⟨hk41_, h⟩ := h
      refine cs_callv0 (cs_runV hx hb hml hown hK hO hT 7 hk41_ (by decide) rfl (c_X6_put h) rfl rfl klX6_85 ki_X6_put ks_X6_put kn_X6 kc_X6_put 1 ⟨rfl, by decide, by decide, by decide +kernel⟩ ⟨by decide, by decide⟩ rfl hl.1 rfl (hw_cat8 (Nat.le_of_ble_eq_true rfl)) ⟨(Nat.le_refl _), (Nat.le_refl _)⟩ dX6_putValue_93) hT (fun S40 H locs h_ hT_ => ?_)
      replace h := h_
      replace hT := hT_
      refine lv_aload_n (x := b32) hx hb dX6_putValue_96 rfl (lv_at hl 1 rfl) ?_
      obtain ⟨hk42_, h⟩ := h
      refine cs_get hx hb hK hT hown 10 hk42_ (by decide) rfl 2 (by decide) kfX6_135 (v := va_rf (cs_r S40 1002 b32)) rfl dX6_putValue_97 ?_
      refine hw_topr (fun r43 er43 => ?_)
      replace h := h r43 er43
      refine hw_astore_n (lv' := [(2, _), (0, _), (1, _)]) (x := r43) hx hb dX6_putValue_100 rfl hl (by decide) rfl (fun ls hl_ => ?_)
      replace hl := hl_
      refine hw_aload_n (x := r43) hx hb dX6_putValue_101 rfl (lv_at hl 0 rfl) ?_
      obtain ⟨b44, rfl, h⟩ := h
      obtain ⟨hk45_, h⟩ := h
      refine cs_alen hx hb hK hT 20 hk45_ (by decide) (by decide) dX6_putValue_102 ?_
      refine lv_istore_n (lv' := [(3, _), (2, _), (0, _), (1, _)]) hx hb dX6_putValue_103 rfl hl (by decide) rfl (fun ls hl_ => ?_)
      replace hl := hl_
      refine lv_iconst (v := 0) hx hb dX6_putValue_104 (by decide) ?_
      refine lv_istore (lv' := [(4, _), (3, _), (2, _), (0, _), (1, _)]) hx hb dX6_putValue_105 hl (by decide) rfl (fun ls hl_ => ?_)
      replace hl := hl_
      obtain ⟨n9, h⟩ := h
      exact t_X6_putValue_107 hC hin hO n9 S40 o (some b44) (Int32.ofNat (cs_n S40 b44)) 0 _ _ _ h hT (lv_sub hl [3, 2, 1, 0] rfl)
    · replace h := h.2 hc
      refine lv_bipush (v := 24) hx hb dX6_putValue_57 (by decide) ?_
      refine lv_istore_n (lv' := [(2, _), (0, _), (1, _)]) hx hb dX6_putValue_59 rfl hl (by decide) rfl (fun ls hl_ => ?_)
      replace hl := hl_
      obtain ⟨n9, h⟩ := h
      exact t_X6_putValue_60 hC hin hO n9 S34 o (some b32) 24 _ _ _ h hT (lv_sub hl [1, 2, 0] rfl)
  · replace h := h.2 hc
    refine lv_aload_n (x := b32) hx hb dX6_putValue_15 rfl (lv_at hl 1 rfl) ?_
    refine cs_get hx hb hK hT hown 10 hk36_ (by decide) rfl 1 (by decide) kfX6_128 (v := .int (cs_i S34 1001 b32)) rfl dX6_putValue_16 ?_
    refine lv_i2l (v := (cs_i S34 1001 b32).toInt64) hx hb dX6_putValue_19 rfl ?_
    refine lv_lstore_n (lv' := [(2, _), (0, _), (1, _)]) hx hb dX6_putValue_20 rfl hl (by decide) rfl (fun ls hl_ => ?_)
    replace hl := hl_
    refine lv_aload_n (x := o) hx hb dX6_putValue_21 rfl (lv_at hl 1 rfl) ?_
    refine lv_lload_n hx hb dX6_putValue_22 rfl (lv_at hl 0 rfl) ?_
    refine lv_lconst (v := 0) hx hb dX6_putValue_23 (by decide) ?_
    refine W.lcmp hx hb dX6_putValue_24 ?_
    refine lv_if_lt (tgt := 36) hx hb dX6_putValue_25 (by decide) (fun hc => ?_) (fun hc => ?_)
    · replace h := h.1 hc
      refine lv_ldc2 (v := (-2)) hx hb hown (hK.word kkX6_133 rfl) dX6_putValue_36 ?_
      refine lv_lload_n hx hb dX6_putValue_39 rfl (lv_at hl 0 rfl) ?_
      refine lv_lmul hx hb dX6_putValue_40 ?_
      refine lv_lconst (v := 1) hx hb dX6_putValue_41 (by decide) ?_
      refine lv_lsub hx hb dX6_putValue_42 ?_
      exact t_X6_putValue_43 hC hin hO S34 (some o) ((((-2)) * ((cs_i S34 1001 b32).toInt64)) - 1) _ _ _ h hT (lv_sub hl [] rfl)
    · replace h := h.2 hc
      refine lv_ldc2 (v := 2) hx hb hown (hK.word kkX6_131 rfl) dX6_putValue_28 ?_
      refine lv_lload_n hx hb dX6_putValue_31 rfl (lv_at hl 0 rfl) ?_
      refine lv_lmul hx hb dX6_putValue_32 ?_
      refine lv_goto (tgt := 43) hx hb dX6_putValue_33 (by decide) ?_
      exact t_X6_putValue_43 hC hin hO S34 (some o) (2 * ((cs_i S34 1001 b32).toInt64)) _ _ _ h hT (lv_sub hl [] rfl)
