/-! X0_init -/
abbrev rm_X0_init : Room := { frames := 1, cells := 0, slots := 0, locals := 24 }
def wp_X0_init (post : cs_S → Prop) (G : Nat → Nat) (S : cs_S) (o : Nat) (p1 : Int32) (p2 : Int32) (p3 : Int32) (p4 : Int32) (p5 : Option Nat) : Prop := cs_k S o = 2 ∧ ∀ S16, S16 = cs_ui S 100 o p1 → cs_k S16 o = 2 ∧ ∀ S18, S18 = cs_ui S16 101 o p2 → cs_k S18 o = 2 ∧ ∀ S20, S20 = cs_ui S18 102 o p3 → cs_k S20 o = 2 ∧ ∀ S22, S22 = cs_ui S20 103 o p4 → cs_k S22 o = 2 ∧ ∀ S24, S24 = cs_ur S22 105 o p5 → ∃ b25, p5 = some b25 ∧ cs_k S24 b25 = 6 ∧ cs_k S24 o = 2 ∧ ∀ S28, S28 = cs_ui S24 104 o (cs_i S24 504 b25) → post S28
set_option maxRecDepth 100000 in
set_option maxHeartbeats 4000000 in
theorem c_X0_init {l : Launch} {P : hw_G} {G : Nat → Nat} {S : cs_S} {sz : Nat} {o : Nat} {p1 : Int32} {p2 : Int32} {p3 : Int32} {p4 : Int32} {p5 : Option Nat} {post : cs_S → Prop} (h : wp_X0_init post G S o p1 p2 p3 p4 p5) : Met l yX0_init [Cond.code yX0_init cX0_init 6 none] rm_X0_init (cs_Pc P G S sz [.ref o, .int p1, .int p2, .int p3, .int p4, va_rf p5]) (cs_Qv P (cs_A S sz) post) 0 0 (cs_A S sz) := by
  refine cs_met (by decide) rfl (by cases p5 <;> exact Nat.le_of_ble_eq_true rfl) ?_
  intro p e s m below meth c ls hC hin hO hT hl
  obtain ⟨hx, hb, hml, hown, hK, -, -⟩ := id hC
  replace hl : lv_has ls 6 [(0, .ref o), (1, .int p1), (2, .int p2), (3, .int p3), (4, .int p4), (5, va_rf p5)] := by cases p5 <;> exact hl
  refine lv_aload_n (x := o) hx hb dX0_init_0 rfl (lv_at hl 0 rfl) ?_
  refine cs_objInit hx hb hml hown hK hl.1 klX0_1 ki_obj kc_obj dX0_init_1 (Nat.le_of_ble_eq_true rfl) (hw_catN (Nat.le_of_ble_eq_true rfl) (Nat.le_of_ble_eq_true rfl)) ?_
  refine lv_aload_n (x := o) hx hb dX0_init_4 rfl (lv_at hl 0 rfl) ?_
  refine lv_iload_n hx hb dX0_init_5 rfl (lv_at hl 1 rfl) ?_
  obtain ⟨hk15_, h⟩ := h
  refine cs_putFi (x := p1) hx hb hK hT hown hin 1 hk15_ (by decide) rfl 0 (by decide) kfX0_7 rfl rfl (tyX0_ok 0 (by decide)) rfl 100 rfl dX0_init_6 (fun H locs hT_ => ?_)
  replace hT := hT_
  obtain ⟨S16, eS16⟩ : ∃ z, z = cs_ui S 100 o p1 := ⟨_, rfl⟩
  rw [← eS16] at hT
  replace h := h S16 eS16
  refine lv_aload_n (x := o) hx hb dX0_init_9 rfl (lv_at hl 0 rfl) ?_
  refine lv_iload_n hx hb dX0_init_10 rfl (lv_at hl 2 rfl) ?_
  obtain ⟨hk17_, h⟩ := h
  refine cs_putFi (x := p2) hx hb hK hT hown hin 1 hk17_ (by decide) rfl 1 (by decide) kfX0_13 rfl rfl (tyX0_ok 1 (by decide)) rfl 101 rfl dX0_init_11 (fun H locs hT_ => ?_)
  replace hT := hT_
  obtain ⟨S18, eS18⟩ : ∃ z, z = cs_ui S16 101 o p2 := ⟨_, rfl⟩
  rw [← eS18] at hT
  replace h := h S18 eS18
  refine lv_aload_n (x := o) hx hb dX0_init_14 rfl (lv_at hl 0 rfl) ?_
  refine lv_iload_n hx hb dX0_init_15 rfl (lv_at hl 3 rfl) ?_
  obtain ⟨hk19_, h⟩ := h
  refine cs_putFi (x := p3) hx hb hK hT hown hin 1 hk19_ (by decide) rfl 2 (by decide) kfX0_16 rfl rfl (tyX0_ok 2 (by decide)) rfl 102 rfl dX0_init_16 (fun H locs hT_ => ?_)
  replace hT := hT_
  obtain ⟨S20, eS20⟩ : ∃ z, z = cs_ui S18 102 o p3 := ⟨_, rfl⟩
  rw [← eS20] at hT
  replace h := h S20 eS20
  refine lv_aload_n (x := o) hx hb dX0_init_19 rfl (lv_at hl 0 rfl) ?_
  refine lv_iload hx hb dX0_init_20 (lv_at hl 4 rfl) ?_
  obtain ⟨hk21_, h⟩ := h
  refine cs_putFi (x := p4) hx hb hK hT hown hin 1 hk21_ (by decide) rfl 3 (by decide) kfX0_19 rfl rfl (tyX0_ok 3 (by decide)) rfl 103 rfl dX0_init_22 (fun H locs hT_ => ?_)
  replace hT := hT_
  obtain ⟨S22, eS22⟩ : ∃ z, z = cs_ui S20 103 o p4 := ⟨_, rfl⟩
  rw [← eS22] at hT
  replace h := h S22 eS22
  refine lv_aload_n (x := o) hx hb dX0_init_25 rfl (lv_at hl 0 rfl) ?_
  refine hw_aload (x := p5) hx hb dX0_init_26 (lv_at hl 5 rfl) ?_
  obtain ⟨hk23_, h⟩ := h
  refine cs_putFr (x := p5) hx hb hK hT hown hin 1 hk23_ (by decide) rfl 5 (by decide) kfX0_22 rfl rfl (tyX0_ok 5 (by decide)) rfl 105 rfl dX0_init_28 (fun H locs hT_ => ?_)
  replace hT := hT_
  obtain ⟨S24, eS24⟩ : ∃ z, z = cs_ur S22 105 o p5 := ⟨_, rfl⟩
  rw [← eS24] at hT
  replace h := h S24 eS24
  refine lv_aload_n (x := o) hx hb dX0_init_31 rfl (lv_at hl 0 rfl) ?_
  refine hw_aload (x := p5) hx hb dX0_init_32 (lv_at hl 5 rfl) ?_
  obtain ⟨b25, rfl, h⟩ := h
  obtain ⟨hk26_, h⟩ := h
  refine cs_get hx hb hK hT hown 5 hk26_ (by decide) rfl 4 (by decide) kfX0_26 (v := .int (cs_i S24 504 b25)) rfl dX0_init_34 ?_
  obtain ⟨hk27_, h⟩ := h
  refine cs_putFi (x := (cs_i S24 504 b25)) hx hb hK hT hown hin 1 hk27_ (by decide) rfl 4 (by decide) kfX0_31 rfl rfl (tyX0_ok 4 (by decide)) rfl 104 rfl dX0_init_37 (fun H locs hT_ => ?_)
  replace hT := hT_
  obtain ⟨S28, eS28⟩ : ∃ z, z = cs_ui S24 104 o (cs_i S24 504 b25) := ⟨_, rfl⟩
  rw [← eS28] at hT
  replace h := h S28 eS28
  exact cs_vret hC hT h dX0_init_40 (Nat.le_refl _) (Nat.le_refl _)
/-! X1_init -/
abbrev rm_X1_init : Room := { frames := 1, cells := 0, slots := 0, locals := 24 }
def wp_X1_init (post : cs_S → Prop) (G : Nat → Nat) (S : cs_S) (o : Nat) (p1 : Int32) (p2 : Int64) (p4 : Int32) (p5 : Option Nat) : Prop := cs_k S o = 3 ∧ ∀ S10, S10 = cs_ui S 200 o p1 → cs_k S10 o = 3 ∧ ∀ S12, S12 = cs_ul S10 201 o p2 → cs_k S12 o = 3 ∧ ∀ S14, S14 = cs_ui S12 202 o p4 → cs_k S14 o = 3 ∧ ∀ S16, S16 = cs_ur S14 203 o p5 → post S16
set_option maxRecDepth 100000 in
set_option maxHeartbeats 4000000 in
theorem c_X1_init {l : Launch} {P : hw_G} {G : Nat → Nat} {S : cs_S} {sz : Nat} {o : Nat} {p1 : Int32} {p2 : Int64} {p4 : Int32} {p5 : Option Nat} {post : cs_S → Prop} (h : wp_X1_init post G S o p1 p2 p4 p5) : Met l yX1_init [Cond.code yX1_init cX1_init 6 none] rm_X1_init (cs_Pc P G S sz [.ref o, .int p1, .long p2, .int p4, va_rf p5]) (cs_Qv P (cs_A S sz) post) 0 0 (cs_A S sz) := by
  refine cs_met (by decide) rfl (by cases p5 <;> exact Nat.le_of_ble_eq_true rfl) ?_
  intro p e s m below meth c ls hC hin hO hT hl
  obtain ⟨hx, hb, hml, hown, hK, -, -⟩ := id hC
  replace hl : lv_has ls 6 [(0, .ref o), (1, .int p1), (2, .long p2), (4, .int p4), (5, va_rf p5)] := by cases p5 <;> exact hl
  refine lv_aload_n (x := o) hx hb dX1_init_0 rfl (lv_at hl 0 rfl) ?_
  refine cs_objInit hx hb hml hown hK hl.1 klX1_3 ki_obj kc_obj dX1_init_1 (Nat.le_of_ble_eq_true rfl) (hw_catN (Nat.le_of_ble_eq_true rfl) (Nat.le_of_ble_eq_true rfl)) ?_
  refine lv_aload_n (x := o) hx hb dX1_init_4 rfl (lv_at hl 0 rfl) ?_
  refine lv_iload_n hx hb dX1_init_5 rfl (lv_at hl 1 rfl) ?_
  obtain ⟨hk9_, h⟩ := h
  refine cs_putFi (x := p1) hx hb hK hT hown hin 2 hk9_ (by decide) rfl 0 (by decide) kfX1_9 rfl rfl (tyX1_ok 0 (by decide)) rfl 200 rfl dX1_init_6 (fun H locs hT_ => ?_)
  replace hT := hT_
  obtain ⟨S10, eS10⟩ : ∃ z, z = cs_ui S 200 o p1 := ⟨_, rfl⟩
  rw [← eS10] at hT
  replace h := h S10 eS10
  refine lv_aload_n (x := o) hx hb dX1_init_9 rfl (lv_at hl 0 rfl) ?_
  refine lv_lload_n hx hb dX1_init_10 rfl (lv_at hl 2 rfl) ?_
  obtain ⟨hk11_, h⟩ := h
  refine cs_putFl (x := p2) hx hb hK hT hown hin 2 hk11_ (by decide) rfl 1 (by decide) kfX1_15 rfl rfl (tyX1_ok 1 (by decide)) rfl 201 rfl dX1_init_11 (fun H locs hT_ => ?_)
  replace hT := hT_
  obtain ⟨S12, eS12⟩ : ∃ z, z = cs_ul S10 201 o p2 := ⟨_, rfl⟩
  rw [← eS12] at hT
  replace h := h S12 eS12
  refine lv_aload_n (x := o) hx hb dX1_init_14 rfl (lv_at hl 0 rfl) ?_
  refine lv_iload hx hb dX1_init_15 (lv_at hl 3 rfl) ?_
  obtain ⟨hk13_, h⟩ := h
  refine cs_putFi (x := p4) hx hb hK hT hown hin 2 hk13_ (by decide) rfl 2 (by decide) kfX1_19 rfl rfl (tyX1_ok 2 (by decide)) rfl 202 rfl dX1_init_17 (fun H locs hT_ => ?_)
  replace hT := hT_
  obtain ⟨S14, eS14⟩ : ∃ z, z = cs_ui S12 202 o p4 := ⟨_, rfl⟩
  rw [← eS14] at hT
  replace h := h S14 eS14
  refine lv_aload_n (x := o) hx hb dX1_init_20 rfl (lv_at hl 0 rfl) ?_
  refine hw_aload (x := p5) hx hb dX1_init_21 (lv_at hl 4 rfl) ?_
  obtain ⟨hk15_, h⟩ := h
  refine cs_putFr (x := p5) hx hb hK hT hown hin 2 hk15_ (by decide) rfl 3 (by decide) kfX1_22 rfl rfl (tyX1_ok 3 (by decide)) rfl 203 rfl dX1_init_23 (fun H locs hT_ => ?_)
  replace hT := hT_
  obtain ⟨S16, eS16⟩ : ∃ z, z = cs_ur S14 203 o p5 := ⟨_, rfl⟩
  rw [← eS16] at hT
  replace h := h S16 eS16
  exact cs_vret hC hT h dX1_init_26 (Nat.le_refl _) (Nat.le_refl _)
/-! X1_append -/
abbrev rm_X1_append : Room := { frames := 0, cells := 0, slots := 0, locals := 0 }
def w_X1_append_28 (post : cs_S → Prop) (G : Nat → Nat) (S : cs_S) (x0 : Nat) (x1 : Option Nat) : Prop := cs_k S x0 = 3 ∧ ∀ S11, S11 = cs_ur S 205 x0 x1 → post S11
section
variable {p : Program} {l : Launch} {e : Env} {s : State} {m : MethodId} {args : Array Value} {below : List Frame} {meth : Method} {c : Code} {P : hw_G} {G : Nat → Nat} {A : Nat → Prop}
set_option maxRecDepth 100000 in
set_option maxHeartbeats 4000000 in
theorem t_X1_append_28 {post : cs_S → Prop} (hC : rf_C P RX1 p s m meth c cX1_append 2 none) (hin : meth.name = yX1_append.name) (hO : cs_O G A s s.heap) (S : cs_S) (x0 : Nat) (x1 : Option Nat) (H : Heap) (locs : List Loc) (ls : Array Slot) (h : w_X1_append_28 post G S x0 x1) (hT : cs_T P s A S H locs) (hl : lv_has ls 2 [(0, .ref x0), (1, va_rf x1)]) : W p l e rm_X1_append s m args below meth c H locs 0 0 (MQ below (cs_Qv P A post) args s 0 0 A) (F0 m 28 ls []) := by
  obtain ⟨hx, hb, hml, hown, hK, -, -⟩ := id hC
  refine lv_aload_n (x := x0) hx hb dX1_append_28 rfl (lv_at hl 0 rfl) ?_
  refine hw_aload_n (x := x1) hx hb dX1_append_29 rfl (lv_at hl 1 rfl) ?_
  obtain ⟨hk10_, h⟩ := h
  refine cs_putr (x := x1) hx hb hK hT hown 2 hk10_ (by decide) rfl 5 (by decide) kfX1_26 rfl (tyX1_ok 5 (by decide)) rfl 205 rfl dX1_append_30 (fun H locs hT_ => ?_)
  replace hT := hT_
  obtain ⟨S11, eS11⟩ : ∃ z, z = cs_ur S 205 x0 x1 := ⟨_, rfl⟩
  rw [← eS11] at hT
  replace h := h S11 eS11
  exact cs_vret hC hT h dX1_append_33 (Nat.le_refl _) (Nat.le_refl _)
end
def wp_X1_append (post : cs_S → Prop) (G : Nat → Nat) (S : cs_S) (o : Nat) (p1 : Option Nat) : Prop := (p1 = none → post S) ∧ (∀ b12, p1 = some b12 → cs_k S o = 3 ∧ ∀ r14, r14 = cs_r S 205 o → (r14 = none → ∀ S20, S20 = cs_ur S 204 o (some b12) → w_X1_append_28 post G S20 o (some b12)) ∧ (∀ b15, r14 = some b15 → ∀ r16, r16 = cs_r S 205 o → ∃ b17, r16 = some b17 ∧ cs_k S b17 = 3 ∧ ∀ S19, S19 = cs_ur S 206 b17 (some b12) → w_X1_append_28 post G S19 o (some b12)))
set_option maxRecDepth 100000 in
set_option maxHeartbeats 4000000 in
theorem c_X1_append {l : Launch} {P : hw_G} {G : Nat → Nat} {S : cs_S} {sz : Nat} {o : Nat} {p1 : Option Nat} {post : cs_S → Prop} (h : wp_X1_append post G S o p1) : Met l yX1_append [Cond.code yX1_append cX1_append 2 none] rm_X1_append (cs_Pc P G S sz [.ref o, va_rf p1]) (cs_Qv P (cs_A S sz) post) 0 0 (cs_A S sz) := by
  refine cs_met (by decide) rfl (by cases p1 <;> exact Nat.le_of_ble_eq_true rfl) ?_
  intro p e s m below meth c ls hC hin hO hT hl
  obtain ⟨hx, hb, hml, hown, hK, -, -⟩ := id hC
  replace hl : lv_has ls 2 [(0, .ref o), (1, va_rf p1)] := by cases p1 <;> exact hl
  refine hw_aload_n (x := p1) hx hb dX1_append_0 rfl (lv_at hl 1 rfl) ?_
  refine hw_ifnonnull (tgt := 5) hx hb dX1_append_1 (by decide) (fun b12 hc => ?_) (fun hc => ?_)
  · replace h := h.2 b12 hc
    subst hc
    refine lv_aload_n (x := o) hx hb dX1_append_5 rfl (lv_at hl 0 rfl) ?_
    obtain ⟨hk13_, h⟩ := h
    refine cs_get hx hb hK hT hown 2 hk13_ (by decide) rfl 5 (by decide) kfX1_26 (v := va_rf (cs_r S 205 o)) rfl dX1_append_6 ?_
    refine hw_topr (fun r14 er14 => ?_)
    replace h := h r14 er14
    refine hw_ifnonnull (tgt := 20) hx hb dX1_append_9 (by decide) (fun b15 hc => ?_) (fun hc => ?_)
    · replace h := h.2 b15 hc
      subst hc
      refine lv_aload_n (x := o) hx hb dX1_append_20 rfl (lv_at hl 0 rfl) ?_
      refine cs_get hx hb hK hT hown 2 hk13_ (by decide) rfl 5 (by decide) kfX1_26 (v := va_rf (cs_r S 205 o)) rfl dX1_append_21 ?_
      refine hw_topr (fun r16 er16 => ?_)
      replace h := h r16 er16
      refine lv_aload_n (x := b12) hx hb dX1_append_24 rfl (lv_at hl 1 rfl) ?_
      obtain ⟨b17, rfl, h⟩ := h
      obtain ⟨hk18_, h⟩ := h
      refine cs_putr (x := (some b12)) hx hb hK hT hown 2 hk18_ (by decide) rfl 6 (by decide) kfX1_33 rfl (tyX1_ok 6 (by decide)) rfl 206 rfl dX1_append_25 (fun H locs hT_ => ?_)
      replace hT := hT_
      obtain ⟨S19, eS19⟩ : ∃ z, z = cs_ur S 206 b17 (some b12) := ⟨_, rfl⟩
      rw [← eS19] at hT
      replace h := h S19 eS19
      exact t_X1_append_28 hC hin hO S19 o (some b12) _ _ _ h hT (lv_sub hl [0, 1] rfl)
    · replace h := h.1 hc
      subst hc
      refine lv_aload_n (x := o) hx hb dX1_append_12 rfl (lv_at hl 0 rfl) ?_
      refine lv_aload_n (x := b12) hx hb dX1_append_13 rfl (lv_at hl 1 rfl) ?_
      refine cs_putr (x := (some b12)) hx hb hK hT hown 2 hk13_ (by decide) rfl 4 (by decide) kfX1_30 rfl (tyX1_ok 4 (by decide)) rfl 204 rfl dX1_append_14 (fun H locs hT_ => ?_)
      replace hT := hT_
      obtain ⟨S20, eS20⟩ : ∃ z, z = cs_ur S 204 o (some b12) := ⟨_, rfl⟩
      rw [← eS20] at hT
      replace h := h S20 eS20
      refine lv_goto (tgt := 28) hx hb dX1_append_17 (by decide) ?_
      exact t_X1_append_28 hC hin hO S20 o (some b12) _ _ _ h hT (lv_sub hl [0, 1] rfl)
  · replace h := h.1 hc
    subst hc
    exact cs_vret hC hT h dX1_append_4 (Nat.le_refl _) (Nat.le_refl _)
/-! X3_find -/
abbrev rm_X3_find : Room := { frames := 0, cells := 0, slots := 0, locals := 0 }
def w_X3_find_44 (post : Option Nat → cs_S → Prop) (G : Nat → Nat) (S : cs_S)  : Prop := post none S
section
variable {p : Program} {l : Launch} {e : Env} {s : State} {m : MethodId} {args : Array Value} {below : List Frame} {meth : Method} {c : Code} {P : hw_G} {G : Nat → Nat} {A : Nat → Prop}
set_option maxRecDepth 100000 in
set_option maxHeartbeats 4000000 in
theorem t_X3_find_44 {post : Option Nat → cs_S → Prop} (hC : rf_C P RX3 p s m meth c cX3_find 4 (some (.object "WatchHouse$Value"))) (hin : meth.name = yX3_find.name) (hO : cs_O G A s s.heap) (S : cs_S)  (H : Heap) (locs : List Loc) (ls : Array Slot) (h : w_X3_find_44 post G S ) (hT : cs_T P s A S H locs) (hl : lv_has ls 4 []) : W p l e rm_X3_find s m args below meth c H locs 0 0 (MQ below (cs_Qr P A post) args s 0 0 A) (F0 m 44 ls []) := by
  obtain ⟨hx, hb, hml, hown, hK, -, -⟩ := id hC
  refine hw_null hx hb dX3_find_44 ?_
  exact cs_aret (v := none) hC (Or.inl ⟨_, rfl⟩) hT h dX3_find_45 (Nat.le_refl _) (Nat.le_refl _)
end
def w_X3_find_2 (post : Option Nat → cs_S → Prop) (G : Nat → Nat) : Nat → cs_S → Nat → Int64 → Int32 → Prop
  | 0, _, _, _, _ => False
  | n + 1, S, x0, x1, x3 => cs_k S x0 = 5 ∧ ∀ r16, r16 = cs_r S 403 x0 → ∃ b17, r16 = some b17 ∧ cs_k S b17 = 21 ∧ ((Int32.ofNat (cs_n S b17)) ≤ x3 → w_X3_find_44 post G S) ∧ (¬ (Int32.ofNat (cs_n S b17)) ≤ x3 → ∀ r19, r19 = cs_r S 404 x0 → ∃ b20, r19 = some b20 ∧ cs_k S b20 = 26 ∧ ((Int32.ofNat (cs_n S b20)) ≤ x3 → w_X3_find_44 post G S) ∧ (¬ (Int32.ofNat (cs_n S b20)) ≤ x3 → ∀ r22, r22 = cs_r S 403 x0 → ∃ b23, r22 = some b23 ∧ cs_k S b23 = 21 ∧ vp_in x3 (cs_n S b23) ∧ (¬ (lg_cmp (cs_al S b23 x3.toNatClampNeg) x1) = 0 → w_X3_find_2 post G n S x0 x1 (x3 + 1)) ∧ ((lg_cmp (cs_al S b23 x3.toNatClampNeg) x1) = 0 → ∀ r25, r25 = cs_r S 404 x0 → ∃ b26, r25 = some b26 ∧ cs_k S b26 = 26 ∧ vp_in x3 (cs_n S b26) ∧ ∀ r28, r28 = cs_ar S b26 x3.toNatClampNeg → post r28 S)))
section
variable {p : Program} {l : Launch} {e : Env} {s : State} {m : MethodId} {args : Array Value} {below : List Frame} {meth : Method} {c : Code} {P : hw_G} {G : Nat → Nat} {A : Nat → Prop}
set_option maxRecDepth 100000 in
set_option maxHeartbeats 4000000 in
theorem t_X3_find_2 {post : Option Nat → cs_S → Prop} (hC : rf_C P RX3 p s m meth c cX3_find 4 (some (.object "WatchHouse$Value"))) (hin : meth.name = yX3_find.name) (hO : cs_O G A s s.heap) : ∀ (n : Nat) (S : cs_S) (x0 : Nat) (x1 : Int64) (x3 : Int32) (H : Heap) (locs : List Loc) (ls : Array Slot), w_X3_find_2 post G n S x0 x1 x3 → cs_T P s A S H locs → lv_has ls 4 [(0, .ref x0), (1, .long x1), (3, .int x3)] → W p l e rm_X3_find s m args below meth c H locs 0 0 (MQ below (cs_Qr P A post) args s 0 0 A) (F0 m 2 ls []) := by
  obtain ⟨hx, hb, hml, hown, hK, -, -⟩ := id hC
  intro n
  induction n with
  | zero => intro S x0 x1 x3 H locs ls h; exact False.elim h
  | succ n ih =>
    intro S x0 x1 x3 H locs ls h hT hl
    refine lv_iload_n hx hb dX3_find_2 rfl (lv_at hl 2 rfl) ?_
    refine lv_aload_n (x := x0) hx hb dX3_find_3 rfl (lv_at hl 0 rfl) ?_
    obtain ⟨hk15_, h⟩ := h
    refine cs_get hx hb hK hT hown 4 hk15_ (by decide) rfl 3 (by decide) kfX3_20 (v := va_rf (cs_r S 403 x0)) rfl dX3_find_4 ?_
    refine hw_topr (fun r16 er16 => ?_)
    replace h := h r16 er16
    obtain ⟨b17, rfl, h⟩ := h
    obtain ⟨hk18_, h⟩ := h
    refine cs_alen hx hb hK hT 21 hk18_ (by decide) (by decide) dX3_find_7 ?_
    refine lv_icmp_ge (tgt := 44) hx hb dX3_find_8 (by decide) (fun hc => ?_) (fun hc => ?_)
    · replace h := h.1 hc
      exact t_X3_find_44 hC hin hO S _ _ _ h hT (lv_sub hl [] rfl)
    · replace h := h.2 hc
      refine lv_iload_n hx hb dX3_find_11 rfl (lv_at hl 2 rfl) ?_
      refine lv_aload_n (x := x0) hx hb dX3_find_12 rfl (lv_at hl 0 rfl) ?_
      refine cs_get hx hb hK hT hown 4 hk15_ (by decide) rfl 4 (by decide) kfX3_24 (v := va_rf (cs_r S 404 x0)) rfl dX3_find_13 ?_
      refine hw_topr (fun r19 er19 => ?_)
      replace h := h r19 er19
      obtain ⟨b20, rfl, h⟩ := h
      obtain ⟨hk21_, h⟩ := h
      refine cs_alen hx hb hK hT 26 hk21_ (by decide) (by decide) dX3_find_16 ?_
      refine lv_icmp_ge (tgt := 44) hx hb dX3_find_17 (by decide) (fun hc => ?_) (fun hc => ?_)
      · replace h := h.1 hc
        exact t_X3_find_44 hC hin hO S _ _ _ h hT (lv_sub hl [] rfl)
      · replace h := h.2 hc
        refine lv_aload_n (x := x0) hx hb dX3_find_20 rfl (lv_at hl 0 rfl) ?_
        refine cs_get hx hb hK hT hown 4 hk15_ (by decide) rfl 3 (by decide) kfX3_20 (v := va_rf (cs_r S 403 x0)) rfl dX3_find_21 ?_
        refine hw_topr (fun r22 er22 => ?_)
        replace h := h r22 er22
        refine lv_iload_n hx hb dX3_find_24 rfl (lv_at hl 2 rfl) ?_
        obtain ⟨b23, rfl, h⟩ := h
        obtain ⟨hk24_, h⟩ := h
        obtain ⟨hi, h⟩ := h
        refine cs_lald hx hb hK hT hk24_ hi dX3_find_25 ?_
        refine lv_lload_n hx hb dX3_find_26 rfl (lv_at hl 1 rfl) ?_
        refine W.lcmp hx hb dX3_find_27 ?_
        refine lv_if_ne (tgt := 38) hx hb dX3_find_28 (by decide) (fun hc => ?_) (fun hc => ?_)
        · replace h := h.1 hc
          refine lv_iinc (v := x3 + 1) (lv' := [(3, _), (0, _), (1, _)]) hx hb dX3_find_38 hl (k := 2) rfl rfl (by decide) rfl (fun ls hl_ => ?_)
          replace hl := hl_
          refine lv_goto (tgt := 2) hx hb dX3_find_41 (by decide) ?_
          exact ih S x0 x1 (x3 + 1) _ _ _ h hT (lv_sub hl [1, 2, 0] rfl)
        · replace h := h.2 hc
          refine lv_aload_n (x := x0) hx hb dX3_find_31 rfl (lv_at hl 0 rfl) ?_
          refine cs_get hx hb hK hT hown 4 hk15_ (by decide) rfl 4 (by decide) kfX3_24 (v := va_rf (cs_r S 404 x0)) rfl dX3_find_32 ?_
          refine hw_topr (fun r25 er25 => ?_)
          replace h := h r25 er25
          refine lv_iload_n hx hb dX3_find_35 rfl (lv_at hl 2 rfl) ?_
          obtain ⟨b26, rfl, h⟩ := h
          obtain ⟨hk27_, h⟩ := h
          obtain ⟨hi, h⟩ := h
          refine cs_aald hx hb hK hT 26 hk27_ (by decide) rfl (by decide) hi dX3_find_36 ?_
          refine hw_topr (fun r28 er28 => ?_)
          replace h := h r28 er28
          exact cs_aret (v := r28) hC (Or.inl ⟨_, rfl⟩) hT h dX3_find_37 (Nat.le_refl _) (Nat.le_refl _)
end
def wp_X3_find (post : Option Nat → cs_S → Prop) (G : Nat → Nat) (S : cs_S) (o : Nat) (p1 : Int64) : Prop := ∃ n9, w_X3_find_2 post G n9 S o p1 0
set_option maxRecDepth 100000 in
set_option maxHeartbeats 4000000 in
theorem c_X3_find {l : Launch} {P : hw_G} {G : Nat → Nat} {S : cs_S} {sz : Nat} {o : Nat} {p1 : Int64} {post : Option Nat → cs_S → Prop} (h : wp_X3_find post G S o p1) : Met l yX3_find [Cond.code yX3_find cX3_find 4 (some (.object "WatchHouse$Value"))] rm_X3_find (cs_Pc P G S sz [.ref o, .long p1]) (cs_Qr P (cs_A S sz) post) 0 0 (cs_A S sz) := by
  refine cs_met (by decide) rfl (Nat.le_of_ble_eq_true rfl) ?_
  intro p e s m below meth c ls hC hin hO hT hl
  obtain ⟨hx, hb, hml, hown, hK, -, -⟩ := id hC
  replace hl : lv_has ls 4 [(0, .ref o), (1, .long p1)] := hl
  refine lv_iconst (v := 0) hx hb dX3_find_0 (by decide) ?_
  refine lv_istore_n (lv' := [(3, _), (0, _), (1, _)]) hx hb dX3_find_1 rfl hl (by decide) rfl (fun ls hl_ => ?_)
  replace hl := hl_
  obtain ⟨n9, h⟩ := h
  exact t_X3_find_2 hC hin hO n9 S o p1 0 _ _ _ h hT (lv_sub hl [1, 2, 0] rfl)
/-! X9_like -/
abbrev rm_X9_like : Room := { frames := 0, cells := 0, slots := 0, locals := 0 }
def w_X9_like_164 (post : Int32 → cs_S → Prop) (G : Nat → Nat) (S : cs_S) (y0 : Int32) : Prop := narrow .boolean (.int y0) = .int y0 ∧ post y0 S
section
variable {p : Program} {l : Launch} {e : Env} {s : State} {m : MethodId} {args : Array Value} {below : List Frame} {meth : Method} {c : Code} {P : hw_G} {G : Nat → Nat} {A : Nat → Prop}
set_option maxRecDepth 100000 in
set_option maxHeartbeats 4000000 in
theorem t_X9_like_164 {post : Int32 → cs_S → Prop} (hC : rf_C P RX9 p s m meth c cX9_like 8 (some .boolean)) (hin : meth.name = yX9_like.name) (hO : cs_O G A s s.heap) (S : cs_S) (y0 : Int32) (H : Heap) (locs : List Loc) (ls : Array Slot) (h : w_X9_like_164 post G S y0) (hT : cs_T P s A S H locs) (hl : lv_has ls 8 []) : W p l e rm_X9_like s m args below meth c H locs 0 0 (MQ below (cs_Qi P A post) args s 0 0 A) (F0 m 164 ls [.int y0]) := by
  obtain ⟨hx, hb, hml, hown, hK, -, -⟩ := id hC
  exact cs_zret hC hT h.1 h.2 dX9_like_164 (Nat.le_refl _) (Nat.le_refl _)
end
def w_X9_like_150 (post : Int32 → cs_S → Prop) (G : Nat → Nat) (S : cs_S) (x1 : Option Nat) (x3 : Int32) : Prop := ∃ b27, x1 = some b27 ∧ cs_k S b27 = 11 ∧ ∀ r29, r29 = cs_r S 1002 b27 → ∃ b30, r29 = some b30 ∧ cs_k S b30 = 20 ∧ (¬ x3 = (Int32.ofNat (cs_n S b30)) → w_X9_like_164 post G S 0) ∧ (x3 = (Int32.ofNat (cs_n S b30)) → w_X9_like_164 post G S 1)
section
variable {p : Program} {l : Launch} {e : Env} {s : State} {m : MethodId} {args : Array Value} {below : List Frame} {meth : Method} {c : Code} {P : hw_G} {G : Nat → Nat} {A : Nat → Prop}
set_option maxRecDepth 100000 in
set_option maxHeartbeats 4000000 in
theorem t_X9_like_150 {post : Int32 → cs_S → Prop} (hC : rf_C P RX9 p s m meth c cX9_like 8 (some .boolean)) (hin : meth.name = yX9_like.name) (hO : cs_O G A s s.heap) (S : cs_S) (x1 : Option Nat) (x3 : Int32) (H : Heap) (locs : List Loc) (ls : Array Slot) (h : w_X9_like_150 post G S x1 x3) (hT : cs_T P s A S H locs) (hl : lv_has ls 8 [(1, va_rf x1), (3, .int x3)]) : W p l e rm_X9_like s m args below meth c H locs 0 0 (MQ below (cs_Qi P A post) args s 0 0 A) (F0 m 150 ls []) := by
  obtain ⟨hx, hb, hml, hown, hK, -, -⟩ := id hC
  refine lv_iload_n hx hb dX9_like_150 rfl (lv_at hl 1 rfl) ?_
  refine hw_aload_n (x := x1) hx hb dX9_like_151 rfl (lv_at hl 0 rfl) ?_
  obtain ⟨b27, rfl, h⟩ := h
  obtain ⟨hk28_, h⟩ := h
  refine cs_get hx hb hK hT hown 10 hk28_ (by decide) rfl 2 (by decide) kfX9_18 (v := va_rf (cs_r S 1002 b27)) rfl dX9_like_152 ?_
  refine hw_topr (fun r29 er29 => ?_)
  replace h := h r29 er29
  obtain ⟨b30, rfl, h⟩ := h
  obtain ⟨hk31_, h⟩ := h
  refine cs_alen hx hb hK hT 20 hk31_ (by decide) (by decide) dX9_like_155 ?_
  refine lv_icmp_ne (tgt := 163) hx hb dX9_like_156 (by decide) (fun hc => ?_) (fun hc => ?_)
  · replace h := h.1 hc
    refine lv_iconst (v := 0) hx hb dX9_like_163 (by decide) ?_
    exact t_X9_like_164 hC hin hO S 0 _ _ _ h hT (lv_sub hl [] rfl)
  · replace h := h.2 hc
    refine lv_iconst (v := 1) hx hb dX9_like_159 (by decide) ?_
    refine lv_goto (tgt := 164) hx hb dX9_like_160 (by decide) ?_
    exact t_X9_like_164 hC hin hO S 1 _ _ _ h hT (lv_sub hl [] rfl)
end
def w_X9_like_124 (post : Int32 → cs_S → Prop) (G : Nat → Nat) : Nat → cs_S → Option Nat → Int32 → Prop
  | 0, _, _, _ => False
  | n + 1, S, x1, x3 => ∃ b32, x1 = some b32 ∧ cs_k S b32 = 11 ∧ ∀ r34, r34 = cs_r S 1002 b32 → ∃ b35, r34 = some b35 ∧ cs_k S b35 = 20 ∧ ((Int32.ofNat (cs_n S b35)) ≤ x3 → w_X9_like_150 post G S (some b32) x3) ∧ (¬ (Int32.ofNat (cs_n S b35)) ≤ x3 → ∀ r37, r37 = cs_r S 1002 b32 → ∃ b38, r37 = some b38 ∧ cs_k S b38 = 20 ∧ vp_in x3 (cs_n S b38) ∧ (¬ (cs_ai S b38 x3.toNatClampNeg) = 42 → w_X9_like_150 post G S (some b32) x3) ∧ ((cs_ai S b38 x3.toNatClampNeg) = 42 → w_X9_like_124 post G n S (some b32) (x3 + 1)))
section
variable {p : Program} {l : Launch} {e : Env} {s : State} {m : MethodId} {args : Array Value} {below : List Frame} {meth : Method} {c : Code} {P : hw_G} {G : Nat → Nat} {A : Nat → Prop}
set_option maxRecDepth 100000 in
set_option maxHeartbeats 4000000 in
theorem t_X9_like_124 {post : Int32 → cs_S → Prop} (hC : rf_C P RX9 p s m meth c cX9_like 8 (some .boolean)) (hin : meth.name = yX9_like.name) (hO : cs_O G A s s.heap) : ∀ (n : Nat) (S : cs_S) (x1 : Option Nat) (x3 : Int32) (H : Heap) (locs : List Loc) (ls : Array Slot), w_X9_like_124 post G n S x1 x3 → cs_T P s A S H locs → lv_has ls 8 [(1, va_rf x1), (3, .int x3)] → W p l e rm_X9_like s m args below meth c H locs 0 0 (MQ below (cs_Qi P A post) args s 0 0 A) (F0 m 124 ls []) := by
  obtain ⟨hx, hb, hml, hown, hK, -, -⟩ := id hC
  intro n
  induction n with
  | zero => intro S x1 x3 H locs ls h; exact False.elim h
  | succ n ih =>
    intro S x1 x3 H locs ls h hT hl
    refine lv_iload_n hx hb dX9_like_124 rfl (lv_at hl 1 rfl) ?_
    refine hw_aload_n (x := x1) hx hb dX9_like_125 rfl (lv_at hl 0 rfl) ?_
    obtain ⟨b32, rfl, h⟩ := h
    obtain ⟨hk33_, h⟩ := h
    refine cs_get hx hb hK hT hown 10 hk33_ (by decide) rfl 2 (by decide) kfX9_18 (v := va_rf (cs_r S 1002 b32)) rfl dX9_like_126 ?_
    refine hw_topr (fun r34 er34 => ?_)
    replace h := h r34 er34
    obtain ⟨b35, rfl, h⟩ := h
    obtain ⟨hk36_, h⟩ := h
    refine cs_alen hx hb hK hT 20 hk36_ (by decide) (by decide) dX9_like_129 ?_
    refine lv_icmp_ge (tgt := 150) hx hb dX9_like_130 (by decide) (fun hc => ?_) (fun hc => ?_)
    · replace h := h.1 hc
      exact t_X9_like_150 hC hin hO S (some b32) x3 _ _ _ h hT (lv_sub hl [0, 1] rfl)
    · replace h := h.2 hc
      refine lv_aload_n (x := b32) hx hb dX9_like_133 rfl (lv_at hl 0 rfl) ?_
      refine cs_get hx hb hK hT hown 10 hk33_ (by decide) rfl 2 (by decide) kfX9_18 (v := va_rf (cs_r S 1002 b32)) rfl dX9_like_134 ?_
      refine hw_topr (fun r37 er37 => ?_)
      replace h := h r37 er37
      refine lv_iload_n hx hb dX9_like_137 rfl (lv_at hl 1 rfl) ?_
      obtain ⟨b38, rfl, h⟩ := h
      obtain ⟨hk39_, h⟩ := h
      obtain ⟨hi, h⟩ := h
      refine cs_iald hx hb hK hT hk39_ hi dX9_like_138 ?_
      refine lv_bipush (v := 42) hx hb dX9_like_139 (by decide) ?_
      refine lv_icmp_ne (tgt := 150) hx hb dX9_like_141 (by decide) (fun hc => ?_) (fun hc => ?_)
      · replace h := h.1 hc
        exact t_X9_like_150 hC hin hO S (some b32) x3 _ _ _ h hT (lv_sub hl [0, 1] rfl)
      · replace h := h.2 hc
        refine lv_iinc (v := x3 + 1) (lv' := [(3, _), (1, _)]) hx hb dX9_like_144 hl (k := 1) rfl rfl (by decide) rfl (fun ls hl_ => ?_)
        replace hl := hl_
        refine lv_goto (tgt := 124) hx hb dX9_like_147 (by decide) ?_
        exact ih S (some b32) (x3 + 1) _ _ _ h hT (lv_sub hl [1, 0] rfl)
end
def w_X9_like_118 (post : Int32 → cs_S → Prop) (G : Nat → Nat) (k13 : cs_S → Nat → Option Nat → Int32 → Int32 → Int32 → Int32 → Int32 → Prop) (S : cs_S) (x0 : Nat) (x1 : Option Nat) (x2 : Int32) (x3 : Int32) (x4 : Int32) (x5 : Int32) (x6 : Int32) : Prop := k13 S x0 x1 x2 x3 x4 x5 (x6 + 1)
section
variable {p : Program} {l : Launch} {e : Env} {s : State} {m : MethodId} {args : Array Value} {below : List Frame} {meth : Method} {c : Code} {P : hw_G} {G : Nat → Nat} {A : Nat → Prop}
set_option maxRecDepth 100000 in
set_option maxHeartbeats 4000000 in
theorem t_X9_like_118 {post : Int32 → cs_S → Prop} {k13 : cs_S → Nat → Option Nat → Int32 → Int32 → Int32 → Int32 → Int32 → Prop} (hC : rf_C P RX9 p s m meth c cX9_like 8 (some .boolean)) (hin : meth.name = yX9_like.name) (hO : cs_O G A s s.heap) (hk13 : ∀ (S : cs_S) (x0 : Nat) (x1 : Option Nat) (x2 : Int32) (x3 : Int32) (x4 : Int32) (x5 : Int32) (x6 : Int32) (H : Heap) (locs : List Loc) (ls : Array Slot), k13 S x0 x1 x2 x3 x4 x5 x6 → cs_T P s A S H locs → lv_has ls 8 [(0, .ref x0), (1, va_rf x1), (2, .int x2), (3, .int x3), (4, .int x4), (5, .int x5), (6, .int x6)] → W p l e rm_X9_like s m args below meth c H locs 0 0 (MQ below (cs_Qi P A post) args s 0 0 A) (F0 m 13 ls [])) (S : cs_S) (x0 : Nat) (x1 : Option Nat) (x2 : Int32) (x3 : Int32) (x4 : Int32) (x5 : Int32) (x6 : Int32) (H : Heap) (locs : List Loc) (ls : Array Slot) (h : w_X9_like_118 post G k13 S x0 x1 x2 x3 x4 x5 x6) (hT : cs_T P s A S H locs) (hl : lv_has ls 8 [(0, .ref x0), (1, va_rf x1), (2, .int x2), (3, .int x3), (4, .int x4), (5, .int x5), (6, .int x6)]) : W p l e rm_X9_like s m args below meth c H locs 0 0 (MQ below (cs_Qi P A post) args s 0 0 A) (F0 m 118 ls []) := by
  obtain ⟨hx, hb, hml, hown, hK, -, -⟩ := id hC
  refine lv_iinc (v := x6 + 1) (lv' := [(6, _), (0, _), (1, _), (2, _), (3, _), (4, _), (5, _)]) hx hb dX9_like_118 hl (k := 6) rfl rfl (by decide) rfl (fun ls hl_ => ?_)
  replace hl := hl_
  refine lv_goto (tgt := 13) hx hb dX9_like_121 (by decide) ?_
  exact hk13 S x0 x1 x2 x3 x4 x5 (x6 + 1) _ _ _ h hT (lv_sub hl [1, 2, 3, 4, 5, 6, 0] rfl)
end
def w_X9_like_87 (post : Int32 → cs_S → Prop) (G : Nat → Nat) (k13 : cs_S → Nat → Option Nat → Int32 → Int32 → Int32 → Int32 → Int32 → Prop) (S : cs_S) (x0 : Nat) (x1 : Option Nat) (x2 : Int32) (x3 : Int32) (x4 : Int32) (x5 : Int32) (x6 : Int32) : Prop := w_X9_like_118 post G k13 S x0 x1 (x2 + 1) (x3 + 1) x4 x5 x6
section
variable {p : Program} {l : Launch} {e : Env} {s : State} {m : MethodId} {args : Array Value} {below : List Frame} {meth : Method} {c : Code} {P : hw_G} {G : Nat → Nat} {A : Nat → Prop}
set_option maxRecDepth 100000 in
set_option maxHeartbeats 4000000 in
theorem t_X9_like_87 {post : Int32 → cs_S → Prop} {k13 : cs_S → Nat → Option Nat → Int32 → Int32 → Int32 → Int32 → Int32 → Prop} (hC : rf_C P RX9 p s m meth c cX9_like 8 (some .boolean)) (hin : meth.name = yX9_like.name) (hO : cs_O G A s s.heap) (hk13 : ∀ (S : cs_S) (x0 : Nat) (x1 : Option Nat) (x2 : Int32) (x3 : Int32) (x4 : Int32) (x5 : Int32) (x6 : Int32) (H : Heap) (locs : List Loc) (ls : Array Slot), k13 S x0 x1 x2 x3 x4 x5 x6 → cs_T P s A S H locs → lv_has ls 8 [(0, .ref x0), (1, va_rf x1), (2, .int x2), (3, .int x3), (4, .int x4), (5, .int x5), (6, .int x6)] → W p l e rm_X9_like s m args below meth c H locs 0 0 (MQ below (cs_Qi P A post) args s 0 0 A) (F0 m 13 ls [])) (S : cs_S) (x0 : Nat) (x1 : Option Nat) (x2 : Int32) (x3 : Int32) (x4 : Int32) (x5 : Int32) (x6 : Int32) (H : Heap) (locs : List Loc) (ls : Array Slot) (h : w_X9_like_87 post G k13 S x0 x1 x2 x3 x4 x5 x6) (hT : cs_T P s A S H locs) (hl : lv_has ls 8 [(0, .ref x0), (1, va_rf x1), (2, .int x2), (3, .int x3), (4, .int x4), (5, .int x5), (6, .int x6)]) : W p l e rm_X9_like s m args below meth c H locs 0 0 (MQ below (cs_Qi P A post) args s 0 0 A) (F0 m 87 ls []) := by
  obtain ⟨hx, hb, hml, hown, hK, -, -⟩ := id hC
  refine lv_iinc (v := x3 + 1) (lv' := [(3, _), (0, _), (1, _), (2, _), (4, _), (5, _), (6, _)]) hx hb dX9_like_87 hl (k := 3) rfl rfl (by decide) rfl (fun ls hl_ => ?_)
  replace hl := hl_
  refine lv_iinc (v := x2 + 1) (lv' := [(2, _), (3, _), (0, _), (1, _), (4, _), (5, _), (6, _)]) hx hb dX9_like_90 hl (k := 3) rfl rfl (by decide) (congrArg (List.cons _) ((hw_flt (fun q hq => by simp only [List.mem_cons, List.not_mem_nil, or_false] at hq; rcases hq with rfl | rfl | rfl | rfl | rfl | rfl | rfl <;> first | exact fun _ => rfl | exact fun _ => va_rf_cat _ | (intro h; simp at h))).trans rfl)) (fun ls hl_ => ?_)
  replace hl := hl_
  refine lv_goto (tgt := 118) hx hb dX9_like_93 (by decide) ?_
  exact t_X9_like_118 hC hin hO hk13 S x0 x1 (x2 + 1) (x3 + 1) x4 x5 x6 _ _ _ h hT (lv_sub hl [2, 3, 0, 1, 4, 5, 6] rfl)
end
def w_X9_like_48 (post : Int32 → cs_S → Prop) (G : Nat → Nat) (k13 : cs_S → Nat → Option Nat → Int32 → Int32 → Int32 → Int32 → Int32 → Prop) (S : cs_S) (x0 : Nat) (x1 : Option Nat) (x2 : Int32) (x3 : Int32) (x4 : Int32) (x5 : Int32) (x6 : Int32) (y0 : Int32) : Prop := (¬ y0 = 42 → (y0 = 63 → w_X9_like_87 post G k13 S x0 x1 x2 x3 x4 x5 x6) ∧ (¬ y0 = 63 → cs_k S x0 = 11 ∧ ∀ r41, r41 = cs_r S 1002 x0 → ∃ b42, r41 = some b42 ∧ cs_k S b42 = 20 ∧ vp_in x2 (cs_n S b42) ∧ (¬ y0 = (cs_ai S b42 x2.toNatClampNeg) → (x4 = ((-1)) → post 0 S) ∧ (¬ x4 = ((-1)) → w_X9_like_118 post G k13 S x0 x1 (x5 + 1) (x4 + 1) x4 (x5 + 1) x6)) ∧ (y0 = (cs_ai S b42 x2.toNatClampNeg) → w_X9_like_87 post G k13 S x0 x1 x2 x3 x4 x5 x6))) ∧ (y0 = 42 → w_X9_like_118 post G k13 S x0 x1 x2 (x3 + 1) x3 x2 x6)
section
variable {p : Program} {l : Launch} {e : Env} {s : State} {m : MethodId} {args : Array Value} {below : List Frame} {meth : Method} {c : Code} {P : hw_G} {G : Nat → Nat} {A : Nat → Prop}
set_option maxRecDepth 100000 in
set_option maxHeartbeats 4000000 in
theorem t_X9_like_48 {post : Int32 → cs_S → Prop} {k13 : cs_S → Nat → Option Nat → Int32 → Int32 → Int32 → Int32 → Int32 → Prop} (hC : rf_C P RX9 p s m meth c cX9_like 8 (some .boolean)) (hin : meth.name = yX9_like.name) (hO : cs_O G A s s.heap) (hk13 : ∀ (S : cs_S) (x0 : Nat) (x1 : Option Nat) (x2 : Int32) (x3 : Int32) (x4 : Int32) (x5 : Int32) (x6 : Int32) (H : Heap) (locs : List Loc) (ls : Array Slot), k13 S x0 x1 x2 x3 x4 x5 x6 → cs_T P s A S H locs → lv_has ls 8 [(0, .ref x0), (1, va_rf x1), (2, .int x2), (3, .int x3), (4, .int x4), (5, .int x5), (6, .int x6)] → W p l e rm_X9_like s m args below meth c H locs 0 0 (MQ below (cs_Qi P A post) args s 0 0 A) (F0 m 13 ls [])) (S : cs_S) (x0 : Nat) (x1 : Option Nat) (x2 : Int32) (x3 : Int32) (x4 : Int32) (x5 : Int32) (x6 : Int32) (y0 : Int32) (H : Heap) (locs : List Loc) (ls : Array Slot) (h : w_X9_like_48 post G k13 S x0 x1 x2 x3 x4 x5 x6 y0) (hT : cs_T P s A S H locs) (hl : lv_has ls 8 [(0, .ref x0), (1, va_rf x1), (2, .int x2), (3, .int x3), (4, .int x4), (5, .int x5), (6, .int x6)]) : W p l e rm_X9_like s m args below meth c H locs 0 0 (MQ below (cs_Qi P A post) args s 0 0 A) (F0 m 48 ls [.int y0]) := by
  obtain ⟨hx, hb, hml, hown, hK, -, -⟩ := id hC
  refine lv_istore (lv' := [(7, _), (0, _), (1, _), (2, _), (3, _), (4, _), (5, _), (6, _)]) hx hb dX9_like_48 hl (by decide) rfl (fun ls hl_ => ?_)
  replace hl := hl_
  refine lv_iload hx hb dX9_like_50 (lv_at hl 0 rfl) ?_
  refine lv_bipush (v := 42) hx hb dX9_like_52 (by decide) ?_
  refine lv_icmp_ne (tgt := 69) hx hb dX9_like_54 (by decide) (fun hc => ?_) (fun hc => ?_)
  · replace h := h.1 hc
    refine lv_iload hx hb dX9_like_69 (lv_at hl 0 rfl) ?_
    refine lv_bipush (v := 63) hx hb dX9_like_71 (by decide) ?_
    refine lv_icmp_eq (tgt := 87) hx hb dX9_like_73 (by decide) (fun hc => ?_) (fun hc => ?_)
    · replace h := h.1 hc
      exact t_X9_like_87 hC hin hO hk13 S x0 x1 x2 x3 x4 x5 x6 _ _ _ h hT (lv_sub hl [1, 2, 3, 4, 5, 6, 7] rfl)
    · replace h := h.2 hc
      refine lv_iload hx hb dX9_like_76 (lv_at hl 0 rfl) ?_
      refine lv_aload_n (x := x0) hx hb dX9_like_78 rfl (lv_at hl 1 rfl) ?_
      obtain ⟨hk40_, h⟩ := h
      refine cs_get hx hb hK hT hown 10 hk40_ (by decide) rfl 2 (by decide) kfX9_18 (v := va_rf (cs_r S 1002 x0)) rfl dX9_like_79 ?_
      refine hw_topr (fun r41 er41 => ?_)
      replace h := h r41 er41
      refine lv_iload_n hx hb dX9_like_82 rfl (lv_at hl 3 rfl) ?_
      obtain ⟨b42, rfl, h⟩ := h
      obtain ⟨hk43_, h⟩ := h
      obtain ⟨hi, h⟩ := h
      refine cs_iald hx hb hK hT hk43_ hi dX9_like_83 ?_
      refine lv_icmp_ne (tgt := 96) hx hb dX9_like_84 (by decide) (fun hc => ?_) (fun hc => ?_)
      · replace h := h.1 hc
        refine lv_iload hx hb dX9_like_96 (lv_at hl 5 rfl) ?_
        refine lv_iconst (v := (-1)) hx hb dX9_like_98 (by decide) ?_
        refine lv_icmp_eq (tgt := 116) hx hb dX9_like_99 (by decide) (fun hc => ?_) (fun hc => ?_)
        · replace h := h.1 hc
          refine lv_iconst (v := 0) hx hb dX9_like_116 (by decide) ?_
          exact cs_zret hC hT rfl h dX9_like_117 (Nat.le_refl _) (Nat.le_refl _)
        · replace h := h.2 hc
          refine lv_iinc (v := x5 + 1) (lv' := [(5, _), (7, _), (0, _), (1, _), (2, _), (3, _), (4, _), (6, _)]) hx hb dX9_like_102 hl (k := 6) rfl rfl (by decide) rfl (fun ls hl_ => ?_)
          replace hl := hl_
          refine lv_iload hx hb dX9_like_105 (lv_at hl 0 rfl) ?_
          refine lv_istore_n (lv' := [(2, _), (5, _), (7, _), (0, _), (1, _), (3, _), (4, _), (6, _)]) hx hb dX9_like_107 rfl hl (by decide) (congrArg (List.cons _) ((hw_flt (fun q hq => by simp only [List.mem_cons, List.not_mem_nil, or_false] at hq; rcases hq with rfl | rfl | rfl | rfl | rfl | rfl | rfl | rfl <;> first | exact fun _ => rfl | exact fun _ => va_rf_cat _ | (intro h; simp at h))).trans rfl)) (fun ls hl_ => ?_)
          replace hl := hl_
          refine lv_iload hx hb dX9_like_108 (lv_at hl 6 rfl) ?_
          refine lv_iconst (v := 1) hx hb dX9_like_110 (by decide) ?_
          refine lv_iadd hx hb dX9_like_111 ?_
          refine lv_istore_n (lv' := [(3, _), (2, _), (5, _), (7, _), (0, _), (1, _), (4, _), (6, _)]) hx hb dX9_like_112 rfl hl (by decide) rfl (fun ls hl_ => ?_)
          replace hl := hl_
          refine lv_goto (tgt := 118) hx hb dX9_like_113 (by decide) ?_
          exact t_X9_like_118 hC hin hO hk13 S x0 x1 (x5 + 1) (x4 + 1) x4 (x5 + 1) x6 _ _ _ h hT (lv_sub hl [4, 5, 1, 0, 6, 2, 7] rfl)
      · replace h := h.2 hc
        exact t_X9_like_87 hC hin hO hk13 S x0 x1 x2 x3 x4 x5 x6 _ _ _ h hT (lv_sub hl [1, 2, 3, 4, 5, 6, 7] rfl)
  · replace h := h.2 hc
    refine lv_iload_n hx hb dX9_like_57 rfl (lv_at hl 4 rfl) ?_
    refine lv_istore (lv' := [(4, _), (7, _), (0, _), (1, _), (2, _), (3, _), (5, _), (6, _)]) hx hb dX9_like_58 hl (by decide) rfl (fun ls hl_ => ?_)
    replace hl := hl_
    refine lv_iload_n hx hb dX9_like_60 rfl (lv_at hl 4 rfl) ?_
    refine lv_istore (lv' := [(5, _), (4, _), (7, _), (0, _), (1, _), (2, _), (3, _), (6, _)]) hx hb dX9_like_61 hl (by decide) rfl (fun ls hl_ => ?_)
    replace hl := hl_
    refine lv_iinc (v := x3 + 1) (lv' := [(3, _), (5, _), (4, _), (7, _), (0, _), (1, _), (2, _), (6, _)]) hx hb dX9_like_63 hl (k := 6) rfl rfl (by decide) rfl (fun ls hl_ => ?_)
    replace hl := hl_
    refine lv_goto (tgt := 118) hx hb dX9_like_66 (by decide) ?_
    exact t_X9_like_118 hC hin hO hk13 S x0 x1 x2 (x3 + 1) x3 x2 x6 _ _ _ h hT (lv_sub hl [4, 5, 6, 0, 2, 1, 7] rfl)
end
def w_X9_like_13 (post : Int32 → cs_S → Prop) (G : Nat → Nat) : Nat → cs_S → Nat → Option Nat → Int32 → Int32 → Int32 → Int32 → Int32 → Prop
  | 0, _, _, _, _, _, _, _, _ => False
  | n + 1, S, x0, x1, x2, x3, x4, x5, x6 => (1000000 ≤ x6 → ∃ n9, w_X9_like_124 post G n9 S x1 x3) ∧ (¬ 1000000 ≤ x6 → cs_k S x0 = 11 ∧ ∀ r45, r45 = cs_r S 1002 x0 → ∃ b46, r45 = some b46 ∧ cs_k S b46 = 20 ∧ ((Int32.ofNat (cs_n S b46)) ≤ x2 → ∃ n9, w_X9_like_124 post G n9 S x1 x3) ∧ (¬ (Int32.ofNat (cs_n S b46)) ≤ x2 → ∃ b48, x1 = some b48 ∧ cs_k S b48 = 11 ∧ ∀ r50, r50 = cs_r S 1002 b48 → ∃ b51, r50 = some b51 ∧ cs_k S b51 = 20 ∧ ((Int32.ofNat (cs_n S b51)) ≤ x3 → w_X9_like_48 post G (w_X9_like_13 post G n) S x0 (some b48) x2 x3 x4 x5 x6 ((-1))) ∧ (¬ (Int32.ofNat (cs_n S b51)) ≤ x3 → ∀ r53, r53 = cs_r S 1002 b48 → ∃ b54, r53 = some b54 ∧ cs_k S b54 = 20 ∧ vp_in x3 (cs_n S b54) ∧ w_X9_like_48 post G (w_X9_like_13 post G n) S x0 (some b48) x2 x3 x4 x5 x6 (cs_ai S b54 x3.toNatClampNeg))))
section
variable {p : Program} {l : Launch} {e : Env} {s : State} {m : MethodId} {args : Array Value} {below : List Frame} {meth : Method} {c : Code} {P : hw_G} {G : Nat → Nat} {A : Nat → Prop}
set_option maxRecDepth 100000 in
set_option maxHeartbeats 4000000 in
theorem t_X9_like_13 {post : Int32 → cs_S → Prop} (hC : rf_C P RX9 p s m meth c cX9_like 8 (some .boolean)) (hin : meth.name = yX9_like.name) (hO : cs_O G A s s.heap) : ∀ (n : Nat) (S : cs_S) (x0 : Nat) (x1 : Option Nat) (x2 : Int32) (x3 : Int32) (x4 : Int32) (x5 : Int32) (x6 : Int32) (H : Heap) (locs : List Loc) (ls : Array Slot), w_X9_like_13 post G n S x0 x1 x2 x3 x4 x5 x6 → cs_T P s A S H locs → lv_has ls 8 [(0, .ref x0), (1, va_rf x1), (2, .int x2), (3, .int x3), (4, .int x4), (5, .int x5), (6, .int x6)] → W p l e rm_X9_like s m args below meth c H locs 0 0 (MQ below (cs_Qi P A post) args s 0 0 A) (F0 m 13 ls []) := by
  obtain ⟨hx, hb, hml, hown, hK, -, -⟩ := id hC
  intro n
  induction n with
  | zero => intro S x0 x1 x2 x3 x4 x5 x6 H locs ls h; exact False.elim h
  | succ n ih =>
    intro S x0 x1 x2 x3 x4 x5 x6 H locs ls h hT hl
    refine lv_iload hx hb dX9_like_13 (lv_at hl 6 rfl) ?_
    refine lv_ldc (v := 1000000) hx hb hown (hK.word kkX9_25 rfl) dX9_like_15 ?_
    refine lv_icmp_ge (tgt := 124) hx hb dX9_like_17 (by decide) (fun hc => ?_) (fun hc => ?_)
    · replace h := h.1 hc
      obtain ⟨n9, h⟩ := h
      exact t_X9_like_124 hC hin hO n9 S x1 x3 _ _ _ h hT (lv_sub hl [1, 3] rfl)
    · replace h := h.2 hc
      refine lv_iload_n hx hb dX9_like_20 rfl (lv_at hl 2 rfl) ?_
      refine lv_aload_n (x := x0) hx hb dX9_like_21 rfl (lv_at hl 0 rfl) ?_
      obtain ⟨hk44_, h⟩ := h
      refine cs_get hx hb hK hT hown 10 hk44_ (by decide) rfl 2 (by decide) kfX9_18 (v := va_rf (cs_r S 1002 x0)) rfl dX9_like_22 ?_
      refine hw_topr (fun r45 er45 => ?_)
      replace h := h r45 er45
      obtain ⟨b46, rfl, h⟩ := h
      obtain ⟨hk47_, h⟩ := h
      refine cs_alen hx hb hK hT 20 hk47_ (by decide) (by decide) dX9_like_25 ?_
      refine lv_icmp_ge (tgt := 124) hx hb dX9_like_26 (by decide) (fun hc => ?_) (fun hc => ?_)
      · replace h := h.1 hc
        obtain ⟨n9, h⟩ := h
        exact t_X9_like_124 hC hin hO n9 S x1 x3 _ _ _ h hT (lv_sub hl [1, 3] rfl)
      · replace h := h.2 hc
        refine lv_iload_n hx hb dX9_like_29 rfl (lv_at hl 3 rfl) ?_
        refine hw_aload_n (x := x1) hx hb dX9_like_30 rfl (lv_at hl 1 rfl) ?_
        obtain ⟨b48, rfl, h⟩ := h
        obtain ⟨hk49_, h⟩ := h
        refine cs_get hx hb hK hT hown 10 hk49_ (by decide) rfl 2 (by decide) kfX9_18 (v := va_rf (cs_r S 1002 b48)) rfl dX9_like_31 ?_
        refine hw_topr (fun r50 er50 => ?_)
        replace h := h r50 er50
        obtain ⟨b51, rfl, h⟩ := h
        obtain ⟨hk52_, h⟩ := h
        refine cs_alen hx hb hK hT 20 hk52_ (by decide) (by decide) dX9_like_34 ?_
        refine lv_icmp_ge (tgt := 47) hx hb dX9_like_35 (by decide) (fun hc => ?_) (fun hc => ?_)
        · replace h := h.1 hc
          refine lv_iconst (v := (-1)) hx hb dX9_like_47 (by decide) ?_
          exact t_X9_like_48 hC hin hO ih S x0 (some b48) x2 x3 x4 x5 x6 ((-1)) _ _ _ h hT (lv_sub hl [0, 1, 2, 3, 4, 5, 6] rfl)
        · replace h := h.2 hc
          refine lv_aload_n (x := b48) hx hb dX9_like_38 rfl (lv_at hl 1 rfl) ?_
          refine cs_get hx hb hK hT hown 10 hk49_ (by decide) rfl 2 (by decide) kfX9_18 (v := va_rf (cs_r S 1002 b48)) rfl dX9_like_39 ?_
          refine hw_topr (fun r53 er53 => ?_)
          replace h := h r53 er53
          refine lv_iload_n hx hb dX9_like_42 rfl (lv_at hl 3 rfl) ?_
          obtain ⟨b54, rfl, h⟩ := h
          obtain ⟨hk55_, h⟩ := h
          obtain ⟨hi, h⟩ := h
          refine cs_iald hx hb hK hT hk55_ hi dX9_like_43 ?_
          refine lv_goto (tgt := 48) hx hb dX9_like_44 (by decide) ?_
          exact t_X9_like_48 hC hin hO ih S x0 (some b48) x2 x3 x4 x5 x6 (cs_ai S b54 x3.toNatClampNeg) _ _ _ h hT (lv_sub hl [0, 1, 2, 3, 4, 5, 6] rfl)
end
def wp_X9_like (post : Int32 → cs_S → Prop) (G : Nat → Nat) (S : cs_S) (o : Nat) (p1 : Option Nat) : Prop := ∃ n9, w_X9_like_13 post G n9 S o p1 0 0 ((-1)) 0 0
set_option maxRecDepth 100000 in
set_option maxHeartbeats 4000000 in
theorem c_X9_like {l : Launch} {P : hw_G} {G : Nat → Nat} {S : cs_S} {sz : Nat} {o : Nat} {p1 : Option Nat} {post : Int32 → cs_S → Prop} (h : wp_X9_like post G S o p1) : Met l yX9_like [Cond.code yX9_like cX9_like 8 (some .boolean)] rm_X9_like (cs_Pc P G S sz [.ref o, va_rf p1]) (cs_Qi P (cs_A S sz) post) 0 0 (cs_A S sz) := by
  refine cs_met (by decide) rfl (by cases p1 <;> exact Nat.le_of_ble_eq_true rfl) ?_
  intro p e s m below meth c ls hC hin hO hT hl
  obtain ⟨hx, hb, hml, hown, hK, -, -⟩ := id hC
  replace hl : lv_has ls 8 [(0, .ref o), (1, va_rf p1)] := by cases p1 <;> exact hl
  refine lv_iconst (v := 0) hx hb dX9_like_0 (by decide) ?_
  refine lv_istore_n (lv' := [(2, _), (0, _), (1, _)]) hx hb dX9_like_1 rfl hl (by decide) (congrArg (List.cons _) ((hw_flt (fun q hq => by simp only [List.mem_cons, List.not_mem_nil, or_false] at hq; rcases hq with rfl | rfl <;> first | exact fun _ => rfl | exact fun _ => va_rf_cat _ | (intro h; simp at h))).trans rfl)) (fun ls hl_ => ?_)
  replace hl := hl_
  refine lv_iconst (v := 0) hx hb dX9_like_2 (by decide) ?_
  refine lv_istore_n (lv' := [(3, _), (2, _), (0, _), (1, _)]) hx hb dX9_like_3 rfl hl (by decide) rfl (fun ls hl_ => ?_)
  replace hl := hl_
  refine lv_iconst (v := (-1)) hx hb dX9_like_4 (by decide) ?_
  refine lv_istore (lv' := [(4, _), (3, _), (2, _), (0, _), (1, _)]) hx hb dX9_like_5 hl (by decide) rfl (fun ls hl_ => ?_)
  replace hl := hl_
  refine lv_iconst (v := 0) hx hb dX9_like_7 (by decide) ?_
  refine lv_istore (lv' := [(5, _), (4, _), (3, _), (2, _), (0, _), (1, _)]) hx hb dX9_like_8 hl (by decide) rfl (fun ls hl_ => ?_)
  replace hl := hl_
  refine lv_iconst (v := 0) hx hb dX9_like_10 (by decide) ?_
  refine lv_istore (lv' := [(6, _), (5, _), (4, _), (3, _), (2, _), (0, _), (1, _)]) hx hb dX9_like_11 hl (by decide) rfl (fun ls hl_ => ?_)
  replace hl := hl_
  obtain ⟨n9, h⟩ := h
  exact t_X9_like_13 hC hin hO n9 S o p1 0 0 ((-1)) 0 0 _ _ _ h hT (lv_sub hl [5, 6, 4, 3, 2, 1, 0] rfl)
/-! X1_maskOf -/
abbrev rm_X1_maskOf : Room := { frames := 0, cells := 0, slots := 0, locals := 0 }
def w_X1_maskOf_14 (post : Int32 → cs_S → Prop) (G : Nat → Nat) (S : cs_S) (y0 : Int32) : Prop := post y0 S
section
variable {p : Program} {l : Launch} {e : Env} {s : State} {m : MethodId} {args : Array Value} {below : List Frame} {meth : Method} {c : Code} {P : hw_G} {G : Nat → Nat} {A : Nat → Prop}
set_option maxRecDepth 100000 in
set_option maxHeartbeats 4000000 in
theorem t_X1_maskOf_14 {post : Int32 → cs_S → Prop} (hC : rf_C P RX1 p s m meth c cX1_maskOf 1 (some .int)) (hin : meth.name = yX1_maskOf.name) (hO : cs_O G A s s.heap) (S : cs_S) (y0 : Int32) (H : Heap) (locs : List Loc) (ls : Array Slot) (h : w_X1_maskOf_14 post G S y0) (hT : cs_T P s A S H locs) (hl : lv_has ls 1 []) : W p l e rm_X1_maskOf s m args below meth c H locs 0 0 (MQ below (cs_Qi P A post) args s 0 0 A) (F0 m 14 ls [.int y0]) := by
  obtain ⟨hx, hb, hml, hown, hK, -, -⟩ := id hC
  exact cs_iret hC hT h dX1_maskOf_14 (Nat.le_refl _) (Nat.le_refl _)
end
def wp_X1_maskOf (post : Int32 → cs_S → Prop) (G : Nat → Nat) (S : cs_S) (p0 : Int32) : Prop := (0 < p0 → w_X1_maskOf_14 post G S ((-1 : Int32) <<< ((32 - p0) &&& 31))) ∧ (¬ 0 < p0 → w_X1_maskOf_14 post G S 0)
set_option maxRecDepth 100000 in
set_option maxHeartbeats 4000000 in
theorem c_X1_maskOf {l : Launch} {P : hw_G} {G : Nat → Nat} {S : cs_S} {sz : Nat} {p0 : Int32} {post : Int32 → cs_S → Prop} (h : wp_X1_maskOf post G S p0) : Met l yX1_maskOf [Cond.code yX1_maskOf cX1_maskOf 1 (some .int)] rm_X1_maskOf (cs_Pc P G S sz [.int p0]) (cs_Qi P (cs_A S sz) post) 0 0 (cs_A S sz) := by
  refine cs_met (by decide) rfl (Nat.le_of_ble_eq_true rfl) ?_
  intro p e s m below meth c ls hC hin hO hT hl
  obtain ⟨hx, hb, hml, hown, hK, -, -⟩ := id hC
  replace hl : lv_has ls 1 [(0, .int p0)] := hl
  refine lv_iload_n hx hb dX1_maskOf_0 rfl (lv_at hl 0 rfl) ?_
  refine lv_if_gt (tgt := 8) hx hb dX1_maskOf_1 (by decide) (fun hc => ?_) (fun hc => ?_)
  · replace h := h.1 hc
    refine lv_iconst (v := (-1)) hx hb dX1_maskOf_8 (by decide) ?_
    refine lv_bipush (v := 32) hx hb dX1_maskOf_9 (by decide) ?_
    refine lv_iload_n hx hb dX1_maskOf_11 rfl (lv_at hl 0 rfl) ?_
    refine lv_isub hx hb dX1_maskOf_12 ?_
    refine lv_ishl hx hb dX1_maskOf_13 ?_
    exact t_X1_maskOf_14 hC hin hO S ((-1 : Int32) <<< ((32 - p0) &&& 31)) _ _ _ h hT (lv_sub hl [] rfl)
  · replace h := h.2 hc
    refine lv_iconst (v := 0) hx hb dX1_maskOf_4 (by decide) ?_
    refine lv_goto (tgt := 14) hx hb dX1_maskOf_5 (by decide) ?_
    exact t_X1_maskOf_14 hC hin hO S 0 _ _ _ h hT (lv_sub hl [] rfl)
/-! X9_same -/
abbrev rm_X9_same : Room := { frames := 0, cells := 0, slots := 0, locals := 0 }
def w_X9_same_33 (post : Int32 → cs_S → Prop) (G : Nat → Nat) (S : cs_S)  : Prop := post 0 S
section
variable {p : Program} {l : Launch} {e : Env} {s : State} {m : MethodId} {args : Array Value} {below : List Frame} {meth : Method} {c : Code} {P : hw_G} {G : Nat → Nat} {A : Nat → Prop}
set_option maxRecDepth 100000 in
set_option maxHeartbeats 4000000 in
theorem t_X9_same_33 {post : Int32 → cs_S → Prop} (hC : rf_C P RX9 p s m meth c cX9_same 3 (some .boolean)) (hin : meth.name = yX9_same.name) (hO : cs_O G A s s.heap) (S : cs_S)  (H : Heap) (locs : List Loc) (ls : Array Slot) (h : w_X9_same_33 post G S ) (hT : cs_T P s A S H locs) (hl : lv_has ls 3 []) : W p l e rm_X9_same s m args below meth c H locs 0 0 (MQ below (cs_Qi P A post) args s 0 0 A) (F0 m 33 ls []) := by
  obtain ⟨hx, hb, hml, hown, hK, -, -⟩ := id hC
  refine lv_iconst (v := 0) hx hb dX9_same_33 (by decide) ?_
  exact cs_zret hC hT rfl h dX9_same_34 (Nat.le_refl _) (Nat.le_refl _)
end
def w_X9_same_78 (post : Int32 → cs_S → Prop) (G : Nat → Nat) (S : cs_S)  : Prop := post 1 S
section
variable {p : Program} {l : Launch} {e : Env} {s : State} {m : MethodId} {args : Array Value} {below : List Frame} {meth : Method} {c : Code} {P : hw_G} {G : Nat → Nat} {A : Nat → Prop}
set_option maxRecDepth 100000 in
set_option maxHeartbeats 4000000 in
theorem t_X9_same_78 {post : Int32 → cs_S → Prop} (hC : rf_C P RX9 p s m meth c cX9_same 3 (some .boolean)) (hin : meth.name = yX9_same.name) (hO : cs_O G A s s.heap) (S : cs_S)  (H : Heap) (locs : List Loc) (ls : Array Slot) (h : w_X9_same_78 post G S ) (hT : cs_T P s A S H locs) (hl : lv_has ls 3 []) : W p l e rm_X9_same s m args below meth c H locs 0 0 (MQ below (cs_Qi P A post) args s 0 0 A) (F0 m 78 ls []) := by
  obtain ⟨hx, hb, hml, hown, hK, -, -⟩ := id hC
  refine lv_iconst (v := 1) hx hb dX9_same_78 (by decide) ?_
  exact cs_zret hC hT rfl h dX9_same_79 (Nat.le_refl _) (Nat.le_refl _)
end
def w_X9_same_37 (post : Int32 → cs_S → Prop) (G : Nat → Nat) : Nat → cs_S → Nat → Option Nat → Int32 → Prop
  | 0, _, _, _, _ => False
  | n + 1, S, x0, x1, x2 => cs_k S x0 = 11 ∧ ∀ r17, r17 = cs_r S 1002 x0 → ∃ b18, r17 = some b18 ∧ cs_k S b18 = 20 ∧ ((Int32.ofNat (cs_n S b18)) ≤ x2 → w_X9_same_78 post G S) ∧ (¬ (Int32.ofNat (cs_n S b18)) ≤ x2 → ∃ b20, x1 = some b20 ∧ cs_k S b20 = 11 ∧ ∀ r22, r22 = cs_r S 1002 b20 → ∃ b23, r22 = some b23 ∧ cs_k S b23 = 20 ∧ ((Int32.ofNat (cs_n S b23)) ≤ x2 → w_X9_same_78 post G S) ∧ (¬ (Int32.ofNat (cs_n S b23)) ≤ x2 → ∀ r25, r25 = cs_r S 1002 x0 → ∃ b26, r25 = some b26 ∧ cs_k S b26 = 20 ∧ vp_in x2 (cs_n S b26) ∧ ∀ r28, r28 = cs_r S 1002 b20 → ∃ b29, r28 = some b29 ∧ cs_k S b29 = 20 ∧ vp_in x2 (cs_n S b29) ∧ ((cs_ai S b26 x2.toNatClampNeg) = (cs_ai S b29 x2.toNatClampNeg) → w_X9_same_37 post G n S x0 (some b20) (x2 + 1)) ∧ (¬ (cs_ai S b26 x2.toNatClampNeg) = (cs_ai S b29 x2.toNatClampNeg) → post 0 S)))
section
variable {p : Program} {l : Launch} {e : Env} {s : State} {m : MethodId} {args : Array Value} {below : List Frame} {meth : Method} {c : Code} {P : hw_G} {G : Nat → Nat} {A : Nat → Prop}
set_option maxRecDepth 100000 in
set_option maxHeartbeats 4000000 in
theorem t_X9_same_37 {post : Int32 → cs_S → Prop} (hC : rf_C P RX9 p s m meth c cX9_same 3 (some .boolean)) (hin : meth.name = yX9_same.name) (hO : cs_O G A s s.heap) : ∀ (n : Nat) (S : cs_S) (x0 : Nat) (x1 : Option Nat) (x2 : Int32) (H : Heap) (locs : List Loc) (ls : Array Slot), w_X9_same_37 post G n S x0 x1 x2 → cs_T P s A S H locs → lv_has ls 3 [(0, .ref x0), (1, va_rf x1), (2, .int x2)] → W p l e rm_X9_same s m args below meth c H locs 0 0 (MQ below (cs_Qi P A post) args s 0 0 A) (F0 m 37 ls []) := by
  obtain ⟨hx, hb, hml, hown, hK, -, -⟩ := id hC
  intro n
  induction n with
  | zero => intro S x0 x1 x2 H locs ls h; exact False.elim h
  | succ n ih =>
    intro S x0 x1 x2 H locs ls h hT hl
    refine lv_iload_n hx hb dX9_same_37 rfl (lv_at hl 2 rfl) ?_
    refine lv_aload_n (x := x0) hx hb dX9_same_38 rfl (lv_at hl 0 rfl) ?_
    obtain ⟨hk16_, h⟩ := h
    refine cs_get hx hb hK hT hown 10 hk16_ (by decide) rfl 2 (by decide) kfX9_18 (v := va_rf (cs_r S 1002 x0)) rfl dX9_same_39 ?_
    refine hw_topr (fun r17 er17 => ?_)
    replace h := h r17 er17
    obtain ⟨b18, rfl, h⟩ := h
    obtain ⟨hk19_, h⟩ := h
    refine cs_alen hx hb hK hT 20 hk19_ (by decide) (by decide) dX9_same_42 ?_
    refine lv_icmp_ge (tgt := 78) hx hb dX9_same_43 (by decide) (fun hc => ?_) (fun hc => ?_)
    · replace h := h.1 hc
      exact t_X9_same_78 hC hin hO S _ _ _ h hT (lv_sub hl [] rfl)
    · replace h := h.2 hc
      refine lv_iload_n hx hb dX9_same_46 rfl (lv_at hl 2 rfl) ?_
      refine hw_aload_n (x := x1) hx hb dX9_same_47 rfl (lv_at hl 1 rfl) ?_
      obtain ⟨b20, rfl, h⟩ := h
      obtain ⟨hk21_, h⟩ := h
      refine cs_get hx hb hK hT hown 10 hk21_ (by decide) rfl 2 (by decide) kfX9_18 (v := va_rf (cs_r S 1002 b20)) rfl dX9_same_48 ?_
      refine hw_topr (fun r22 er22 => ?_)
      replace h := h r22 er22
      obtain ⟨b23, rfl, h⟩ := h
      obtain ⟨hk24_, h⟩ := h
      refine cs_alen hx hb hK hT 20 hk24_ (by decide) (by decide) dX9_same_51 ?_
      refine lv_icmp_ge (tgt := 78) hx hb dX9_same_52 (by decide) (fun hc => ?_) (fun hc => ?_)
      · replace h := h.1 hc
        exact t_X9_same_78 hC hin hO S _ _ _ h hT (lv_sub hl [] rfl)
      · replace h := h.2 hc
        refine lv_aload_n (x := x0) hx hb dX9_same_55 rfl (lv_at hl 0 rfl) ?_
        refine cs_get hx hb hK hT hown 10 hk16_ (by decide) rfl 2 (by decide) kfX9_18 (v := va_rf (cs_r S 1002 x0)) rfl dX9_same_56 ?_
        refine hw_topr (fun r25 er25 => ?_)
        replace h := h r25 er25
        refine lv_iload_n hx hb dX9_same_59 rfl (lv_at hl 2 rfl) ?_
        obtain ⟨b26, rfl, h⟩ := h
        obtain ⟨hk27_, h⟩ := h
        obtain ⟨hi, h⟩ := h
        refine cs_iald hx hb hK hT hk27_ hi dX9_same_60 ?_
        refine lv_aload_n (x := b20) hx hb dX9_same_61 rfl (lv_at hl 1 rfl) ?_
        refine cs_get hx hb hK hT hown 10 hk21_ (by decide) rfl 2 (by decide) kfX9_18 (v := va_rf (cs_r S 1002 b20)) rfl dX9_same_62 ?_
        refine hw_topr (fun r28 er28 => ?_)
        replace h := h r28 er28
        refine lv_iload_n hx hb dX9_same_65 rfl (lv_at hl 2 rfl) ?_
        obtain ⟨b29, rfl, h⟩ := h
        obtain ⟨hk30_, h⟩ := h
        obtain ⟨hi, h⟩ := h
        refine cs_iald hx hb hK hT hk30_ hi dX9_same_66 ?_
        refine lv_icmp_eq (tgt := 72) hx hb dX9_same_67 (by decide) (fun hc => ?_) (fun hc => ?_)
        · replace h := h.1 hc
          refine lv_iinc (v := x2 + 1) (lv' := [(2, _), (0, _), (1, _)]) hx hb dX9_same_72 hl (k := 2) rfl rfl (by decide) rfl (fun ls hl_ => ?_)
          replace hl := hl_
          refine lv_goto (tgt := 37) hx hb dX9_same_75 (by decide) ?_
          exact ih S x0 (some b20) (x2 + 1) _ _ _ h hT (lv_sub hl [1, 2, 0] rfl)
        · replace h := h.2 hc
          refine lv_iconst (v := 0) hx hb dX9_same_70 (by decide) ?_
          exact cs_zret hC hT rfl h dX9_same_71 (Nat.le_refl _) (Nat.le_refl _)
end
def wp_X9_same (post : Int32 → cs_S → Prop) (G : Nat → Nat) (S : cs_S) (o : Nat) (p1 : Option Nat) : Prop := cs_k S o = 11 ∧ ∃ b32, p1 = some b32 ∧ cs_k S b32 = 11 ∧ (¬ (cs_i S 1000 o) = (cs_i S 1000 b32) → w_X9_same_33 post G S) ∧ ((cs_i S 1000 o) = (cs_i S 1000 b32) → (¬ (cs_i S 1003 o) = (cs_i S 1003 b32) → w_X9_same_33 post G S) ∧ ((cs_i S 1003 o) = (cs_i S 1003 b32) → ((cs_i S 1001 o) = (cs_i S 1001 b32) → ∃ n9, w_X9_same_37 post G n9 S o (some b32) 0) ∧ (¬ (cs_i S 1001 o) = (cs_i S 1001 b32) → w_X9_same_33 post G S)))
set_option maxRecDepth 100000 in
set_option maxHeartbeats 4000000 in
theorem c_X9_same {l : Launch} {P : hw_G} {G : Nat → Nat} {S : cs_S} {sz : Nat} {o : Nat} {p1 : Option Nat} {post : Int32 → cs_S → Prop} (h : wp_X9_same post G S o p1) : Met l yX9_same [Cond.code yX9_same cX9_same 3 (some .boolean)] rm_X9_same (cs_Pc P G S sz [.ref o, va_rf p1]) (cs_Qi P (cs_A S sz) post) 0 0 (cs_A S sz) := by
  refine cs_met (by decide) rfl (by cases p1 <;> exact Nat.le_of_ble_eq_true rfl) ?_
  intro p e s m below meth c ls hC hin hO hT hl
  obtain ⟨hx, hb, hml, hown, hK, -, -⟩ := id hC
  replace hl : lv_has ls 3 [(0, .ref o), (1, va_rf p1)] := by cases p1 <;> exact hl
  refine lv_aload_n (x := o) hx hb dX9_same_0 rfl (lv_at hl 0 rfl) ?_
  obtain ⟨hk31_, h⟩ := h
  refine cs_get hx hb hK hT hown 10 hk31_ (by decide) rfl 0 (by decide) kfX9_9 (v := .int (cs_i S 1000 o)) rfl dX9_same_1 ?_
  refine hw_aload_n (x := p1) hx hb dX9_same_4 rfl (lv_at hl 1 rfl) ?_
  obtain ⟨b32, rfl, h⟩ := h
  obtain ⟨hk33_, h⟩ := h
  refine cs_get hx hb hK hT hown 10 hk33_ (by decide) rfl 0 (by decide) kfX9_9 (v := .int (cs_i S 1000 b32)) rfl dX9_same_5 ?_
  refine lv_icmp_ne (tgt := 33) hx hb dX9_same_8 (by decide) (fun hc => ?_) (fun hc => ?_)
  · replace h := h.1 hc
    exact t_X9_same_33 hC hin hO S _ _ _ h hT (lv_sub hl [] rfl)
  · replace h := h.2 hc
    refine lv_aload_n (x := o) hx hb dX9_same_11 rfl (lv_at hl 0 rfl) ?_
    refine cs_get hx hb hK hT hown 10 hk31_ (by decide) rfl 3 (by decide) kfX9_22 (v := .int (cs_i S 1003 o)) rfl dX9_same_12 ?_
    refine lv_aload_n (x := b32) hx hb dX9_same_15 rfl (lv_at hl 1 rfl) ?_
    refine cs_get hx hb hK hT hown 10 hk33_ (by decide) rfl 3 (by decide) kfX9_22 (v := .int (cs_i S 1003 b32)) rfl dX9_same_16 ?_
    refine lv_icmp_ne (tgt := 33) hx hb dX9_same_19 (by decide) (fun hc => ?_) (fun hc => ?_)
    · replace h := h.1 hc
      exact t_X9_same_33 hC hin hO S _ _ _ h hT (lv_sub hl [] rfl)
    · replace h := h.2 hc
      refine lv_aload_n (x := o) hx hb dX9_same_22 rfl (lv_at hl 0 rfl) ?_
      refine cs_get hx hb hK hT hown 10 hk31_ (by decide) rfl 1 (by decide) kfX9_15 (v := .int (cs_i S 1001 o)) rfl dX9_same_23 ?_
      refine lv_aload_n (x := b32) hx hb dX9_same_26 rfl (lv_at hl 1 rfl) ?_
      refine cs_get hx hb hK hT hown 10 hk33_ (by decide) rfl 1 (by decide) kfX9_15 (v := .int (cs_i S 1001 b32)) rfl dX9_same_27 ?_
      refine lv_icmp_eq (tgt := 35) hx hb dX9_same_30 (by decide) (fun hc => ?_) (fun hc => ?_)
      · replace h := h.1 hc
        refine lv_iconst (v := 0) hx hb dX9_same_35 (by decide) ?_
        refine lv_istore_n (lv' := [(2, _), (0, _), (1, _)]) hx hb dX9_same_36 rfl hl (by decide) rfl (fun ls hl_ => ?_)
        replace hl := hl_
        obtain ⟨n9, h⟩ := h
        exact t_X9_same_37 hC hin hO n9 S o (some b32) 0 _ _ _ h hT (lv_sub hl [1, 2, 0] rfl)
      · replace h := h.2 hc
        exact t_X9_same_33 hC hin hO S _ _ _ h hT (lv_sub hl [] rfl)
/-! X1_fits -/
abbrev rm_X1_fits : Room := { frames := 1, cells := 0, slots := 0, locals := 27 }
def w_X1_fits_84 (post : Int32 → cs_S → Prop) (G : Nat → Nat) (S : cs_S) (y0 : Int32) : Prop := narrow .boolean (.int y0) = .int y0 ∧ post y0 S
section
variable {p : Program} {l : Launch} {e : Env} {s : State} {m : MethodId} {args : Array Value} {below : List Frame} {meth : Method} {c : Code} {P : hw_G} {G : Nat → Nat} {A : Nat → Prop}
set_option maxRecDepth 100000 in
set_option maxHeartbeats 4000000 in
theorem t_X1_fits_84 {post : Int32 → cs_S → Prop} (hC : rf_C P RX1 p s m meth c cX1_fits 3 (some .boolean)) (hin : meth.name = yX1_fits.name) (hO : cs_O G A s s.heap) (S : cs_S) (y0 : Int32) (H : Heap) (locs : List Loc) (ls : Array Slot) (h : w_X1_fits_84 post G S y0) (hT : cs_T P s A S H locs) (hl : lv_has ls 3 []) : W p l e rm_X1_fits s m args below meth c H locs 0 0 (MQ below (cs_Qi P A post) args s 0 0 A) (F0 m 84 ls [.int y0]) := by
  obtain ⟨hx, hb, hml, hown, hK, -, -⟩ := id hC
  exact cs_zret hC hT h.1 h.2 dX1_fits_84 (Nat.le_refl _) (Nat.le_refl _)
end
def w_X1_fits_75 (post : Int32 → cs_S → Prop) (G : Nat → Nat) (S : cs_S) (x2 : Option Nat) : Prop := (x2 = none → w_X1_fits_84 post G S 0) ∧ (∀ b38, x2 = some b38 → w_X1_fits_84 post G S 1)
section
variable {p : Program} {l : Launch} {e : Env} {s : State} {m : MethodId} {args : Array Value} {below : List Frame} {meth : Method} {c : Code} {P : hw_G} {G : Nat → Nat} {A : Nat → Prop}
set_option maxRecDepth 100000 in
set_option maxHeartbeats 4000000 in
theorem t_X1_fits_75 {post : Int32 → cs_S → Prop} (hC : rf_C P RX1 p s m meth c cX1_fits 3 (some .boolean)) (hin : meth.name = yX1_fits.name) (hO : cs_O G A s s.heap) (S : cs_S) (x2 : Option Nat) (H : Heap) (locs : List Loc) (ls : Array Slot) (h : w_X1_fits_75 post G S x2) (hT : cs_T P s A S H locs) (hl : lv_has ls 3 [(2, va_rf x2)]) : W p l e rm_X1_fits s m args below meth c H locs 0 0 (MQ below (cs_Qi P A post) args s 0 0 A) (F0 m 75 ls []) := by
  obtain ⟨hx, hb, hml, hown, hK, -, -⟩ := id hC
  refine hw_aload_n (x := x2) hx hb dX1_fits_75 rfl (lv_at hl 0 rfl) ?_
  refine hw_ifnull (tgt := 83) hx hb dX1_fits_76 (by decide) (fun hc => ?_) (fun b38 hc => ?_)
  · replace h := h.1 hc
    subst hc
    refine lv_iconst (v := 0) hx hb dX1_fits_83 (by decide) ?_
    exact t_X1_fits_84 hC hin hO S 0 _ _ _ h hT (lv_sub hl [] rfl)
  · replace h := h.2 b38 hc
    subst hc
    refine lv_iconst (v := 1) hx hb dX1_fits_79 (by decide) ?_
    refine lv_goto (tgt := 84) hx hb dX1_fits_80 (by decide) ?_
    exact t_X1_fits_84 hC hin hO S 1 _ _ _ h hT (lv_sub hl [] rfl)
end
def w_X1_fits_106 (post : Int32 → cs_S → Prop) (G : Nat → Nat) (S : cs_S)  : Prop := post 0 S
section
variable {p : Program} {l : Launch} {e : Env} {s : State} {m : MethodId} {args : Array Value} {below : List Frame} {meth : Method} {c : Code} {P : hw_G} {G : Nat → Nat} {A : Nat → Prop}
set_option maxRecDepth 100000 in
set_option maxHeartbeats 4000000 in
theorem t_X1_fits_106 {post : Int32 → cs_S → Prop} (hC : rf_C P RX1 p s m meth c cX1_fits 3 (some .boolean)) (hin : meth.name = yX1_fits.name) (hO : cs_O G A s s.heap) (S : cs_S)  (H : Heap) (locs : List Loc) (ls : Array Slot) (h : w_X1_fits_106 post G S ) (hT : cs_T P s A S H locs) (hl : lv_has ls 3 []) : W p l e rm_X1_fits s m args below meth c H locs 0 0 (MQ below (cs_Qi P A post) args s 0 0 A) (F0 m 106 ls []) := by
  obtain ⟨hx, hb, hml, hown, hK, -, -⟩ := id hC
  refine lv_iconst (v := 0) hx hb dX1_fits_106 (by decide) ?_
  exact cs_zret hC hT rfl h dX1_fits_107 (Nat.le_refl _) (Nat.le_refl _)
end
def w_X1_fits_323 (post : Int32 → cs_S → Prop) (G : Nat → Nat) (S : cs_S) (y0 : Int32) : Prop := narrow .boolean (.int y0) = .int y0 ∧ post y0 S
section
variable {p : Program} {l : Launch} {e : Env} {s : State} {m : MethodId} {args : Array Value} {below : List Frame} {meth : Method} {c : Code} {P : hw_G} {G : Nat → Nat} {A : Nat → Prop}
set_option maxRecDepth 100000 in
set_option maxHeartbeats 4000000 in
theorem t_X1_fits_323 {post : Int32 → cs_S → Prop} (hC : rf_C P RX1 p s m meth c cX1_fits 3 (some .boolean)) (hin : meth.name = yX1_fits.name) (hO : cs_O G A s s.heap) (S : cs_S) (y0 : Int32) (H : Heap) (locs : List Loc) (ls : Array Slot) (h : w_X1_fits_323 post G S y0) (hT : cs_T P s A S H locs) (hl : lv_has ls 3 []) : W p l e rm_X1_fits s m args below meth c H locs 0 0 (MQ below (cs_Qi P A post) args s 0 0 A) (F0 m 323 ls [.int y0]) := by
  obtain ⟨hx, hb, hml, hown, hK, -, -⟩ := id hC
  exact cs_zret hC hT h.1 h.2 dX1_fits_323 (Nat.le_refl _) (Nat.le_refl _)
end
def w_X1_fits_243 (post : Int32 → cs_S → Prop) (G : Nat → Nat) (S : cs_S) (y0 : Int32) : Prop := narrow .boolean (.int y0) = .int y0 ∧ post y0 S
section
variable {p : Program} {l : Launch} {e : Env} {s : State} {m : MethodId} {args : Array Value} {below : List Frame} {meth : Method} {c : Code} {P : hw_G} {G : Nat → Nat} {A : Nat → Prop}
set_option maxRecDepth 100000 in
set_option maxHeartbeats 4000000 in
theorem t_X1_fits_243 {post : Int32 → cs_S → Prop} (hC : rf_C P RX1 p s m meth c cX1_fits 3 (some .boolean)) (hin : meth.name = yX1_fits.name) (hO : cs_O G A s s.heap) (S : cs_S) (y0 : Int32) (H : Heap) (locs : List Loc) (ls : Array Slot) (h : w_X1_fits_243 post G S y0) (hT : cs_T P s A S H locs) (hl : lv_has ls 3 []) : W p l e rm_X1_fits s m args below meth c H locs 0 0 (MQ below (cs_Qi P A post) args s 0 0 A) (F0 m 243 ls [.int y0]) := by
  obtain ⟨hx, hb, hml, hown, hK, -, -⟩ := id hC
  exact cs_zret hC hT h.1 h.2 dX1_fits_243 (Nat.le_refl _) (Nat.le_refl _)
end
def w_X1_fits_263 (post : Int32 → cs_S → Prop) (G : Nat → Nat) (S : cs_S) (y0 : Int32) : Prop := narrow .boolean (.int y0) = .int y0 ∧ post y0 S
section
variable {p : Program} {l : Launch} {e : Env} {s : State} {m : MethodId} {args : Array Value} {below : List Frame} {meth : Method} {c : Code} {P : hw_G} {G : Nat → Nat} {A : Nat → Prop}
set_option maxRecDepth 100000 in
set_option maxHeartbeats 4000000 in
theorem t_X1_fits_263 {post : Int32 → cs_S → Prop} (hC : rf_C P RX1 p s m meth c cX1_fits 3 (some .boolean)) (hin : meth.name = yX1_fits.name) (hO : cs_O G A s s.heap) (S : cs_S) (y0 : Int32) (H : Heap) (locs : List Loc) (ls : Array Slot) (h : w_X1_fits_263 post G S y0) (hT : cs_T P s A S H locs) (hl : lv_has ls 3 []) : W p l e rm_X1_fits s m args below meth c H locs 0 0 (MQ below (cs_Qi P A post) args s 0 0 A) (F0 m 263 ls [.int y0]) := by
  obtain ⟨hx, hb, hml, hown, hK, -, -⟩ := id hC
  exact cs_zret hC hT h.1 h.2 dX1_fits_263 (Nat.le_refl _) (Nat.le_refl _)
end
def w_X1_fits_283 (post : Int32 → cs_S → Prop) (G : Nat → Nat) (S : cs_S) (y0 : Int32) : Prop := narrow .boolean (.int y0) = .int y0 ∧ post y0 S
section
variable {p : Program} {l : Launch} {e : Env} {s : State} {m : MethodId} {args : Array Value} {below : List Frame} {meth : Method} {c : Code} {P : hw_G} {G : Nat → Nat} {A : Nat → Prop}
set_option maxRecDepth 100000 in
set_option maxHeartbeats 4000000 in
theorem t_X1_fits_283 {post : Int32 → cs_S → Prop} (hC : rf_C P RX1 p s m meth c cX1_fits 3 (some .boolean)) (hin : meth.name = yX1_fits.name) (hO : cs_O G A s s.heap) (S : cs_S) (y0 : Int32) (H : Heap) (locs : List Loc) (ls : Array Slot) (h : w_X1_fits_283 post G S y0) (hT : cs_T P s A S H locs) (hl : lv_has ls 3 []) : W p l e rm_X1_fits s m args below meth c H locs 0 0 (MQ below (cs_Qi P A post) args s 0 0 A) (F0 m 283 ls [.int y0]) := by
  obtain ⟨hx, hb, hml, hown, hK, -, -⟩ := id hC
  exact cs_zret hC hT h.1 h.2 dX1_fits_283 (Nat.le_refl _) (Nat.le_refl _)
end
def w_X1_fits_303 (post : Int32 → cs_S → Prop) (G : Nat → Nat) (S : cs_S) (y0 : Int32) : Prop := narrow .boolean (.int y0) = .int y0 ∧ post y0 S
section
variable {p : Program} {l : Launch} {e : Env} {s : State} {m : MethodId} {args : Array Value} {below : List Frame} {meth : Method} {c : Code} {P : hw_G} {G : Nat → Nat} {A : Nat → Prop}
set_option maxRecDepth 100000 in
set_option maxHeartbeats 4000000 in
theorem t_X1_fits_303 {post : Int32 → cs_S → Prop} (hC : rf_C P RX1 p s m meth c cX1_fits 3 (some .boolean)) (hin : meth.name = yX1_fits.name) (hO : cs_O G A s s.heap) (S : cs_S) (y0 : Int32) (H : Heap) (locs : List Loc) (ls : Array Slot) (h : w_X1_fits_303 post G S y0) (hT : cs_T P s A S H locs) (hl : lv_has ls 3 []) : W p l e rm_X1_fits s m args below meth c H locs 0 0 (MQ below (cs_Qi P A post) args s 0 0 A) (F0 m 303 ls [.int y0]) := by
  obtain ⟨hx, hb, hml, hown, hK, -, -⟩ := id hC
  exact cs_zret hC hT h.1 h.2 dX1_fits_303 (Nat.le_refl _) (Nat.le_refl _)
end
def w_X1_fits_217 (post : Int32 → cs_S → Prop) (G : Nat → Nat) (S : cs_S) (y0 : Int32) : Prop := narrow .boolean (.int y0) = .int y0 ∧ post y0 S
section
variable {p : Program} {l : Launch} {e : Env} {s : State} {m : MethodId} {args : Array Value} {below : List Frame} {meth : Method} {c : Code} {P : hw_G} {G : Nat → Nat} {A : Nat → Prop}
set_option maxRecDepth 100000 in
set_option maxHeartbeats 4000000 in
theorem t_X1_fits_217 {post : Int32 → cs_S → Prop} (hC : rf_C P RX1 p s m meth c cX1_fits 3 (some .boolean)) (hin : meth.name = yX1_fits.name) (hO : cs_O G A s s.heap) (S : cs_S) (y0 : Int32) (H : Heap) (locs : List Loc) (ls : Array Slot) (h : w_X1_fits_217 post G S y0) (hT : cs_T P s A S H locs) (hl : lv_has ls 3 []) : W p l e rm_X1_fits s m args below meth c H locs 0 0 (MQ below (cs_Qi P A post) args s 0 0 A) (F0 m 217 ls [.int y0]) := by
  obtain ⟨hx, hb, hml, hown, hK, -, -⟩ := id hC
  exact cs_zret hC hT h.1 h.2 dX1_fits_217 (Nat.le_refl _) (Nat.le_refl _)
end
def w_X1_fits_52 (post : Int32 → cs_S → Prop) (G : Nat → Nat) (S : cs_S) (y0 : Int32) : Prop := narrow .boolean (.int y0) = .int y0 ∧ post y0 S
section
variable {p : Program} {l : Launch} {e : Env} {s : State} {m : MethodId} {args : Array Value} {below : List Frame} {meth : Method} {c : Code} {P : hw_G} {G : Nat → Nat} {A : Nat → Prop}
set_option maxRecDepth 100000 in
set_option maxHeartbeats 4000000 in
theorem t_X1_fits_52 {post : Int32 → cs_S → Prop} (hC : rf_C P RX1 p s m meth c cX1_fits 3 (some .boolean)) (hin : meth.name = yX1_fits.name) (hO : cs_O G A s s.heap) (S : cs_S) (y0 : Int32) (H : Heap) (locs : List Loc) (ls : Array Slot) (h : w_X1_fits_52 post G S y0) (hT : cs_T P s A S H locs) (hl : lv_has ls 3 []) : W p l e rm_X1_fits s m args below meth c H locs 0 0 (MQ below (cs_Qi P A post) args s 0 0 A) (F0 m 52 ls [.int y0]) := by
  obtain ⟨hx, hb, hml, hown, hK, -, -⟩ := id hC
  exact cs_zret hC hT h.1 h.2 dX1_fits_52 (Nat.le_refl _) (Nat.le_refl _)
end
def w_X1_fits_26 (post : Int32 → cs_S → Prop) (G : Nat → Nat) (S : cs_S) (y0 : Int32) : Prop := narrow .boolean (.int y0) = .int y0 ∧ post y0 S
section
variable {p : Program} {l : Launch} {e : Env} {s : State} {m : MethodId} {args : Array Value} {below : List Frame} {meth : Method} {c : Code} {P : hw_G} {G : Nat → Nat} {A : Nat → Prop}
set_option maxRecDepth 100000 in
set_option maxHeartbeats 4000000 in
theorem t_X1_fits_26 {post : Int32 → cs_S → Prop} (hC : rf_C P RX1 p s m meth c cX1_fits 3 (some .boolean)) (hin : meth.name = yX1_fits.name) (hO : cs_O G A s s.heap) (S : cs_S) (y0 : Int32) (H : Heap) (locs : List Loc) (ls : Array Slot) (h : w_X1_fits_26 post G S y0) (hT : cs_T P s A S H locs) (hl : lv_has ls 3 []) : W p l e rm_X1_fits s m args below meth c H locs 0 0 (MQ below (cs_Qi P A post) args s 0 0 A) (F0 m 26 ls [.int y0]) := by
  obtain ⟨hx, hb, hml, hown, hK, -, -⟩ := id hC
  exact cs_zret hC hT h.1 h.2 dX1_fits_26 (Nat.le_refl _) (Nat.le_refl _)
end
def wp_X1_fits (post : Int32 → cs_S → Prop) (G : Nat → Nat) (S : cs_S) (o : Nat) (p1 : Option Nat) : Prop := cs_k S o = 3 ∧ (¬ (cs_i S 200 o) = 35 → (¬ (cs_i S 200 o) = 37 → ∃ b40, p1 = some b40 ∧ cs_k S b40 = 5 ∧ wp_X3_find (fun r41 S41 => (r41 = none → w_X1_fits_75 post G S41 none) ∧ (∀ b43, r41 = some b43 → cs_k S41 o = 3 ∧ (¬ (cs_i S41 200 o) = 36 → ∀ r45, r45 = cs_r S41 203 o → (r45 = none → w_X1_fits_106 post G S41) ∧ (∀ b46, r45 = some b46 → cs_k S41 b43 = 11 ∧ ∀ r48, r48 = cs_r S41 203 o → ∃ b49, r48 = some b49 ∧ cs_k S41 b49 = 11 ∧ ((cs_i S41 1000 b43) = (cs_i S41 1000 b49) → ((cs_i S41 200 o).toInt = 11 → ∀ r51, r51 = cs_r S41 203 o → wp_X9_same (fun r52 S52 => narrow .boolean (.int r52) = .int r52 ∧ post r52 S52) G S41 b43 r51) ∧ ((cs_i S41 200 o).toInt = 12 → ∀ r53, r53 = cs_r S41 203 o → wp_X9_same (fun r54 S54 => (¬ r54 = 0 → w_X1_fits_243 post G S54 0) ∧ (r54 = 0 → w_X1_fits_243 post G S54 1)) G S41 b43 r53) ∧ ((cs_i S41 200 o).toInt = 13 → ∀ r55, r55 = cs_r S41 203 o → ∃ b56, r55 = some b56 ∧ cs_k S41 b56 = 11 ∧ ((cs_i S41 1001 b56) ≤ (cs_i S41 1001 b43) → w_X1_fits_263 post G S41 0) ∧ (¬ (cs_i S41 1001 b56) ≤ (cs_i S41 1001 b43) → w_X1_fits_263 post G S41 1)) ∧ ((cs_i S41 200 o).toInt = 14 → ∀ r58, r58 = cs_r S41 203 o → ∃ b59, r58 = some b59 ∧ cs_k S41 b59 = 11 ∧ ((cs_i S41 1001 b59) < (cs_i S41 1001 b43) → w_X1_fits_283 post G S41 0) ∧ (¬ (cs_i S41 1001 b59) < (cs_i S41 1001 b43) → w_X1_fits_283 post G S41 1)) ∧ ((cs_i S41 200 o).toInt = 15 → ∀ r61, r61 = cs_r S41 203 o → ∃ b62, r61 = some b62 ∧ cs_k S41 b62 = 11 ∧ ((cs_i S41 1001 b43) ≤ (cs_i S41 1001 b62) → w_X1_fits_303 post G S41 0) ∧ (¬ (cs_i S41 1001 b43) ≤ (cs_i S41 1001 b62) → w_X1_fits_303 post G S41 1)) ∧ ((cs_i S41 200 o).toInt = 38 → ∀ r64, r64 = cs_r S41 203 o → wp_X9_like (fun r65 S65 => narrow .boolean (.int r65) = .int r65 ∧ post r65 S65) G S41 b43 r64) ∧ ((cs_i S41 200 o).toInt = 39 → ∀ r66, r66 = cs_r S41 203 o → ∃ b67, r66 = some b67 ∧ cs_k S41 b67 = 11 ∧ wp_X1_maskOf (fun r69 S69 => (¬ (((cs_i S41 1001 b43) ^^^ (cs_i S41 1001 b67)) &&& r69) = 0 → w_X1_fits_217 post G S69 0) ∧ ((((cs_i S41 1001 b43) ^^^ (cs_i S41 1001 b67)) &&& r69) = 0 → w_X1_fits_217 post G S69 1)) G S41 (cs_i S41 202 o)) ∧ (¬ (cs_i S41 200 o).toInt = 11 ∧ ¬ (cs_i S41 200 o).toInt = 12 ∧ ¬ (cs_i S41 200 o).toInt = 13 ∧ ¬ (cs_i S41 200 o).toInt = 14 ∧ ¬ (cs_i S41 200 o).toInt = 15 ∧ ¬ (cs_i S41 200 o).toInt = 38 ∧ ¬ (cs_i S41 200 o).toInt = 39 → ∀ r70, r70 = cs_r S41 203 o → ∃ b71, r70 = some b71 ∧ cs_k S41 b71 = 11 ∧ ((cs_i S41 1001 b43) < (cs_i S41 1001 b71) → w_X1_fits_323 post G S41 0) ∧ (¬ (cs_i S41 1001 b43) < (cs_i S41 1001 b71) → w_X1_fits_323 post G S41 1))) ∧ (¬ (cs_i S41 1000 b43) = (cs_i S41 1000 b49) → w_X1_fits_106 post G S41))) ∧ ((cs_i S41 200 o) = 36 → w_X1_fits_75 post G S41 (some b43)))) G S b40 (cs_l S 201 o)) ∧ ((cs_i S 200 o) = 37 → ∃ b73, p1 = some b73 ∧ cs_k S b73 = 5 ∧ (¬ (cs_i S 402 b73) = (cs_i S 202 o) → w_X1_fits_52 post G S 0) ∧ ((cs_i S 402 b73) = (cs_i S 202 o) → w_X1_fits_52 post G S 1))) ∧ ((cs_i S 200 o) = 35 → ∃ b75, p1 = some b75 ∧ cs_k S b75 = 5 ∧ (¬ (lg_cmp (cs_l S 401 b75) (cs_l S 201 o)) = 0 → w_X1_fits_26 post G S 0) ∧ ((lg_cmp (cs_l S 401 b75) (cs_l S 201 o)) = 0 → w_X1_fits_26 post G S 1))
set_option maxRecDepth 100000 in
set_option maxHeartbeats 4000000 in
theorem c_X1_fits {l : Launch} {P : hw_G} {G : Nat → Nat} {S : cs_S} {sz : Nat} {o : Nat} {p1 : Option Nat} {post : Int32 → cs_S → Prop} (h : wp_X1_fits post G S o p1) : Met l yX1_fits [Cond.code yX1_fits cX1_fits 3 (some .boolean)] rm_X1_fits (cs_Pc P G S sz [.ref o, va_rf p1]) (cs_Qi P (cs_A S sz) post) 0 0 (cs_A S sz) := by
  refine cs_met (by decide) rfl (by cases p1 <;> exact Nat.le_of_ble_eq_true rfl) ?_
  intro p e s m below meth c ls hC hin hO hT hl
  obtain ⟨hx, hb, hml, hown, hK, -, -⟩ := id hC
  replace hl : lv_has ls 3 [(0, .ref o), (1, va_rf p1)] := by cases p1 <;> exact hl
  refine lv_aload_n (x := o) hx hb dX1_fits_0 rfl (lv_at hl 0 rfl) ?_
  obtain ⟨hk39_, h⟩ := h
  refine cs_get hx hb hK hT hown 2 hk39_ (by decide) rfl 0 (by decide) kfX1_9 (v := .int (cs_i S 200 o)) rfl dX1_fits_1 ?_
  refine lv_bipush (v := 35) hx hb dX1_fits_4 (by decide) ?_
  refine lv_icmp_ne (tgt := 27) hx hb dX1_fits_6 (by decide) (fun hc => ?_) (fun hc => ?_)
  · replace h := h.1 hc
    refine lv_aload_n (x := o) hx hb dX1_fits_27 rfl (lv_at hl 0 rfl) ?_
    refine cs_get hx hb hK hT hown 2 hk39_ (by decide) rfl 0 (by decide) kfX1_9 (v := .int (cs_i S 200 o)) rfl dX1_fits_28 ?_
    refine lv_bipush (v := 37) hx hb dX1_fits_31 (by decide) ?_
    refine lv_icmp_ne (tgt := 53) hx hb dX1_fits_33 (by decide) (fun hc => ?_) (fun hc => ?_)
    · replace h := h.1 hc
      refine hw_aload_n (x := p1) hx hb dX1_fits_53 rfl (lv_at hl 1 rfl) ?_
      refine lv_aload_n (x := o) hx hb dX1_fits_54 rfl (lv_at hl 0 rfl) ?_
      refine cs_get hx hb hK hT hown 2 hk39_ (by decide) rfl 1 (by decide) kfX1_15 (v := .long (cs_l S 201 o)) rfl dX1_fits_55 ?_
      obtain ⟨b40, rfl, h⟩ := h
      obtain ⟨hk42_, h⟩ := h
      refine cs_callr0 (cs_runV hx hb hml hown hK hO hT 4 hk42_ (by decide) rfl (c_X3_find h) rfl rfl klX1_52 ki_X3_find ks_X3_find kn_X3 kc_X3_find 1 ⟨rfl, by decide, by decide, by decide +kernel⟩ ⟨by decide, by decide⟩ rfl hl.1 rfl (hw_cat8 (Nat.le_of_ble_eq_true rfl)) ⟨(Nat.le_refl _), (Nat.le_refl _)⟩ dX1_fits_58) hT (fun r41 S41 H locs h_ hT_ => ?_)
      replace h := h_
      replace hT := hT_
      refine hw_astore_n (lv' := [(2, _), (0, _), (1, _)]) (x := r41) hx hb dX1_fits_61 rfl hl (by decide) rfl (fun ls hl_ => ?_)
      replace hl := hl_
      refine hw_aload_n (x := r41) hx hb dX1_fits_62 rfl (lv_at hl 0 rfl) ?_
      refine hw_ifnull (tgt := 75) hx hb dX1_fits_63 (by decide) (fun hc => ?_) (fun b43 hc => ?_)
      · replace h := h.1 hc
        subst hc
        exact t_X1_fits_75 hC hin hO S41 none _ _ _ h hT (lv_sub hl [0] rfl)
      · replace h := h.2 b43 hc
        subst hc
        refine lv_aload_n (x := o) hx hb dX1_fits_66 rfl (lv_at hl 1 rfl) ?_
        obtain ⟨hk44_, h⟩ := h
        refine cs_get hx hb hK hT hown 2 hk44_ (by decide) rfl 0 (by decide) kfX1_9 (v := .int (cs_i S41 200 o)) rfl dX1_fits_67 ?_
        refine lv_bipush (v := 36) hx hb dX1_fits_70 (by decide) ?_
        refine lv_icmp_ne (tgt := 85) hx hb dX1_fits_72 (by decide) (fun hc => ?_) (fun hc => ?_)
        · replace h := h.1 hc
          refine lv_aload_n (x := o) hx hb dX1_fits_85 rfl (lv_at hl 1 rfl) ?_
          refine cs_get hx hb hK hT hown 2 hk44_ (by decide) rfl 3 (by decide) kfX1_22 (v := va_rf (cs_r S41 203 o)) rfl dX1_fits_86 ?_
          refine hw_topr (fun r45 er45 => ?_)
          replace h := h r45 er45
          refine hw_ifnull (tgt := 106) hx hb dX1_fits_89 (by decide) (fun hc => ?_) (fun b46 hc => ?_)
          · replace h := h.1 hc
            subst hc
            exact t_X1_fits_106 hC hin hO S41 _ _ _ h hT (lv_sub hl [] rfl)
          · replace h := h.2 b46 hc
            subst hc
            refine lv_aload_n (x := b43) hx hb dX1_fits_92 rfl (lv_at hl 0 rfl) ?_
            obtain ⟨hk47_, h⟩ := h
            refine cs_get hx hb hK hT hown 10 hk47_ (by decide) rfl 0 (by decide) kfX1_56 (v := .int (cs_i S41 1000 b43)) rfl dX1_fits_93 ?_
            refine lv_aload_n (x := o) hx hb dX1_fits_96 rfl (lv_at hl 1 rfl) ?_
            refine cs_get hx hb hK hT hown 2 hk44_ (by decide) rfl 3 (by decide) kfX1_22 (v := va_rf (cs_r S41 203 o)) rfl dX1_fits_97 ?_
            refine hw_topr (fun r48 er48 => ?_)
            replace h := h r48 er48
            obtain ⟨b49, rfl, h⟩ := h
            obtain ⟨hk50_, h⟩ := h
            refine cs_get hx hb hK hT hown 10 hk50_ (by decide) rfl 0 (by decide) kfX1_56 (v := .int (cs_i S41 1000 b49)) rfl dX1_fits_100 ?_
            refine lv_icmp_eq (tgt := 108) hx hb dX1_fits_103 (by decide) (fun hc => ?_) (fun hc => ?_)
            · replace h := h.1 hc
              refine lv_aload_n (x := o) hx hb dX1_fits_108 rfl (lv_at hl 1 rfl) ?_
              refine cs_get hx hb hK hT hown 2 hk44_ (by decide) rfl 0 (by decide) kfX1_9 (v := .int (cs_i S41 200 o)) rfl dX1_fits_109 ?_
              by_cases hz0 : (cs_i S41 200 o).toInt = 11
              · replace h := h.1 hz0
                refine lv_lookup (tgt := 218) (off := 106) hx hb dX1_fits_112 rfl (by rw [hz0]; decide) (by decide) ?_
                refine lv_aload_n (x := b43) hx hb dX1_fits_218 rfl (lv_at hl 0 rfl) ?_
                refine lv_aload_n (x := o) hx hb dX1_fits_219 rfl (lv_at hl 1 rfl) ?_
                refine cs_get hx hb hK hT hown 2 hk44_ (by decide) rfl 3 (by decide) kfX1_22 (v := va_rf (cs_r S41 203 o)) rfl dX1_fits_220 ?_
                refine hw_topr (fun r51 er51 => ?_)
                replace h := h r51 er51
                refine cs_calli0 (cs_runV hx hb hml hown hK hO hT 10 hk47_ (by decide) rfl (c_X9_same h) rfl rfl klX1_68 ki_X9_same ks_X9_same kn_X9 kc_X9_same 1 ⟨rfl, by decide, by decide, by decide +kernel⟩ ⟨by decide, by decide⟩ rfl hl.1 rfl (hw_cat8 (Nat.le_of_ble_eq_true rfl)) ⟨(Nat.le_refl _), (Nat.le_refl _)⟩ dX1_fits_223) hT (fun r52 S52 H locs h_ hT_ => ?_)
                replace h := h_
                replace hT := hT_
                exact cs_zret hC hT h.1 h.2 dX1_fits_226 (Nat.le_refl _) (Nat.le_refl _)
              by_cases hz1 : (cs_i S41 200 o).toInt = 12
              · replace h := h.2.1 hz1
                refine lv_lookup (tgt := 227) (off := 115) hx hb dX1_fits_112 rfl (by rw [hz1]; decide) (by decide) ?_
                refine lv_aload_n (x := b43) hx hb dX1_fits_227 rfl (lv_at hl 0 rfl) ?_
                refine lv_aload_n (x := o) hx hb dX1_fits_228 rfl (lv_at hl 1 rfl) ?_
                refine cs_get hx hb hK hT hown 2 hk44_ (by decide) rfl 3 (by decide) kfX1_22 (v := va_rf (cs_r S41 203 o)) rfl dX1_fits_229 ?_
                refine hw_topr (fun r53 er53 => ?_)
                replace h := h r53 er53
                refine cs_calli0 (cs_runV hx hb hml hown hK hO hT 10 hk47_ (by decide) rfl (c_X9_same h) rfl rfl klX1_68 ki_X9_same ks_X9_same kn_X9 kc_X9_same 1 ⟨rfl, by decide, by decide, by decide +kernel⟩ ⟨by decide, by decide⟩ rfl hl.1 rfl (hw_cat8 (Nat.le_of_ble_eq_true rfl)) ⟨(Nat.le_refl _), (Nat.le_refl _)⟩ dX1_fits_232) hT (fun r54 S54 H locs h_ hT_ => ?_)
                replace h := h_
                replace hT := hT_
                refine lv_if_ne (tgt := 242) hx hb dX1_fits_235 (by decide) (fun hc => ?_) (fun hc => ?_)
                · replace h := h.1 hc
                  refine lv_iconst (v := 0) hx hb dX1_fits_242 (by decide) ?_
                  exact t_X1_fits_243 hC hin hO S54 0 _ _ _ h hT (lv_sub hl [] rfl)
                · replace h := h.2 hc
                  refine lv_iconst (v := 1) hx hb dX1_fits_238 (by decide) ?_
                  refine lv_goto (tgt := 243) hx hb dX1_fits_239 (by decide) ?_
                  exact t_X1_fits_243 hC hin hO S54 1 _ _ _ h hT (lv_sub hl [] rfl)
              by_cases hz2 : (cs_i S41 200 o).toInt = 13
              · replace h := h.2.2.1 hz2
                refine lv_lookup (tgt := 244) (off := 132) hx hb dX1_fits_112 rfl (by rw [hz2]; decide) (by decide) ?_
                refine lv_aload_n (x := b43) hx hb dX1_fits_244 rfl (lv_at hl 0 rfl) ?_
                refine cs_get hx hb hK hT hown 10 hk47_ (by decide) rfl 1 (by decide) kfX1_63 (v := .int (cs_i S41 1001 b43)) rfl dX1_fits_245 ?_
                refine lv_aload_n (x := o) hx hb dX1_fits_248 rfl (lv_at hl 1 rfl) ?_
                refine cs_get hx hb hK hT hown 2 hk44_ (by decide) rfl 3 (by decide) kfX1_22 (v := va_rf (cs_r S41 203 o)) rfl dX1_fits_249 ?_
                refine hw_topr (fun r55 er55 => ?_)
                replace h := h r55 er55
                obtain ⟨b56, rfl, h⟩ := h
                obtain ⟨hk57_, h⟩ := h
                refine cs_get hx hb hK hT hown 10 hk57_ (by decide) rfl 1 (by decide) kfX1_63 (v := .int (cs_i S41 1001 b56)) rfl dX1_fits_252 ?_
                refine lv_icmp_ge (tgt := 262) hx hb dX1_fits_255 (by decide) (fun hc => ?_) (fun hc => ?_)
                · replace h := h.1 hc
                  refine lv_iconst (v := 0) hx hb dX1_fits_262 (by decide) ?_
                  exact t_X1_fits_263 hC hin hO S41 0 _ _ _ h hT (lv_sub hl [] rfl)
                · replace h := h.2 hc
                  refine lv_iconst (v := 1) hx hb dX1_fits_258 (by decide) ?_
                  refine lv_goto (tgt := 263) hx hb dX1_fits_259 (by decide) ?_
                  exact t_X1_fits_263 hC hin hO S41 1 _ _ _ h hT (lv_sub hl [] rfl)
              by_cases hz3 : (cs_i S41 200 o).toInt = 14
              · replace h := h.2.2.2.1 hz3
                refine lv_lookup (tgt := 264) (off := 152) hx hb dX1_fits_112 rfl (by rw [hz3]; decide) (by decide) ?_
                refine lv_aload_n (x := b43) hx hb dX1_fits_264 rfl (lv_at hl 0 rfl) ?_
                refine cs_get hx hb hK hT hown 10 hk47_ (by decide) rfl 1 (by decide) kfX1_63 (v := .int (cs_i S41 1001 b43)) rfl dX1_fits_265 ?_
                refine lv_aload_n (x := o) hx hb dX1_fits_268 rfl (lv_at hl 1 rfl) ?_
                refine cs_get hx hb hK hT hown 2 hk44_ (by decide) rfl 3 (by decide) kfX1_22 (v := va_rf (cs_r S41 203 o)) rfl dX1_fits_269 ?_
                refine hw_topr (fun r58 er58 => ?_)
                replace h := h r58 er58
                obtain ⟨b59, rfl, h⟩ := h
                obtain ⟨hk60_, h⟩ := h
                refine cs_get hx hb hK hT hown 10 hk60_ (by decide) rfl 1 (by decide) kfX1_63 (v := .int (cs_i S41 1001 b59)) rfl dX1_fits_272 ?_
                refine lv_icmp_gt (tgt := 282) hx hb dX1_fits_275 (by decide) (fun hc => ?_) (fun hc => ?_)
                · replace h := h.1 hc
                  refine lv_iconst (v := 0) hx hb dX1_fits_282 (by decide) ?_
                  exact t_X1_fits_283 hC hin hO S41 0 _ _ _ h hT (lv_sub hl [] rfl)
                · replace h := h.2 hc
                  refine lv_iconst (v := 1) hx hb dX1_fits_278 (by decide) ?_
                  refine lv_goto (tgt := 283) hx hb dX1_fits_279 (by decide) ?_
                  exact t_X1_fits_283 hC hin hO S41 1 _ _ _ h hT (lv_sub hl [] rfl)
              by_cases hz4 : (cs_i S41 200 o).toInt = 15
              · replace h := h.2.2.2.2.1 hz4
                refine lv_lookup (tgt := 284) (off := 172) hx hb dX1_fits_112 rfl (by rw [hz4]; decide) (by decide) ?_
                refine lv_aload_n (x := b43) hx hb dX1_fits_284 rfl (lv_at hl 0 rfl) ?_
                refine cs_get hx hb hK hT hown 10 hk47_ (by decide) rfl 1 (by decide) kfX1_63 (v := .int (cs_i S41 1001 b43)) rfl dX1_fits_285 ?_
                refine lv_aload_n (x := o) hx hb dX1_fits_288 rfl (lv_at hl 1 rfl) ?_
                refine cs_get hx hb hK hT hown 2 hk44_ (by decide) rfl 3 (by decide) kfX1_22 (v := va_rf (cs_r S41 203 o)) rfl dX1_fits_289 ?_
                refine hw_topr (fun r61 er61 => ?_)
                replace h := h r61 er61
                obtain ⟨b62, rfl, h⟩ := h
                obtain ⟨hk63_, h⟩ := h
                refine cs_get hx hb hK hT hown 10 hk63_ (by decide) rfl 1 (by decide) kfX1_63 (v := .int (cs_i S41 1001 b62)) rfl dX1_fits_292 ?_
                refine lv_icmp_le (tgt := 302) hx hb dX1_fits_295 (by decide) (fun hc => ?_) (fun hc => ?_)
                · replace h := h.1 hc
                  refine lv_iconst (v := 0) hx hb dX1_fits_302 (by decide) ?_
                  exact t_X1_fits_303 hC hin hO S41 0 _ _ _ h hT (lv_sub hl [] rfl)
                · replace h := h.2 hc
                  refine lv_iconst (v := 1) hx hb dX1_fits_298 (by decide) ?_
                  refine lv_goto (tgt := 303) hx hb dX1_fits_299 (by decide) ?_
                  exact t_X1_fits_303 hC hin hO S41 1 _ _ _ h hT (lv_sub hl [] rfl)
              by_cases hz5 : (cs_i S41 200 o).toInt = 38
              · replace h := h.2.2.2.2.2.1 hz5
                refine lv_lookup (tgt := 180) (off := 68) hx hb dX1_fits_112 rfl (by rw [hz5]; decide) (by decide) ?_
                refine lv_aload_n (x := b43) hx hb dX1_fits_180 rfl (lv_at hl 0 rfl) ?_
                refine lv_aload_n (x := o) hx hb dX1_fits_181 rfl (lv_at hl 1 rfl) ?_
                refine cs_get hx hb hK hT hown 2 hk44_ (by decide) rfl 3 (by decide) kfX1_22 (v := va_rf (cs_r S41 203 o)) rfl dX1_fits_182 ?_
                refine hw_topr (fun r64 er64 => ?_)
                replace h := h r64 er64
                refine cs_calli0 (cs_runV hx hb hml hown hK hO hT 10 hk47_ (by decide) rfl (c_X9_like h) rfl rfl klX1_59 ki_X9_like ks_X9_like kn_X9 kc_X9_like 1 ⟨rfl, by decide, by decide, by decide +kernel⟩ ⟨by decide, by decide⟩ rfl hl.1 rfl (hw_cat8 (Nat.le_of_ble_eq_true rfl)) ⟨(Nat.le_refl _), (Nat.le_refl _)⟩ dX1_fits_185) hT (fun r65 S65 H locs h_ hT_ => ?_)
                replace h := h_
                replace hT := hT_
                exact cs_zret hC hT h.1 h.2 dX1_fits_188 (Nat.le_refl _) (Nat.le_refl _)
              by_cases hz6 : (cs_i S41 200 o).toInt = 39
              · replace h := h.2.2.2.2.2.2.1 hz6
                refine lv_lookup (tgt := 189) (off := 77) hx hb dX1_fits_112 rfl (by rw [hz6]; decide) (by decide) ?_
                refine lv_aload_n (x := b43) hx hb dX1_fits_189 rfl (lv_at hl 0 rfl) ?_
                refine cs_get hx hb hK hT hown 10 hk47_ (by decide) rfl 1 (by decide) kfX1_63 (v := .int (cs_i S41 1001 b43)) rfl dX1_fits_190 ?_
                refine lv_aload_n (x := o) hx hb dX1_fits_193 rfl (lv_at hl 1 rfl) ?_
                refine cs_get hx hb hK hT hown 2 hk44_ (by decide) rfl 3 (by decide) kfX1_22 (v := va_rf (cs_r S41 203 o)) rfl dX1_fits_194 ?_
                refine hw_topr (fun r66 er66 => ?_)
                replace h := h r66 er66
                obtain ⟨b67, rfl, h⟩ := h
                obtain ⟨hk68_, h⟩ := h
                refine cs_get hx hb hK hT hown 10 hk68_ (by decide) rfl 1 (by decide) kfX1_63 (v := .int (cs_i S41 1001 b67)) rfl dX1_fits_197 ?_
                refine lv_ixor hx hb dX1_fits_200 ?_
                refine lv_aload_n (x := o) hx hb dX1_fits_201 rfl (lv_at hl 1 rfl) ?_
                refine cs_get hx hb hK hT hown 2 hk44_ (by decide) rfl 2 (by decide) kfX1_19 (v := .int (cs_i S41 202 o)) rfl dX1_fits_202 ?_
                refine cs_calli0 (cs_runS hx hb hml hown hK hO hT (c_X1_maskOf h) rfl rfl klX1_64 ki_X1_maskOf kn_X1 kc_X1_maskOf 1 ⟨by decide, by decide, by decide +kernel⟩ ⟨by decide, by decide⟩ rfl hl.1 rfl (hw_cat8 (Nat.le_of_ble_eq_true rfl)) ⟨(Nat.le_refl _), (Nat.le_refl _)⟩ dX1_fits_205) hT (fun r69 S69 H locs h_ hT_ => ?_)
                replace h := h_
                replace hT := hT_
                refine lv_iand hx hb dX1_fits_208 ?_
                refine lv_if_ne (tgt := 216) hx hb dX1_fits_209 (by decide) (fun hc => ?_) (fun hc => ?_)
                · replace h := h.1 hc
                  refine lv_iconst (v := 0) hx hb dX1_fits_216 (by decide) ?_
                  exact t_X1_fits_217 hC hin hO S69 0 _ _ _ h hT (lv_sub hl [] rfl)
                · replace h := h.2 hc
                  refine lv_iconst (v := 1) hx hb dX1_fits_212 (by decide) ?_
                  refine lv_goto (tgt := 217) hx hb dX1_fits_213 (by decide) ?_
                  exact t_X1_fits_217 hC hin hO S69 1 _ _ _ h hT (lv_sub hl [] rfl)
              replace h := h.2.2.2.2.2.2.2 ⟨hz0, hz1, hz2, hz3, hz4, hz5, hz6⟩
              refine lv_lookup (tgt := 304) (off := 192) hx hb dX1_fits_112 rfl ((hw_osw hz0).trans ((hw_osw hz1).trans ((hw_osw hz2).trans ((hw_osw hz3).trans ((hw_osw hz4).trans ((hw_osw hz5).trans ((hw_osw hz6).trans rfl))))))) (by decide) ?_
              refine lv_aload_n (x := b43) hx hb dX1_fits_304 rfl (lv_at hl 0 rfl) ?_
              refine cs_get hx hb hK hT hown 10 hk47_ (by decide) rfl 1 (by decide) kfX1_63 (v := .int (cs_i S41 1001 b43)) rfl dX1_fits_305 ?_
              refine lv_aload_n (x := o) hx hb dX1_fits_308 rfl (lv_at hl 1 rfl) ?_
              refine cs_get hx hb hK hT hown 2 hk44_ (by decide) rfl 3 (by decide) kfX1_22 (v := va_rf (cs_r S41 203 o)) rfl dX1_fits_309 ?_
              refine hw_topr (fun r70 er70 => ?_)
              replace h := h r70 er70
              obtain ⟨b71, rfl, h⟩ := h
              obtain ⟨hk72_, h⟩ := h
              refine cs_get hx hb hK hT hown 10 hk72_ (by decide) rfl 1 (by decide) kfX1_63 (v := .int (cs_i S41 1001 b71)) rfl dX1_fits_312 ?_
              refine lv_icmp_lt (tgt := 322) hx hb dX1_fits_315 (by decide) (fun hc => ?_) (fun hc => ?_)
              · replace h := h.1 hc
                refine lv_iconst (v := 0) hx hb dX1_fits_322 (by decide) ?_
                exact t_X1_fits_323 hC hin hO S41 0 _ _ _ h hT (lv_sub hl [] rfl)
              · replace h := h.2 hc
                refine lv_iconst (v := 1) hx hb dX1_fits_318 (by decide) ?_
                refine lv_goto (tgt := 323) hx hb dX1_fits_319 (by decide) ?_
                exact t_X1_fits_323 hC hin hO S41 1 _ _ _ h hT (lv_sub hl [] rfl)
            · replace h := h.2 hc
              exact t_X1_fits_106 hC hin hO S41 _ _ _ h hT (lv_sub hl [] rfl)
        · replace h := h.2 hc
          exact t_X1_fits_75 hC hin hO S41 (some b43) _ _ _ h hT (lv_sub hl [0] rfl)
    · replace h := h.2 hc
      refine hw_aload_n (x := p1) hx hb dX1_fits_36 rfl (lv_at hl 1 rfl) ?_
      obtain ⟨b73, rfl, h⟩ := h
      obtain ⟨hk74_, h⟩ := h
      refine cs_get hx hb hK hT hown 4 hk74_ (by decide) rfl 2 (by decide) kfX1_49 (v := .int (cs_i S 402 b73)) rfl dX1_fits_37 ?_
      refine lv_aload_n (x := o) hx hb dX1_fits_40 rfl (lv_at hl 0 rfl) ?_
      refine cs_get hx hb hK hT hown 2 hk39_ (by decide) rfl 2 (by decide) kfX1_19 (v := .int (cs_i S 202 o)) rfl dX1_fits_41 ?_
      refine lv_icmp_ne (tgt := 51) hx hb dX1_fits_44 (by decide) (fun hc => ?_) (fun hc => ?_)
      · replace h := h.1 hc
        refine lv_iconst (v := 0) hx hb dX1_fits_51 (by decide) ?_
        exact t_X1_fits_52 hC hin hO S 0 _ _ _ h hT (lv_sub hl [] rfl)
      · replace h := h.2 hc
        refine lv_iconst (v := 1) hx hb dX1_fits_47 (by decide) ?_
        refine lv_goto (tgt := 52) hx hb dX1_fits_48 (by decide) ?_
        exact t_X1_fits_52 hC hin hO S 1 _ _ _ h hT (lv_sub hl [] rfl)
  · replace h := h.2 hc
    refine hw_aload_n (x := p1) hx hb dX1_fits_9 rfl (lv_at hl 1 rfl) ?_
    obtain ⟨b75, rfl, h⟩ := h
    obtain ⟨hk76_, h⟩ := h
    refine cs_get hx hb hK hT hown 4 hk76_ (by decide) rfl 1 (by decide) kfX1_44 (v := .long (cs_l S 401 b75)) rfl dX1_fits_10 ?_
    refine lv_aload_n (x := o) hx hb dX1_fits_13 rfl (lv_at hl 0 rfl) ?_
    refine cs_get hx hb hK hT hown 2 hk39_ (by decide) rfl 1 (by decide) kfX1_15 (v := .long (cs_l S 201 o)) rfl dX1_fits_14 ?_
    refine W.lcmp hx hb dX1_fits_17 ?_
    refine lv_if_ne (tgt := 25) hx hb dX1_fits_18 (by decide) (fun hc => ?_) (fun hc => ?_)
    · replace h := h.1 hc
      refine lv_iconst (v := 0) hx hb dX1_fits_25 (by decide) ?_
      exact t_X1_fits_26 hC hin hO S 0 _ _ _ h hT (lv_sub hl [] rfl)
    · replace h := h.2 hc
      refine lv_iconst (v := 1) hx hb dX1_fits_21 (by decide) ?_
      refine lv_goto (tgt := 26) hx hb dX1_fits_22 (by decide) ?_
      exact t_X1_fits_26 hC hin hO S 1 _ _ _ h hT (lv_sub hl [] rfl)
/-! X1_holds -/
abbrev rmg_X1_holds (d : Nat) : Room := { frames := 2 + d, cells := 0, slots := 0, locals := 49 + 40 * d }
def w_X1_holds_10 (post : Int32 → cs_S → Prop) (G : Nat → Nat) (rc0 : (Int32 → cs_S → Prop) → cs_S → Option Nat → Option Nat → Int32 → Prop) (S : cs_S)  : Prop := post 0 S
section
variable {p : Program} {l : Launch} {e : Env} {s : State} {m : MethodId} {args : Array Value} {below : List Frame} {meth : Method} {c : Code} {P : hw_G} {G : Nat → Nat} {A : Nat → Prop}
set_option maxRecDepth 100000 in
set_option maxHeartbeats 4000000 in
theorem t_X1_holds_10 {dp : Nat}  {rc0 : (Int32 → cs_S → Prop) → cs_S → Option Nat → Option Nat → Int32 → Prop}{post : Int32 → cs_S → Prop} (hC : rf_C P RX1 p s m meth c cX1_holds 5 (some .boolean)) (hin : meth.name = yX1_holds.name) (hO : cs_O G A s s.heap) (hrc0 : ∀ {S : cs_S} {sz : Nat} {a0 : Option Nat} {a1 : Option Nat} {a2 : Int32} {post : Int32 → cs_S → Prop}, rc0 post S a0 a1 a2 → Met l yX1_holds [Cond.code yX1_holds cX1_holds 5 (some .boolean)] (rmg_X1_holds dp) (cs_Pc P G S sz [va_rf a0, va_rf a1, .int a2]) (cs_Qi P (cs_A S sz) post) 0 0 (cs_A S sz)) (S : cs_S)  (H : Heap) (locs : List Loc) (ls : Array Slot) (h : w_X1_holds_10 post G rc0 S ) (hT : cs_T P s A S H locs) (hl : lv_has ls 5 []) : W p l e (rmg_X1_holds (dp + 1)) s m args below meth c H locs 0 0 (MQ below (cs_Qi P A post) args s 0 0 A) (F0 m 10 ls []) := by
  obtain ⟨hx, hb, hml, hown, hK, -, -⟩ := id hC
  refine lv_iconst (v := 0) hx hb dX1_holds_10 (by decide) ?_
  exact cs_zret hC hT rfl h dX1_holds_11 (Nat.le_refl _) (Nat.le_refl _)
end
def w_X1_holds_125 (post : Int32 → cs_S → Prop) (G : Nat → Nat) (rc0 : (Int32 → cs_S → Prop) → cs_S → Option Nat → Option Nat → Int32 → Prop) (S : cs_S) (y0 : Int32) : Prop := narrow .boolean (.int y0) = .int y0 ∧ post y0 S
section
variable {p : Program} {l : Launch} {e : Env} {s : State} {m : MethodId} {args : Array Value} {below : List Frame} {meth : Method} {c : Code} {P : hw_G} {G : Nat → Nat} {A : Nat → Prop}
set_option maxRecDepth 100000 in
set_option maxHeartbeats 4000000 in
theorem t_X1_holds_125 {dp : Nat}  {rc0 : (Int32 → cs_S → Prop) → cs_S → Option Nat → Option Nat → Int32 → Prop}{post : Int32 → cs_S → Prop} (hC : rf_C P RX1 p s m meth c cX1_holds 5 (some .boolean)) (hin : meth.name = yX1_holds.name) (hO : cs_O G A s s.heap) (hrc0 : ∀ {S : cs_S} {sz : Nat} {a0 : Option Nat} {a1 : Option Nat} {a2 : Int32} {post : Int32 → cs_S → Prop}, rc0 post S a0 a1 a2 → Met l yX1_holds [Cond.code yX1_holds cX1_holds 5 (some .boolean)] (rmg_X1_holds dp) (cs_Pc P G S sz [va_rf a0, va_rf a1, .int a2]) (cs_Qi P (cs_A S sz) post) 0 0 (cs_A S sz)) (S : cs_S) (y0 : Int32) (H : Heap) (locs : List Loc) (ls : Array Slot) (h : w_X1_holds_125 post G rc0 S y0) (hT : cs_T P s A S H locs) (hl : lv_has ls 5 []) : W p l e (rmg_X1_holds (dp + 1)) s m args below meth c H locs 0 0 (MQ below (cs_Qi P A post) args s 0 0 A) (F0 m 125 ls [.int y0]) := by
  obtain ⟨hx, hb, hml, hown, hK, -, -⟩ := id hC
  exact cs_zret hC hT h.1 h.2 dX1_holds_125 (Nat.le_refl _) (Nat.le_refl _)
end
def w_X1_holds_86 (post : Int32 → cs_S → Prop) (G : Nat → Nat) (rc0 : (Int32 → cs_S → Prop) → cs_S → Option Nat → Option Nat → Int32 → Prop) : Nat → cs_S → Option Nat → Int32 → Int32 → Option Nat → Prop
  | 0, _, _, _, _, _ => False
  | n + 1, S, x1, x2, x3, x4 => (x4 = none → (¬ x3 = 0 → w_X1_holds_125 post G rc0 S 0) ∧ (x3 = 0 → w_X1_holds_125 post G rc0 S 1)) ∧ (∀ b11, x4 = some b11 → rc0 (fun r12 S12 => (¬ r12 = x3 → cs_k S12 b11 = 3 ∧ ∀ r14, r14 = cs_r S12 206 b11 → w_X1_holds_86 post G rc0 n S12 x1 x2 x3 r14) ∧ (r12 = x3 → narrow .boolean (.int x3) = .int x3 ∧ post x3 S12)) S (some b11) x1 (x2 + 1))
section
variable {p : Program} {l : Launch} {e : Env} {s : State} {m : MethodId} {args : Array Value} {below : List Frame} {meth : Method} {c : Code} {P : hw_G} {G : Nat → Nat} {A : Nat → Prop}
set_option maxRecDepth 100000 in
set_option maxHeartbeats 4000000 in
theorem t_X1_holds_86 {dp : Nat}  {rc0 : (Int32 → cs_S → Prop) → cs_S → Option Nat → Option Nat → Int32 → Prop}{post : Int32 → cs_S → Prop} (hC : rf_C P RX1 p s m meth c cX1_holds 5 (some .boolean)) (hin : meth.name = yX1_holds.name) (hO : cs_O G A s s.heap) (hrc0 : ∀ {S : cs_S} {sz : Nat} {a0 : Option Nat} {a1 : Option Nat} {a2 : Int32} {post : Int32 → cs_S → Prop}, rc0 post S a0 a1 a2 → Met l yX1_holds [Cond.code yX1_holds cX1_holds 5 (some .boolean)] (rmg_X1_holds dp) (cs_Pc P G S sz [va_rf a0, va_rf a1, .int a2]) (cs_Qi P (cs_A S sz) post) 0 0 (cs_A S sz)) : ∀ (n : Nat) (S : cs_S) (x1 : Option Nat) (x2 : Int32) (x3 : Int32) (x4 : Option Nat) (H : Heap) (locs : List Loc) (ls : Array Slot), w_X1_holds_86 post G rc0 n S x1 x2 x3 x4 → cs_T P s A S H locs → lv_has ls 5 [(1, va_rf x1), (2, .int x2), (3, .int x3), (4, va_rf x4)] → W p l e (rmg_X1_holds (dp + 1)) s m args below meth c H locs 0 0 (MQ below (cs_Qi P A post) args s 0 0 A) (F0 m 86 ls []) := by
  obtain ⟨hx, hb, hml, hown, hK, -, -⟩ := id hC
  intro n
  induction n with
  | zero => intro S x1 x2 x3 x4 H locs ls h; exact False.elim h
  | succ n ih =>
    intro S x1 x2 x3 x4 H locs ls h hT hl
    refine hw_aload (x := x4) hx hb dX1_holds_86 (lv_at hl 3 rfl) ?_
    refine hw_ifnull (tgt := 116) hx hb dX1_holds_88 (by decide) (fun hc => ?_) (fun b11 hc => ?_)
    · replace h := h.1 hc
      subst hc
      refine lv_iload_n hx hb dX1_holds_116 rfl (lv_at hl 2 rfl) ?_
      refine lv_if_ne (tgt := 124) hx hb dX1_holds_117 (by decide) (fun hc => ?_) (fun hc => ?_)
      · replace h := h.1 hc
        refine lv_iconst (v := 0) hx hb dX1_holds_124 (by decide) ?_
        exact t_X1_holds_125 hC hin hO hrc0 S 0 _ _ _ h hT (lv_sub hl [] rfl)
      · replace h := h.2 hc
        refine lv_iconst (v := 1) hx hb dX1_holds_120 (by decide) ?_
        refine lv_goto (tgt := 125) hx hb dX1_holds_121 (by decide) ?_
        exact t_X1_holds_125 hC hin hO hrc0 S 1 _ _ _ h hT (lv_sub hl [] rfl)
    · replace h := h.2 b11 hc
      subst hc
      refine lv_aload (x := b11) hx hb dX1_holds_91 (lv_at hl 3 rfl) ?_
      refine hw_aload_n (x := x1) hx hb dX1_holds_93 rfl (lv_at hl 0 rfl) ?_
      refine lv_iload_n hx hb dX1_holds_94 rfl (lv_at hl 1 rfl) ?_
      refine lv_iconst (v := 1) hx hb dX1_holds_95 (by decide) ?_
      refine lv_iadd hx hb dX1_holds_96 ?_
      refine cs_calli0 (cs_runS hx hb hml hown hK hO hT (hrc0 h) rfl rfl klX1_36 ki_X1_holds kn_X1 kc_X1_holds 3 ⟨by decide, by decide, by decide +kernel⟩ ⟨by show 2 + dp + 1 ≤ 2 + (dp + 1); omega, by show 8 + (5 + 11) + (49 + 40 * dp) ≤ 49 + 40 * (dp + 1); omega⟩ rfl hl.1 rfl (hw_cat8 (Nat.le_of_ble_eq_true rfl)) ⟨(Nat.le_refl _), (Nat.le_refl _)⟩ dX1_holds_97) hT (fun r12 S12 H locs h_ hT_ => ?_)
      replace h := h_
      replace hT := hT_
      refine lv_iload_n hx hb dX1_holds_100 rfl (lv_at hl 2 rfl) ?_
      refine lv_icmp_ne (tgt := 106) hx hb dX1_holds_101 (by decide) (fun hc => ?_) (fun hc => ?_)
      · replace h := h.1 hc
        refine lv_aload (x := b11) hx hb dX1_holds_106 (lv_at hl 3 rfl) ?_
        obtain ⟨hk13_, h⟩ := h
        refine cs_get hx hb hK hT hown 2 hk13_ (by decide) rfl 6 (by decide) kfX1_33 (v := va_rf (cs_r S12 206 b11)) rfl dX1_holds_108 ?_
        refine hw_topr (fun r14 er14 => ?_)
        replace h := h r14 er14
        refine hw_astore (lv' := [(4, _), (1, _), (2, _), (3, _)]) (x := r14) hx hb dX1_holds_111 hl (by decide) rfl (fun ls hl_ => ?_)
        replace hl := hl_
        refine lv_goto (tgt := 86) hx hb dX1_holds_113 (by decide) ?_
        exact ih S12 x1 x2 x3 r14 _ _ _ h hT (lv_sub hl [1, 2, 3, 0] rfl)
      · replace h := h.2 hc
        refine lv_iload_n hx hb dX1_holds_104 rfl (lv_at hl 2 rfl) ?_
        exact cs_zret hC hT h.1 h.2 dX1_holds_105 (Nat.le_refl _) (Nat.le_refl _)
end
def w_X1_holds_79 (post : Int32 → cs_S → Prop) (G : Nat → Nat) (rc0 : (Int32 → cs_S → Prop) → cs_S → Option Nat → Option Nat → Int32 → Prop) (S : cs_S) (x0 : Option Nat) (x1 : Option Nat) (x2 : Int32) (y0 : Int32) : Prop := ∃ b15, x0 = some b15 ∧ cs_k S b15 = 3 ∧ ∀ r17, r17 = cs_r S 204 b15 → ∃ n9, w_X1_holds_86 post G rc0 n9 S x1 x2 y0 r17
section
variable {p : Program} {l : Launch} {e : Env} {s : State} {m : MethodId} {args : Array Value} {below : List Frame} {meth : Method} {c : Code} {P : hw_G} {G : Nat → Nat} {A : Nat → Prop}
set_option maxRecDepth 100000 in
set_option maxHeartbeats 4000000 in
theorem t_X1_holds_79 {dp : Nat}  {rc0 : (Int32 → cs_S → Prop) → cs_S → Option Nat → Option Nat → Int32 → Prop}{post : Int32 → cs_S → Prop} (hC : rf_C P RX1 p s m meth c cX1_holds 5 (some .boolean)) (hin : meth.name = yX1_holds.name) (hO : cs_O G A s s.heap) (hrc0 : ∀ {S : cs_S} {sz : Nat} {a0 : Option Nat} {a1 : Option Nat} {a2 : Int32} {post : Int32 → cs_S → Prop}, rc0 post S a0 a1 a2 → Met l yX1_holds [Cond.code yX1_holds cX1_holds 5 (some .boolean)] (rmg_X1_holds dp) (cs_Pc P G S sz [va_rf a0, va_rf a1, .int a2]) (cs_Qi P (cs_A S sz) post) 0 0 (cs_A S sz)) (S : cs_S) (x0 : Option Nat) (x1 : Option Nat) (x2 : Int32) (y0 : Int32) (H : Heap) (locs : List Loc) (ls : Array Slot) (h : w_X1_holds_79 post G rc0 S x0 x1 x2 y0) (hT : cs_T P s A S H locs) (hl : lv_has ls 5 [(0, va_rf x0), (1, va_rf x1), (2, .int x2)]) : W p l e (rmg_X1_holds (dp + 1)) s m args below meth c H locs 0 0 (MQ below (cs_Qi P A post) args s 0 0 A) (F0 m 79 ls [.int y0]) := by
  obtain ⟨hx, hb, hml, hown, hK, -, -⟩ := id hC
  refine lv_istore_n (lv' := [(3, _), (0, _), (1, _), (2, _)]) hx hb dX1_holds_79 rfl hl (by decide) rfl (fun ls hl_ => ?_)
  replace hl := hl_
  refine hw_aload_n (x := x0) hx hb dX1_holds_80 rfl (lv_at hl 1 rfl) ?_
  obtain ⟨b15, rfl, h⟩ := h
  obtain ⟨hk16_, h⟩ := h
  refine cs_get hx hb hK hT hown 2 hk16_ (by decide) rfl 4 (by decide) kfX1_30 (v := va_rf (cs_r S 204 b15)) rfl dX1_holds_81 ?_
  refine hw_topr (fun r17 er17 => ?_)
  replace h := h r17 er17
  refine hw_astore (lv' := [(4, _), (3, _), (0, _), (1, _), (2, _)]) (x := r17) hx hb dX1_holds_84 hl (by decide) rfl (fun ls hl_ => ?_)
  replace hl := hl_
  obtain ⟨n9, h⟩ := h
  exact t_X1_holds_86 hC hin hO hrc0 n9 S x1 x2 y0 r17 _ _ _ h hT (lv_sub hl [3, 4, 1, 0] rfl)
end
def w_X1_holds_65 (post : Int32 → cs_S → Prop) (G : Nat → Nat) (rc0 : (Int32 → cs_S → Prop) → cs_S → Option Nat → Option Nat → Int32 → Prop) (S : cs_S) (x0 : Option Nat) (x1 : Option Nat) (x2 : Int32) : Prop := ∃ b18, x0 = some b18 ∧ cs_k S b18 = 3 ∧ (¬ (cs_i S 200 b18) = 32 → w_X1_holds_79 post G rc0 S (some b18) x1 x2 0) ∧ ((cs_i S 200 b18) = 32 → w_X1_holds_79 post G rc0 S (some b18) x1 x2 1)
section
variable {p : Program} {l : Launch} {e : Env} {s : State} {m : MethodId} {args : Array Value} {below : List Frame} {meth : Method} {c : Code} {P : hw_G} {G : Nat → Nat} {A : Nat → Prop}
set_option maxRecDepth 100000 in
set_option maxHeartbeats 4000000 in
theorem t_X1_holds_65 {dp : Nat}  {rc0 : (Int32 → cs_S → Prop) → cs_S → Option Nat → Option Nat → Int32 → Prop}{post : Int32 → cs_S → Prop} (hC : rf_C P RX1 p s m meth c cX1_holds 5 (some .boolean)) (hin : meth.name = yX1_holds.name) (hO : cs_O G A s s.heap) (hrc0 : ∀ {S : cs_S} {sz : Nat} {a0 : Option Nat} {a1 : Option Nat} {a2 : Int32} {post : Int32 → cs_S → Prop}, rc0 post S a0 a1 a2 → Met l yX1_holds [Cond.code yX1_holds cX1_holds 5 (some .boolean)] (rmg_X1_holds dp) (cs_Pc P G S sz [va_rf a0, va_rf a1, .int a2]) (cs_Qi P (cs_A S sz) post) 0 0 (cs_A S sz)) (S : cs_S) (x0 : Option Nat) (x1 : Option Nat) (x2 : Int32) (H : Heap) (locs : List Loc) (ls : Array Slot) (h : w_X1_holds_65 post G rc0 S x0 x1 x2) (hT : cs_T P s A S H locs) (hl : lv_has ls 5 [(0, va_rf x0), (1, va_rf x1), (2, .int x2)]) : W p l e (rmg_X1_holds (dp + 1)) s m args below meth c H locs 0 0 (MQ below (cs_Qi P A post) args s 0 0 A) (F0 m 65 ls []) := by
  obtain ⟨hx, hb, hml, hown, hK, -, -⟩ := id hC
  refine hw_aload_n (x := x0) hx hb dX1_holds_65 rfl (lv_at hl 0 rfl) ?_
  obtain ⟨b18, rfl, h⟩ := h
  obtain ⟨hk19_, h⟩ := h
  refine cs_get hx hb hK hT hown 2 hk19_ (by decide) rfl 0 (by decide) kfX1_9 (v := .int (cs_i S 200 b18)) rfl dX1_holds_66 ?_
  refine lv_bipush (v := 32) hx hb dX1_holds_69 (by decide) ?_
  refine lv_icmp_ne (tgt := 78) hx hb dX1_holds_71 (by decide) (fun hc => ?_) (fun hc => ?_)
  · replace h := h.1 hc
    refine lv_iconst (v := 0) hx hb dX1_holds_78 (by decide) ?_
    exact t_X1_holds_79 hC hin hO hrc0 S (some b18) x1 x2 0 _ _ _ h hT (lv_sub hl [0, 1, 2] rfl)
  · replace h := h.2 hc
    refine lv_iconst (v := 1) hx hb dX1_holds_74 (by decide) ?_
    refine lv_goto (tgt := 79) hx hb dX1_holds_75 (by decide) ?_
    exact t_X1_holds_79 hC hin hO hrc0 S (some b18) x1 x2 1 _ _ _ h hT (lv_sub hl [0, 1, 2] rfl)
end
def w_X1_holds_40 (post : Int32 → cs_S → Prop) (G : Nat → Nat) (rc0 : (Int32 → cs_S → Prop) → cs_S → Option Nat → Option Nat → Int32 → Prop) (S : cs_S) (y0 : Int32) : Prop := narrow .boolean (.int y0) = .int y0 ∧ post y0 S
section
variable {p : Program} {l : Launch} {e : Env} {s : State} {m : MethodId} {args : Array Value} {below : List Frame} {meth : Method} {c : Code} {P : hw_G} {G : Nat → Nat} {A : Nat → Prop}
set_option maxRecDepth 100000 in
set_option maxHeartbeats 4000000 in
theorem t_X1_holds_40 {dp : Nat}  {rc0 : (Int32 → cs_S → Prop) → cs_S → Option Nat → Option Nat → Int32 → Prop}{post : Int32 → cs_S → Prop} (hC : rf_C P RX1 p s m meth c cX1_holds 5 (some .boolean)) (hin : meth.name = yX1_holds.name) (hO : cs_O G A s s.heap) (hrc0 : ∀ {S : cs_S} {sz : Nat} {a0 : Option Nat} {a1 : Option Nat} {a2 : Int32} {post : Int32 → cs_S → Prop}, rc0 post S a0 a1 a2 → Met l yX1_holds [Cond.code yX1_holds cX1_holds 5 (some .boolean)] (rmg_X1_holds dp) (cs_Pc P G S sz [va_rf a0, va_rf a1, .int a2]) (cs_Qi P (cs_A S sz) post) 0 0 (cs_A S sz)) (S : cs_S) (y0 : Int32) (H : Heap) (locs : List Loc) (ls : Array Slot) (h : w_X1_holds_40 post G rc0 S y0) (hT : cs_T P s A S H locs) (hl : lv_has ls 5 []) : W p l e (rmg_X1_holds (dp + 1)) s m args below meth c H locs 0 0 (MQ below (cs_Qi P A post) args s 0 0 A) (F0 m 40 ls [.int y0]) := by
  obtain ⟨hx, hb, hml, hown, hK, -, -⟩ := id hC
  exact cs_zret hC hT h.1 h.2 dX1_holds_40 (Nat.le_refl _) (Nat.le_refl _)
end
def wpb_X1_holds (post : Int32 → cs_S → Prop) (G : Nat → Nat) (rc0 : (Int32 → cs_S → Prop) → cs_S → Option Nat → Option Nat → Int32 → Prop) (S : cs_S) (p0 : Option Nat) (p1 : Option Nat) (p2 : Int32) : Prop := (p0 = none → w_X1_holds_10 post G rc0 S) ∧ (∀ b20, p0 = some b20 → (p2 ≤ 40 → cs_k S b20 = 3 ∧ (¬ (cs_i S 200 b20) = 34 → ((cs_i S 200 b20) = 32 → w_X1_holds_65 post G rc0 S (some b20) p1 p2) ∧ (¬ (cs_i S 200 b20) = 32 → ((cs_i S 200 b20) = 33 → w_X1_holds_65 post G rc0 S (some b20) p1 p2) ∧ (¬ (cs_i S 200 b20) = 33 → wp_X1_fits (fun r22 S22 => narrow .boolean (.int r22) = .int r22 ∧ post r22 S22) G S b20 p1))) ∧ ((cs_i S 200 b20) = 34 → ∀ r23, r23 = cs_r S 204 b20 → rc0 (fun r24 S24 => (¬ r24 = 0 → w_X1_holds_40 post G rc0 S24 0) ∧ (r24 = 0 → w_X1_holds_40 post G rc0 S24 1)) S r23 p1 (p2 + 1))) ∧ (¬ p2 ≤ 40 → w_X1_holds_10 post G rc0 S))
set_option maxRecDepth 100000 in
set_option maxHeartbeats 4000000 in
theorem cb_X1_holds {l : Launch} {P : hw_G} {G : Nat → Nat} {dp : Nat} {rc0 : (Int32 → cs_S → Prop) → cs_S → Option Nat → Option Nat → Int32 → Prop} (hrc0 : ∀ {S : cs_S} {sz : Nat} {a0 : Option Nat} {a1 : Option Nat} {a2 : Int32} {post : Int32 → cs_S → Prop}, rc0 post S a0 a1 a2 → Met l yX1_holds [Cond.code yX1_holds cX1_holds 5 (some .boolean)] (rmg_X1_holds dp) (cs_Pc P G S sz [va_rf a0, va_rf a1, .int a2]) (cs_Qi P (cs_A S sz) post) 0 0 (cs_A S sz)) {S : cs_S} {sz : Nat} {p0 : Option Nat} {p1 : Option Nat} {p2 : Int32} {post : Int32 → cs_S → Prop} (h : wpb_X1_holds post G rc0 S p0 p1 p2) : Met l yX1_holds [Cond.code yX1_holds cX1_holds 5 (some .boolean)] (rmg_X1_holds (dp + 1)) (cs_Pc P G S sz [va_rf p0, va_rf p1, .int p2]) (cs_Qi P (cs_A S sz) post) 0 0 (cs_A S sz) := by
  refine cs_met (by decide) rfl (by cases p0 <;> cases p1 <;> exact Nat.le_of_ble_eq_true rfl) ?_
  intro p e s m below meth c ls hC hin hO hT hl
  obtain ⟨hx, hb, hml, hown, hK, -, -⟩ := id hC
  replace hl : lv_has ls 5 [(0, va_rf p0), (1, va_rf p1), (2, .int p2)] := by cases p0 <;> cases p1 <;> exact hl
  refine hw_aload_n (x := p0) hx hb dX1_holds_0 rfl (lv_at hl 0 rfl) ?_
  refine hw_ifnull (tgt := 10) hx hb dX1_holds_1 (by decide) (fun hc => ?_) (fun b20 hc => ?_)
  · replace h := h.1 hc
    subst hc
    exact t_X1_holds_10 hC hin hO hrc0 S _ _ _ h hT (lv_sub hl [] rfl)
  · replace h := h.2 b20 hc
    subst hc
    refine lv_iload_n hx hb dX1_holds_4 rfl (lv_at hl 2 rfl) ?_
    refine lv_bipush (v := 40) hx hb dX1_holds_5 (by decide) ?_
    refine lv_icmp_le (tgt := 12) hx hb dX1_holds_7 (by decide) (fun hc => ?_) (fun hc => ?_)
    · replace h := h.1 hc
      refine lv_aload_n (x := b20) hx hb dX1_holds_12 rfl (lv_at hl 0 rfl) ?_
      obtain ⟨hk21_, h⟩ := h
      refine cs_get hx hb hK hT hown 2 hk21_ (by decide) rfl 0 (by decide) kfX1_9 (v := .int (cs_i S 200 b20)) rfl dX1_holds_13 ?_
      refine lv_bipush (v := 34) hx hb dX1_holds_16 (by decide) ?_
      refine lv_icmp_ne (tgt := 41) hx hb dX1_holds_18 (by decide) (fun hc => ?_) (fun hc => ?_)
      · replace h := h.1 hc
        refine lv_aload_n (x := b20) hx hb dX1_holds_41 rfl (lv_at hl 0 rfl) ?_
        refine cs_get hx hb hK hT hown 2 hk21_ (by decide) rfl 0 (by decide) kfX1_9 (v := .int (cs_i S 200 b20)) rfl dX1_holds_42 ?_
        refine lv_bipush (v := 32) hx hb dX1_holds_45 (by decide) ?_
        refine lv_icmp_eq (tgt := 65) hx hb dX1_holds_47 (by decide) (fun hc => ?_) (fun hc => ?_)
        · replace h := h.1 hc
          exact t_X1_holds_65 hC hin hO hrc0 S (some b20) p1 p2 _ _ _ h hT (lv_sub hl [0, 1, 2] rfl)
        · replace h := h.2 hc
          refine lv_aload_n (x := b20) hx hb dX1_holds_50 rfl (lv_at hl 0 rfl) ?_
          refine cs_get hx hb hK hT hown 2 hk21_ (by decide) rfl 0 (by decide) kfX1_9 (v := .int (cs_i S 200 b20)) rfl dX1_holds_51 ?_
          refine lv_bipush (v := 33) hx hb dX1_holds_54 (by decide) ?_
          refine lv_icmp_eq (tgt := 65) hx hb dX1_holds_56 (by decide) (fun hc => ?_) (fun hc => ?_)
          · replace h := h.1 hc
            exact t_X1_holds_65 hC hin hO hrc0 S (some b20) p1 p2 _ _ _ h hT (lv_sub hl [0, 1, 2] rfl)
          · replace h := h.2 hc
            refine lv_aload_n (x := b20) hx hb dX1_holds_59 rfl (lv_at hl 0 rfl) ?_
            refine hw_aload_n (x := p1) hx hb dX1_holds_60 rfl (lv_at hl 1 rfl) ?_
            refine cs_calli0 (cs_runV hx hb hml hown hK hO hT 2 hk21_ (by decide) rfl (c_X1_fits h) rfl rfl klX1_40 ki_X1_fits ks_X1_fits kn_X1 kc_X1_fits 1 ⟨rfl, by decide, by decide, by decide +kernel⟩ ⟨by show 1 + 1 ≤ 2 + (dp + 1); omega, by show 8 + (3 + 11) + 27 ≤ 49 + 40 * (dp + 1); omega⟩ rfl hl.1 rfl (hw_cat8 (Nat.le_of_ble_eq_true rfl)) ⟨(Nat.le_refl _), (Nat.le_refl _)⟩ dX1_holds_61) hT (fun r22 S22 H locs h_ hT_ => ?_)
            replace h := h_
            replace hT := hT_
            exact cs_zret hC hT h.1 h.2 dX1_holds_64 (Nat.le_refl _) (Nat.le_refl _)
      · replace h := h.2 hc
        refine lv_aload_n (x := b20) hx hb dX1_holds_21 rfl (lv_at hl 0 rfl) ?_
        refine cs_get hx hb hK hT hown 2 hk21_ (by decide) rfl 4 (by decide) kfX1_30 (v := va_rf (cs_r S 204 b20)) rfl dX1_holds_22 ?_
        refine hw_topr (fun r23 er23 => ?_)
        replace h := h r23 er23
        refine hw_aload_n (x := p1) hx hb dX1_holds_25 rfl (lv_at hl 1 rfl) ?_
        refine lv_iload_n hx hb dX1_holds_26 rfl (lv_at hl 2 rfl) ?_
        refine lv_iconst (v := 1) hx hb dX1_holds_27 (by decide) ?_
        refine lv_iadd hx hb dX1_holds_28 ?_
        refine cs_calli0 (cs_runS hx hb hml hown hK hO hT (hrc0 h) rfl rfl klX1_36 ki_X1_holds kn_X1 kc_X1_holds 3 ⟨by decide, by decide, by decide +kernel⟩ ⟨by show 2 + dp + 1 ≤ 2 + (dp + 1); omega, by show 8 + (5 + 11) + (49 + 40 * dp) ≤ 49 + 40 * (dp + 1); omega⟩ rfl hl.1 rfl (hw_cat8 (Nat.le_of_ble_eq_true rfl)) ⟨(Nat.le_refl _), (Nat.le_refl _)⟩ dX1_holds_29) hT (fun r24 S24 H locs h_ hT_ => ?_)
        replace h := h_
        replace hT := hT_
        refine lv_if_ne (tgt := 39) hx hb dX1_holds_32 (by decide) (fun hc => ?_) (fun hc => ?_)
        · replace h := h.1 hc
          refine lv_iconst (v := 0) hx hb dX1_holds_39 (by decide) ?_
          exact t_X1_holds_40 hC hin hO hrc0 S24 0 _ _ _ h hT (lv_sub hl [] rfl)
        · replace h := h.2 hc
          refine lv_iconst (v := 1) hx hb dX1_holds_35 (by decide) ?_
          refine lv_goto (tgt := 40) hx hb dX1_holds_36 (by decide) ?_
          exact t_X1_holds_40 hC hin hO hrc0 S24 1 _ _ _ h hT (lv_sub hl [] rfl)
    · replace h := h.2 hc
      exact t_X1_holds_10 hC hin hO hrc0 S _ _ _ h hT (lv_sub hl [] rfl)
def wp_X1_holds : Nat → (Int32 → cs_S → Prop) → (Nat → Nat) → cs_S → Option Nat → Option Nat → Int32 → Prop
  | 0, _, _, _, _, _, _ => False
  | d + 1, post, G, S, a0, a1, a2 => wpb_X1_holds post G (fun post S a0 a1 a2 => wp_X1_holds d post G S a0 a1 a2) S a0 a1 a2
theorem c_X1_holds {l : Launch} {P : hw_G} {G : Nat → Nat} (d : Nat) : ∀ {S : cs_S} {sz : Nat} {a0 : Option Nat} {a1 : Option Nat} {a2 : Int32} {post : Int32 → cs_S → Prop}, wp_X1_holds d post G S a0 a1 a2 → Met l yX1_holds [Cond.code yX1_holds cX1_holds 5 (some .boolean)] (rmg_X1_holds d) (cs_Pc P G S sz [va_rf a0, va_rf a1, .int a2]) (cs_Qi P (cs_A S sz) post) 0 0 (cs_A S sz) := by
  induction d with
  | zero => intro S sz a0 a1 a2 post h; exact False.elim h
  | succ d ih =>
    intro S sz a0 a1 a2 post h
    exact cb_X1_holds (fun h => ih h) h
/-! X2_init -/
abbrev rm_X2_init : Room := { frames := 1, cells := 0, slots := 0, locals := 24 }
def wp_X2_init (post : cs_S → Prop) (G : Nat → Nat) (S : cs_S) (o : Nat) (p1 : Option Nat) (p2 : Option Nat) (p3 : Int32) (p4 : Option Nat) : Prop := cs_k S o = 4 ∧ ∀ S10, S10 = cs_ur S 300 o p1 → cs_k S10 o = 4 ∧ ∀ S12, S12 = cs_ur S10 301 o p2 → cs_k S12 o = 4 ∧ ∀ S14, S14 = cs_ui S12 302 o p3 → cs_k S14 o = 4 ∧ ∀ S16, S16 = cs_ur S14 303 o p4 → post S16
set_option maxRecDepth 100000 in
set_option maxHeartbeats 4000000 in
theorem c_X2_init {l : Launch} {P : hw_G} {G : Nat → Nat} {S : cs_S} {sz : Nat} {o : Nat} {p1 : Option Nat} {p2 : Option Nat} {p3 : Int32} {p4 : Option Nat} {post : cs_S → Prop} (h : wp_X2_init post G S o p1 p2 p3 p4) : Met l yX2_init [Cond.code yX2_init cX2_init 5 none] rm_X2_init (cs_Pc P G S sz [.ref o, va_rf p1, va_rf p2, .int p3, va_rf p4]) (cs_Qv P (cs_A S sz) post) 0 0 (cs_A S sz) := by
  refine cs_met (by decide) rfl (by cases p1 <;> cases p2 <;> cases p4 <;> exact Nat.le_of_ble_eq_true rfl) ?_
  intro p e s m below meth c ls hC hin hO hT hl
  obtain ⟨hx, hb, hml, hown, hK, -, -⟩ := id hC
  replace hl : lv_has ls 5 [(0, .ref o), (1, va_rf p1), (2, va_rf p2), (3, .int p3), (4, va_rf p4)] := by cases p1 <;> cases p2 <;> cases p4 <;> exact hl
  refine lv_aload_n (x := o) hx hb dX2_init_0 rfl (lv_at hl 0 rfl) ?_
  refine cs_objInit hx hb hml hown hK hl.1 klX2_1 ki_obj kc_obj dX2_init_1 (Nat.le_of_ble_eq_true rfl) (hw_catN (Nat.le_of_ble_eq_true rfl) (Nat.le_of_ble_eq_true rfl)) ?_
  refine lv_aload_n (x := o) hx hb dX2_init_4 rfl (lv_at hl 0 rfl) ?_
  refine hw_aload_n (x := p1) hx hb dX2_init_5 rfl (lv_at hl 1 rfl) ?_
  obtain ⟨hk9_, h⟩ := h
  refine cs_putFr (x := p1) hx hb hK hT hown hin 3 hk9_ (by decide) rfl 0 (by decide) kfX2_7 rfl rfl (tyX2_ok 0 (by decide)) rfl 300 rfl dX2_init_6 (fun H locs hT_ => ?_)
  replace hT := hT_
  obtain ⟨S10, eS10⟩ : ∃ z, z = cs_ur S 300 o p1 := ⟨_, rfl⟩
  rw [← eS10] at hT
  replace h := h S10 eS10
  refine lv_aload_n (x := o) hx hb dX2_init_9 rfl (lv_at hl 0 rfl) ?_
  refine hw_aload_n (x := p2) hx hb dX2_init_10 rfl (lv_at hl 2 rfl) ?_
  obtain ⟨hk11_, h⟩ := h
  refine cs_putFr (x := p2) hx hb hK hT hown hin 3 hk11_ (by decide) rfl 1 (by decide) kfX2_13 rfl rfl (tyX2_ok 1 (by decide)) rfl 301 rfl dX2_init_11 (fun H locs hT_ => ?_)
  replace hT := hT_
  obtain ⟨S12, eS12⟩ : ∃ z, z = cs_ur S10 301 o p2 := ⟨_, rfl⟩
  rw [← eS12] at hT
  replace h := h S12 eS12
  refine lv_aload_n (x := o) hx hb dX2_init_14 rfl (lv_at hl 0 rfl) ?_
  refine lv_iload_n hx hb dX2_init_15 rfl (lv_at hl 3 rfl) ?_
  obtain ⟨hk13_, h⟩ := h
  refine cs_putFi (x := p3) hx hb hK hT hown hin 3 hk13_ (by decide) rfl 2 (by decide) kfX2_17 rfl rfl (tyX2_ok 2 (by decide)) rfl 302 rfl dX2_init_16 (fun H locs hT_ => ?_)
  replace hT := hT_
  obtain ⟨S14, eS14⟩ : ∃ z, z = cs_ui S12 302 o p3 := ⟨_, rfl⟩
  rw [← eS14] at hT
  replace h := h S14 eS14
  refine lv_aload_n (x := o) hx hb dX2_init_19 rfl (lv_at hl 0 rfl) ?_
  refine hw_aload (x := p4) hx hb dX2_init_20 (lv_at hl 4 rfl) ?_
  obtain ⟨hk15_, h⟩ := h
  refine cs_putFr (x := p4) hx hb hK hT hown hin 3 hk15_ (by decide) rfl 3 (by decide) kfX2_21 rfl rfl (tyX2_ok 3 (by decide)) rfl 303 rfl dX2_init_22 (fun H locs hT_ => ?_)
  replace hT := hT_
  obtain ⟨S16, eS16⟩ : ∃ z, z = cs_ur S14 303 o p4 := ⟨_, rfl⟩
  rw [← eS16] at hT
  replace h := h S16 eS16
  exact cs_vret hC hT h dX2_init_25 (Nat.le_refl _) (Nat.le_refl _)
/-! X3_init -/
abbrev rm_X3_init : Room := { frames := 1, cells := 0, slots := 0, locals := 24 }
def wp_X3_init (post : cs_S → Prop) (G : Nat → Nat) (S : cs_S) (o : Nat) (p1 : Int32) (p2 : Int64) (p4 : Int32) (p5 : Option Nat) (p6 : Option Nat) : Prop := cs_k S o = 5 ∧ ∀ S12, S12 = cs_ui S 400 o p1 → cs_k S12 o = 5 ∧ ∀ S14, S14 = cs_ul S12 401 o p2 → cs_k S14 o = 5 ∧ ∀ S16, S16 = cs_ui S14 402 o p4 → cs_k S16 o = 5 ∧ ∀ S18, S18 = cs_ur S16 403 o p5 → cs_k S18 o = 5 ∧ ∀ S20, S20 = cs_ur S18 404 o p6 → post S20
set_option maxRecDepth 100000 in
set_option maxHeartbeats 4000000 in
theorem c_X3_init {l : Launch} {P : hw_G} {G : Nat → Nat} {S : cs_S} {sz : Nat} {o : Nat} {p1 : Int32} {p2 : Int64} {p4 : Int32} {p5 : Option Nat} {p6 : Option Nat} {post : cs_S → Prop} (h : wp_X3_init post G S o p1 p2 p4 p5 p6) : Met l yX3_init [Cond.code yX3_init cX3_init 7 none] rm_X3_init (cs_Pc P G S sz [.ref o, .int p1, .long p2, .int p4, va_rf p5, va_rf p6]) (cs_Qv P (cs_A S sz) post) 0 0 (cs_A S sz) := by
  refine cs_met (by decide) rfl (by cases p5 <;> cases p6 <;> exact Nat.le_of_ble_eq_true rfl) ?_
  intro p e s m below meth c ls hC hin hO hT hl
  obtain ⟨hx, hb, hml, hown, hK, -, -⟩ := id hC
  replace hl : lv_has ls 7 [(0, .ref o), (1, .int p1), (2, .long p2), (4, .int p4), (5, va_rf p5), (6, va_rf p6)] := by cases p5 <;> cases p6 <;> exact hl
  refine lv_aload_n (x := o) hx hb dX3_init_0 rfl (lv_at hl 0 rfl) ?_
  refine cs_objInit hx hb hml hown hK hl.1 klX3_1 ki_obj kc_obj dX3_init_1 (Nat.le_of_ble_eq_true rfl) (hw_catN (Nat.le_of_ble_eq_true rfl) (Nat.le_of_ble_eq_true rfl)) ?_
  refine lv_aload_n (x := o) hx hb dX3_init_4 rfl (lv_at hl 0 rfl) ?_
  refine lv_iload_n hx hb dX3_init_5 rfl (lv_at hl 1 rfl) ?_
  obtain ⟨hk11_, h⟩ := h
  refine cs_putFi (x := p1) hx hb hK hT hown hin 4 hk11_ (by decide) rfl 0 (by decide) kfX3_7 rfl rfl (tyX3_ok 0 (by decide)) rfl 400 rfl dX3_init_6 (fun H locs hT_ => ?_)
  replace hT := hT_
  obtain ⟨S12, eS12⟩ : ∃ z, z = cs_ui S 400 o p1 := ⟨_, rfl⟩
  rw [← eS12] at hT
  replace h := h S12 eS12
  refine lv_aload_n (x := o) hx hb dX3_init_9 rfl (lv_at hl 0 rfl) ?_
  refine lv_lload_n hx hb dX3_init_10 rfl (lv_at hl 2 rfl) ?_
  obtain ⟨hk13_, h⟩ := h
  refine cs_putFl (x := p2) hx hb hK hT hown hin 4 hk13_ (by decide) rfl 1 (by decide) kfX3_13 rfl rfl (tyX3_ok 1 (by decide)) rfl 401 rfl dX3_init_11 (fun H locs hT_ => ?_)
  replace hT := hT_
  obtain ⟨S14, eS14⟩ : ∃ z, z = cs_ul S12 401 o p2 := ⟨_, rfl⟩
  rw [← eS14] at hT
  replace h := h S14 eS14
  refine lv_aload_n (x := o) hx hb dX3_init_14 rfl (lv_at hl 0 rfl) ?_
  refine lv_iload hx hb dX3_init_15 (lv_at hl 3 rfl) ?_
  obtain ⟨hk15_, h⟩ := h
  refine cs_putFi (x := p4) hx hb hK hT hown hin 4 hk15_ (by decide) rfl 2 (by decide) kfX3_17 rfl rfl (tyX3_ok 2 (by decide)) rfl 402 rfl dX3_init_17 (fun H locs hT_ => ?_)
  replace hT := hT_
  obtain ⟨S16, eS16⟩ : ∃ z, z = cs_ui S14 402 o p4 := ⟨_, rfl⟩
  rw [← eS16] at hT
  replace h := h S16 eS16
  refine lv_aload_n (x := o) hx hb dX3_init_20 rfl (lv_at hl 0 rfl) ?_
  refine hw_aload (x := p5) hx hb dX3_init_21 (lv_at hl 4 rfl) ?_
  obtain ⟨hk17_, h⟩ := h
  refine cs_putFr (x := p5) hx hb hK hT hown hin 4 hk17_ (by decide) rfl 3 (by decide) kfX3_20 rfl rfl (tyX3_ok 3 (by decide)) rfl 403 rfl dX3_init_23 (fun H locs hT_ => ?_)
  replace hT := hT_
  obtain ⟨S18, eS18⟩ : ∃ z, z = cs_ur S16 403 o p5 := ⟨_, rfl⟩
  rw [← eS18] at hT
  replace h := h S18 eS18
  refine lv_aload_n (x := o) hx hb dX3_init_26 rfl (lv_at hl 0 rfl) ?_
  refine hw_aload (x := p6) hx hb dX3_init_27 (lv_at hl 5 rfl) ?_
  obtain ⟨hk19_, h⟩ := h
  refine cs_putFr (x := p6) hx hb hK hT hown hin 4 hk19_ (by decide) rfl 4 (by decide) kfX3_24 rfl rfl (tyX3_ok 4 (by decide)) rfl 404 rfl dX3_init_29 (fun H locs hT_ => ?_)
  replace hT := hT_
  obtain ⟨S20, eS20⟩ : ∃ z, z = cs_ur S18 404 o p6 := ⟨_, rfl⟩
  rw [← eS20] at hT
  replace h := h S20 eS20
  exact cs_vret hC hT h dX3_init_32 (Nat.le_refl _) (Nat.le_refl _)
/-! X4_init -/
abbrev rm_X4_init : Room := { frames := 1, cells := 0, slots := 0, locals := 24 }
def wp_X4_init (post : cs_S → Prop) (G : Nat → Nat) (S : cs_S) (o : Nat) (p1 : Option Nat) (p2 : Int32) (p3 : Option Nat) : Prop := cs_k S o = 6 ∧ ∀ S10, S10 = cs_ur S 500 o p1 → cs_k S10 o = 6 ∧ ∀ S12, S12 = cs_ui S10 501 o p2 → cs_k S12 o = 6 ∧ ∀ S14, S14 = cs_ur S12 502 o p3 → cs_k S14 o = 6 ∧ ∀ S16, S16 = cs_ui S14 503 o ((-1)) → post S16
set_option maxRecDepth 100000 in
set_option maxHeartbeats 4000000 in
theorem c_X4_init {l : Launch} {P : hw_G} {G : Nat → Nat} {S : cs_S} {sz : Nat} {o : Nat} {p1 : Option Nat} {p2 : Int32} {p3 : Option Nat} {post : cs_S → Prop} (h : wp_X4_init post G S o p1 p2 p3) : Met l yX4_init [Cond.code yX4_init cX4_init 4 none] rm_X4_init (cs_Pc P G S sz [.ref o, va_rf p1, .int p2, va_rf p3]) (cs_Qv P (cs_A S sz) post) 0 0 (cs_A S sz) := by
  refine cs_met (by decide) rfl (by cases p1 <;> cases p3 <;> exact Nat.le_of_ble_eq_true rfl) ?_
  intro p e s m below meth c ls hC hin hO hT hl
  obtain ⟨hx, hb, hml, hown, hK, -, -⟩ := id hC
  replace hl : lv_has ls 4 [(0, .ref o), (1, va_rf p1), (2, .int p2), (3, va_rf p3)] := by cases p1 <;> cases p3 <;> exact hl
  refine lv_aload_n (x := o) hx hb dX4_init_0 rfl (lv_at hl 0 rfl) ?_
  refine cs_objInit hx hb hml hown hK hl.1 klX4_3 ki_obj kc_obj dX4_init_1 (Nat.le_of_ble_eq_true rfl) (hw_catN (Nat.le_of_ble_eq_true rfl) (Nat.le_of_ble_eq_true rfl)) ?_
  refine lv_aload_n (x := o) hx hb dX4_init_4 rfl (lv_at hl 0 rfl) ?_
  refine hw_aload_n (x := p1) hx hb dX4_init_5 rfl (lv_at hl 1 rfl) ?_
  obtain ⟨hk9_, h⟩ := h
  refine cs_putFr (x := p1) hx hb hK hT hown hin 5 hk9_ (by decide) rfl 0 (by decide) kfX4_9 rfl rfl (tyX4_ok 0 (by decide)) rfl 500 rfl dX4_init_6 (fun H locs hT_ => ?_)
  replace hT := hT_
  obtain ⟨S10, eS10⟩ : ∃ z, z = cs_ur S 500 o p1 := ⟨_, rfl⟩
  rw [← eS10] at hT
  replace h := h S10 eS10
  refine lv_aload_n (x := o) hx hb dX4_init_9 rfl (lv_at hl 0 rfl) ?_
  refine lv_iload_n hx hb dX4_init_10 rfl (lv_at hl 2 rfl) ?_
  obtain ⟨hk11_, h⟩ := h
  refine cs_putFi (x := p2) hx hb hK hT hown hin 5 hk11_ (by decide) rfl 1 (by decide) kfX4_15 rfl rfl (tyX4_ok 1 (by decide)) rfl 501 rfl dX4_init_11 (fun H locs hT_ => ?_)
  replace hT := hT_
  obtain ⟨S12, eS12⟩ : ∃ z, z = cs_ui S10 501 o p2 := ⟨_, rfl⟩
  rw [← eS12] at hT
  replace h := h S12 eS12
  refine lv_aload_n (x := o) hx hb dX4_init_14 rfl (lv_at hl 0 rfl) ?_
  refine hw_aload_n (x := p3) hx hb dX4_init_15 rfl (lv_at hl 3 rfl) ?_
  obtain ⟨hk13_, h⟩ := h
  refine cs_putFr (x := p3) hx hb hK hT hown hin 5 hk13_ (by decide) rfl 2 (by decide) kfX4_19 rfl rfl (tyX4_ok 2 (by decide)) rfl 502 rfl dX4_init_16 (fun H locs hT_ => ?_)
  replace hT := hT_
  obtain ⟨S14, eS14⟩ : ∃ z, z = cs_ur S12 502 o p3 := ⟨_, rfl⟩
  rw [← eS14] at hT
  replace h := h S14 eS14
  refine lv_aload_n (x := o) hx hb dX4_init_19 rfl (lv_at hl 0 rfl) ?_
  refine lv_iconst (v := (-1)) hx hb dX4_init_20 (by decide) ?_
  obtain ⟨hk15_, h⟩ := h
  refine cs_puti (x := ((-1))) hx hb hK hT hown 5 hk15_ (by decide) rfl 3 (by decide) kfX4_23 rfl (tyX4_ok 3 (by decide)) rfl 503 rfl dX4_init_21 (fun H locs hT_ => ?_)
  replace hT := hT_
  obtain ⟨S16, eS16⟩ : ∃ z, z = cs_ui S14 503 o ((-1)) := ⟨_, rfl⟩
  rw [← eS16] at hT
  replace h := h S16 eS16
  exact cs_vret hC hT h dX4_init_24 (Nat.le_refl _) (Nat.le_refl _)
/-! X4_valueAt -/
abbrev rm_X4_valueAt : Room := { frames := 0, cells := 0, slots := 0, locals := 0 }
def w_X4_valueAt_23 (post : Option Nat → cs_S → Prop) (G : Nat → Nat) (S : cs_S) (y0 : Option Nat) : Prop := post y0 S
section
variable {p : Program} {l : Launch} {e : Env} {s : State} {m : MethodId} {args : Array Value} {below : List Frame} {meth : Method} {c : Code} {P : hw_G} {G : Nat → Nat} {A : Nat → Prop}
set_option maxRecDepth 100000 in
set_option maxHeartbeats 4000000 in
theorem t_X4_valueAt_23 {post : Option Nat → cs_S → Prop} (hC : rf_C P RX4 p s m meth c cX4_valueAt 2 (some (.object "WatchHouse$Value"))) (hin : meth.name = yX4_valueAt.name) (hO : cs_O G A s s.heap) (S : cs_S) (y0 : Option Nat) (H : Heap) (locs : List Loc) (ls : Array Slot) (h : w_X4_valueAt_23 post G S y0) (hT : cs_T P s A S H locs) (hl : lv_has ls 2 []) : W p l e rm_X4_valueAt s m args below meth c H locs 0 0 (MQ below (cs_Qr P A post) args s 0 0 A) (F0 m 23 ls [va_rf y0]) := by
  obtain ⟨hx, hb, hml, hown, hK, -, -⟩ := id hC
  exact cs_aret (v := y0) hC (Or.inl ⟨_, rfl⟩) hT h dX4_valueAt_23 (Nat.le_refl _) (Nat.le_refl _)
end
def w_X4_valueAt_13 (post : Option Nat → cs_S → Prop) (G : Nat → Nat) (S : cs_S)  : Prop := w_X4_valueAt_23 post G S none
section
variable {p : Program} {l : Launch} {e : Env} {s : State} {m : MethodId} {args : Array Value} {below : List Frame} {meth : Method} {c : Code} {P : hw_G} {G : Nat → Nat} {A : Nat → Prop}
set_option maxRecDepth 100000 in
set_option maxHeartbeats 4000000 in
theorem t_X4_valueAt_13 {post : Option Nat → cs_S → Prop} (hC : rf_C P RX4 p s m meth c cX4_valueAt 2 (some (.object "WatchHouse$Value"))) (hin : meth.name = yX4_valueAt.name) (hO : cs_O G A s s.heap) (S : cs_S)  (H : Heap) (locs : List Loc) (ls : Array Slot) (h : w_X4_valueAt_13 post G S ) (hT : cs_T P s A S H locs) (hl : lv_has ls 2 []) : W p l e rm_X4_valueAt s m args below meth c H locs 0 0 (MQ below (cs_Qr P A post) args s 0 0 A) (F0 m 13 ls []) := by
  obtain ⟨hx, hb, hml, hown, hK, -, -⟩ := id hC
  refine hw_null hx hb dX4_valueAt_13 ?_
  refine lv_goto (tgt := 23) hx hb dX4_valueAt_14 (by decide) ?_
  exact t_X4_valueAt_23 hC hin hO S none _ _ _ h hT (lv_sub hl [] rfl)
end
def wp_X4_valueAt (post : Option Nat → cs_S → Prop) (G : Nat → Nat) (S : cs_S) (o : Nat) (p1 : Int32) : Prop := (p1 < 0 → w_X4_valueAt_13 post G S) ∧ (¬ p1 < 0 → cs_k S o = 6 ∧ ∀ r10, r10 = cs_r S 500 o → ∃ b11, r10 = some b11 ∧ cs_k S b11 = 26 ∧ (p1 < (Int32.ofNat (cs_n S b11)) → ∀ r13, r13 = cs_r S 500 o → ∃ b14, r13 = some b14 ∧ cs_k S b14 = 26 ∧ vp_in p1 (cs_n S b14) ∧ ∀ r16, r16 = cs_ar S b14 p1.toNatClampNeg → w_X4_valueAt_23 post G S r16) ∧ (¬ p1 < (Int32.ofNat (cs_n S b11)) → w_X4_valueAt_13 post G S))
set_option maxRecDepth 100000 in
set_option maxHeartbeats 4000000 in
theorem c_X4_valueAt {l : Launch} {P : hw_G} {G : Nat → Nat} {S : cs_S} {sz : Nat} {o : Nat} {p1 : Int32} {post : Option Nat → cs_S → Prop} (h : wp_X4_valueAt post G S o p1) : Met l yX4_valueAt [Cond.code yX4_valueAt cX4_valueAt 2 (some (.object "WatchHouse$Value"))] rm_X4_valueAt (cs_Pc P G S sz [.ref o, .int p1]) (cs_Qr P (cs_A S sz) post) 0 0 (cs_A S sz) := by
  refine cs_met (by decide) rfl (Nat.le_of_ble_eq_true rfl) ?_
  intro p e s m below meth c ls hC hin hO hT hl
  obtain ⟨hx, hb, hml, hown, hK, -, -⟩ := id hC
  replace hl : lv_has ls 2 [(0, .ref o), (1, .int p1)] := hl
  refine lv_iload_n hx hb dX4_valueAt_0 rfl (lv_at hl 1 rfl) ?_
  refine lv_if_lt (tgt := 13) hx hb dX4_valueAt_1 (by decide) (fun hc => ?_) (fun hc => ?_)
  · replace h := h.1 hc
    exact t_X4_valueAt_13 hC hin hO S _ _ _ h hT (lv_sub hl [] rfl)
  · replace h := h.2 hc
    refine lv_iload_n hx hb dX4_valueAt_4 rfl (lv_at hl 1 rfl) ?_
    refine lv_aload_n (x := o) hx hb dX4_valueAt_5 rfl (lv_at hl 0 rfl) ?_
    obtain ⟨hk9_, h⟩ := h
    refine cs_get hx hb hK hT hown 5 hk9_ (by decide) rfl 0 (by decide) kfX4_9 (v := va_rf (cs_r S 500 o)) rfl dX4_valueAt_6 ?_
    refine hw_topr (fun r10 er10 => ?_)
    replace h := h r10 er10
    obtain ⟨b11, rfl, h⟩ := h
    obtain ⟨hk12_, h⟩ := h
    refine cs_alen hx hb hK hT 26 hk12_ (by decide) (by decide) dX4_valueAt_9 ?_
    refine lv_icmp_lt (tgt := 17) hx hb dX4_valueAt_10 (by decide) (fun hc => ?_) (fun hc => ?_)
    · replace h := h.1 hc
      refine lv_aload_n (x := o) hx hb dX4_valueAt_17 rfl (lv_at hl 0 rfl) ?_
      refine cs_get hx hb hK hT hown 5 hk9_ (by decide) rfl 0 (by decide) kfX4_9 (v := va_rf (cs_r S 500 o)) rfl dX4_valueAt_18 ?_
      refine hw_topr (fun r13 er13 => ?_)
      replace h := h r13 er13
      refine lv_iload_n hx hb dX4_valueAt_21 rfl (lv_at hl 1 rfl) ?_
      obtain ⟨b14, rfl, h⟩ := h
      obtain ⟨hk15_, h⟩ := h
      obtain ⟨hi, h⟩ := h
      refine cs_aald hx hb hK hT 26 hk15_ (by decide) rfl (by decide) hi dX4_valueAt_22 ?_
      refine hw_topr (fun r16 er16 => ?_)
      replace h := h r16 er16
      exact t_X4_valueAt_23 hC hin hO S r16 _ _ _ h hT (lv_sub hl [] rfl)
    · replace h := h.2 hc
      exact t_X4_valueAt_13 hC hin hO S _ _ _ h hT (lv_sub hl [] rfl)
/-! X4_holdsValues -/
abbrev rm_X4_holdsValues : Room := { frames := 1, cells := 0, slots := 0, locals := 22 }
def w_X4_holdsValues_17 (post : Int32 → cs_S → Prop) (G : Nat → Nat) (S : cs_S)  : Prop := post 0 S
section
variable {p : Program} {l : Launch} {e : Env} {s : State} {m : MethodId} {args : Array Value} {below : List Frame} {meth : Method} {c : Code} {P : hw_G} {G : Nat → Nat} {A : Nat → Prop}
set_option maxRecDepth 100000 in
set_option maxHeartbeats 4000000 in
theorem t_X4_holdsValues_17 {post : Int32 → cs_S → Prop} (hC : rf_C P RX4 p s m meth c cX4_holdsValues 5 (some .boolean)) (hin : meth.name = yX4_holdsValues.name) (hO : cs_O G A s s.heap) (S : cs_S)  (H : Heap) (locs : List Loc) (ls : Array Slot) (h : w_X4_holdsValues_17 post G S ) (hT : cs_T P s A S H locs) (hl : lv_has ls 5 []) : W p l e rm_X4_holdsValues s m args below meth c H locs 0 0 (MQ below (cs_Qi P A post) args s 0 0 A) (F0 m 17 ls []) := by
  obtain ⟨hx, hb, hml, hown, hK, -, -⟩ := id hC
  refine lv_iconst (v := 0) hx hb dX4_holdsValues_17 (by decide) ?_
  exact cs_zret hC hT rfl h dX4_holdsValues_18 (Nat.le_refl _) (Nat.le_refl _)
end
def w_X4_holdsValues_60 (post : Int32 → cs_S → Prop) (G : Nat → Nat) (S : cs_S)  : Prop := post 1 S
section
variable {p : Program} {l : Launch} {e : Env} {s : State} {m : MethodId} {args : Array Value} {below : List Frame} {meth : Method} {c : Code} {P : hw_G} {G : Nat → Nat} {A : Nat → Prop}
set_option maxRecDepth 100000 in
set_option maxHeartbeats 4000000 in
theorem t_X4_holdsValues_60 {post : Int32 → cs_S → Prop} (hC : rf_C P RX4 p s m meth c cX4_holdsValues 5 (some .boolean)) (hin : meth.name = yX4_holdsValues.name) (hO : cs_O G A s s.heap) (S : cs_S)  (H : Heap) (locs : List Loc) (ls : Array Slot) (h : w_X4_holdsValues_60 post G S ) (hT : cs_T P s A S H locs) (hl : lv_has ls 5 []) : W p l e rm_X4_holdsValues s m args below meth c H locs 0 0 (MQ below (cs_Qi P A post) args s 0 0 A) (F0 m 60 ls []) := by
  obtain ⟨hx, hb, hml, hown, hK, -, -⟩ := id hC
  refine lv_iconst (v := 1) hx hb dX4_holdsValues_60 (by decide) ?_
  exact cs_zret hC hT rfl h dX4_holdsValues_61 (Nat.le_refl _) (Nat.le_refl _)
end
def w_X4_holdsValues_22 (post : Int32 → cs_S → Prop) (G : Nat → Nat) : Nat → cs_S → Nat → Option Nat → Int32 → Int32 → Prop
  | 0, _, _, _, _, _ => False
  | n + 1, S, x0, x1, x2, x4 => (x2 ≤ x4 → w_X4_holdsValues_60 post G S) ∧ (¬ x2 ≤ x4 → ∃ b15, x1 = some b15 ∧ cs_k S b15 = 26 ∧ ((Int32.ofNat (cs_n S b15)) ≤ x4 → w_X4_holdsValues_60 post G S) ∧ (¬ (Int32.ofNat (cs_n S b15)) ≤ x4 → cs_k S x0 = 6 ∧ ∀ r18, r18 = cs_r S 500 x0 → ∃ b19, r18 = some b19 ∧ cs_k S b19 = 26 ∧ vp_in x4 (cs_n S b19) ∧ ∀ r21, r21 = cs_ar S b19 x4.toNatClampNeg → vp_in x4 (cs_n S b15) ∧ ∀ r22, r22 = cs_ar S b15 x4.toNatClampNeg → ∃ b23, r21 = some b23 ∧ cs_k S b23 = 11 ∧ wp_X9_same (fun r24 S24 => (¬ r24 = 0 → w_X4_holdsValues_22 post G n S24 x0 (some b15) x2 (x4 + 1)) ∧ (r24 = 0 → post 0 S24)) G S b23 r22))
section
variable {p : Program} {l : Launch} {e : Env} {s : State} {m : MethodId} {args : Array Value} {below : List Frame} {meth : Method} {c : Code} {P : hw_G} {G : Nat → Nat} {A : Nat → Prop}
set_option maxRecDepth 100000 in
set_option maxHeartbeats 4000000 in
theorem t_X4_holdsValues_22 {post : Int32 → cs_S → Prop} (hC : rf_C P RX4 p s m meth c cX4_holdsValues 5 (some .boolean)) (hin : meth.name = yX4_holdsValues.name) (hO : cs_O G A s s.heap) : ∀ (n : Nat) (S : cs_S) (x0 : Nat) (x1 : Option Nat) (x2 : Int32) (x4 : Int32) (H : Heap) (locs : List Loc) (ls : Array Slot), w_X4_holdsValues_22 post G n S x0 x1 x2 x4 → cs_T P s A S H locs → lv_has ls 5 [(0, .ref x0), (1, va_rf x1), (2, .int x2), (4, .int x4)] → W p l e rm_X4_holdsValues s m args below meth c H locs 0 0 (MQ below (cs_Qi P A post) args s 0 0 A) (F0 m 22 ls []) := by
  obtain ⟨hx, hb, hml, hown, hK, -, -⟩ := id hC
  intro n
  induction n with
  | zero => intro S x0 x1 x2 x4 H locs ls h; exact False.elim h
  | succ n ih =>
    intro S x0 x1 x2 x4 H locs ls h hT hl
    refine lv_iload hx hb dX4_holdsValues_22 (lv_at hl 3 rfl) ?_
    refine lv_iload_n hx hb dX4_holdsValues_24 rfl (lv_at hl 2 rfl) ?_
    refine lv_icmp_ge (tgt := 60) hx hb dX4_holdsValues_25 (by decide) (fun hc => ?_) (fun hc => ?_)
    · replace h := h.1 hc
      exact t_X4_holdsValues_60 hC hin hO S _ _ _ h hT (lv_sub hl [] rfl)
    · replace h := h.2 hc
      refine lv_iload hx hb dX4_holdsValues_28 (lv_at hl 3 rfl) ?_
      refine hw_aload_n (x := x1) hx hb dX4_holdsValues_30 rfl (lv_at hl 1 rfl) ?_
      obtain ⟨b15, rfl, h⟩ := h
      obtain ⟨hk16_, h⟩ := h
      refine cs_alen hx hb hK hT 26 hk16_ (by decide) (by decide) dX4_holdsValues_31 ?_
      refine lv_icmp_ge (tgt := 60) hx hb dX4_holdsValues_32 (by decide) (fun hc => ?_) (fun hc => ?_)
      · replace h := h.1 hc
        exact t_X4_holdsValues_60 hC hin hO S _ _ _ h hT (lv_sub hl [] rfl)
      · replace h := h.2 hc
        refine lv_aload_n (x := x0) hx hb dX4_holdsValues_35 rfl (lv_at hl 0 rfl) ?_
        obtain ⟨hk17_, h⟩ := h
        refine cs_get hx hb hK hT hown 5 hk17_ (by decide) rfl 0 (by decide) kfX4_9 (v := va_rf (cs_r S 500 x0)) rfl dX4_holdsValues_36 ?_
        refine hw_topr (fun r18 er18 => ?_)
        replace h := h r18 er18
        refine lv_iload hx hb dX4_holdsValues_39 (lv_at hl 3 rfl) ?_
        obtain ⟨b19, rfl, h⟩ := h
        obtain ⟨hk20_, h⟩ := h
        obtain ⟨hi, h⟩ := h
        refine cs_aald hx hb hK hT 26 hk20_ (by decide) rfl (by decide) hi dX4_holdsValues_41 ?_
        refine hw_topr (fun r21 er21 => ?_)
        replace h := h r21 er21
        refine lv_aload_n (x := b15) hx hb dX4_holdsValues_42 rfl (lv_at hl 1 rfl) ?_
        refine lv_iload hx hb dX4_holdsValues_43 (lv_at hl 3 rfl) ?_
        obtain ⟨hi, h⟩ := h
        refine cs_aald hx hb hK hT 26 hk16_ (by decide) rfl (by decide) hi dX4_holdsValues_45 ?_
        refine hw_topr (fun r22 er22 => ?_)
        replace h := h r22 er22
        obtain ⟨b23, rfl, h⟩ := h
        obtain ⟨hk25_, h⟩ := h
        refine cs_calli0 (cs_runV hx hb hml hown hK hO hT 10 hk25_ (by decide) rfl (c_X9_same h) rfl rfl klX4_26 ki_X9_same ks_X9_same kn_X9 kc_X9_same 1 ⟨rfl, by decide, by decide, by decide +kernel⟩ ⟨by decide, by decide⟩ rfl hl.1 rfl (hw_cat8 (Nat.le_of_ble_eq_true rfl)) ⟨(Nat.le_refl _), (Nat.le_refl _)⟩ dX4_holdsValues_46) hT (fun r24 S24 H locs h_ hT_ => ?_)
        replace h := h_
        replace hT := hT_
        refine lv_if_ne (tgt := 54) hx hb dX4_holdsValues_49 (by decide) (fun hc => ?_) (fun hc => ?_)
        · replace h := h.1 hc
          refine lv_iinc (v := x4 + 1) (lv' := [(4, _), (0, _), (1, _), (2, _)]) hx hb dX4_holdsValues_54 hl (k := 3) rfl rfl (by decide) rfl (fun ls hl_ => ?_)
          replace hl := hl_
          refine lv_goto (tgt := 22) hx hb dX4_holdsValues_57 (by decide) ?_
          exact ih S24 x0 (some b15) x2 (x4 + 1) _ _ _ h hT (lv_sub hl [1, 2, 3, 0] rfl)
        · replace h := h.2 hc
          refine lv_iconst (v := 0) hx hb dX4_holdsValues_52 (by decide) ?_
          exact cs_zret hC hT rfl h dX4_holdsValues_53 (Nat.le_refl _) (Nat.le_refl _)
end
def wp_X4_holdsValues (post : Int32 → cs_S → Prop) (G : Nat → Nat) (S : cs_S) (o : Nat) (p1 : Option Nat) (p2 : Int32) (p3 : Int32) : Prop := cs_k S o = 6 ∧ (¬ (cs_i S 501 o) = p3 → w_X4_holdsValues_17 post G S) ∧ ((cs_i S 501 o) = p3 → ∀ r27, r27 = cs_r S 500 o → ∃ b28, r27 = some b28 ∧ cs_k S b28 = 26 ∧ ((Int32.ofNat (cs_n S b28)) = p2 → ∃ n9, w_X4_holdsValues_22 post G n9 S o p1 p2 0) ∧ (¬ (Int32.ofNat (cs_n S b28)) = p2 → w_X4_holdsValues_17 post G S))
set_option maxRecDepth 100000 in
set_option maxHeartbeats 4000000 in
theorem c_X4_holdsValues {l : Launch} {P : hw_G} {G : Nat → Nat} {S : cs_S} {sz : Nat} {o : Nat} {p1 : Option Nat} {p2 : Int32} {p3 : Int32} {post : Int32 → cs_S → Prop} (h : wp_X4_holdsValues post G S o p1 p2 p3) : Met l yX4_holdsValues [Cond.code yX4_holdsValues cX4_holdsValues 5 (some .boolean)] rm_X4_holdsValues (cs_Pc P G S sz [.ref o, va_rf p1, .int p2, .int p3]) (cs_Qi P (cs_A S sz) post) 0 0 (cs_A S sz) := by
  refine cs_met (by decide) rfl (by cases p1 <;> exact Nat.le_of_ble_eq_true rfl) ?_
  intro p e s m below meth c ls hC hin hO hT hl
  obtain ⟨hx, hb, hml, hown, hK, -, -⟩ := id hC
  replace hl : lv_has ls 5 [(0, .ref o), (1, va_rf p1), (2, .int p2), (3, .int p3)] := by cases p1 <;> exact hl
  refine lv_aload_n (x := o) hx hb dX4_holdsValues_0 rfl (lv_at hl 0 rfl) ?_
  obtain ⟨hk26_, h⟩ := h
  refine cs_get hx hb hK hT hown 5 hk26_ (by decide) rfl 1 (by decide) kfX4_15 (v := .int (cs_i S 501 o)) rfl dX4_holdsValues_1 ?_
  refine lv_iload_n hx hb dX4_holdsValues_4 rfl (lv_at hl 3 rfl) ?_
  refine lv_icmp_ne (tgt := 17) hx hb dX4_holdsValues_5 (by decide) (fun hc => ?_) (fun hc => ?_)
  · replace h := h.1 hc
    exact t_X4_holdsValues_17 hC hin hO S _ _ _ h hT (lv_sub hl [] rfl)
  · replace h := h.2 hc
    refine lv_aload_n (x := o) hx hb dX4_holdsValues_8 rfl (lv_at hl 0 rfl) ?_
    refine cs_get hx hb hK hT hown 5 hk26_ (by decide) rfl 0 (by decide) kfX4_9 (v := va_rf (cs_r S 500 o)) rfl dX4_holdsValues_9 ?_
    refine hw_topr (fun r27 er27 => ?_)
    replace h := h r27 er27
    obtain ⟨b28, rfl, h⟩ := h
    obtain ⟨hk29_, h⟩ := h
    refine cs_alen hx hb hK hT 26 hk29_ (by decide) (by decide) dX4_holdsValues_12 ?_
    refine lv_iload_n hx hb dX4_holdsValues_13 rfl (lv_at hl 2 rfl) ?_
    refine lv_icmp_eq (tgt := 19) hx hb dX4_holdsValues_14 (by decide) (fun hc => ?_) (fun hc => ?_)
    · replace h := h.1 hc
      refine lv_iconst (v := 0) hx hb dX4_holdsValues_19 (by decide) ?_
      refine lv_istore (lv' := [(4, _), (0, _), (1, _), (2, _), (3, _)]) hx hb dX4_holdsValues_20 hl (by decide) rfl (fun ls hl_ => ?_)
      replace hl := hl_
      obtain ⟨n9, h⟩ := h
      exact t_X4_holdsValues_22 hC hin hO n9 S o p1 p2 0 _ _ _ h hT (lv_sub hl [1, 2, 3, 0] rfl)
    · replace h := h.2 hc
      exact t_X4_holdsValues_17 hC hin hO S _ _ _ h hT (lv_sub hl [] rfl)
