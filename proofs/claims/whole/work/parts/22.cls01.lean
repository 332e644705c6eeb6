/-! X5_init -/
abbrev rm_X5_init (mc ms : Nat) : Room := { frames := 1, cells := mc, slots := ms, locals := 24 }
def wp_X5_init (post : cs_S → Prop) (G : Nat → Nat) (mc ms : Nat) (S : cs_S) (o : Nat) (p1 : Option Nat) : Prop := cs_k S o = 7 ∧ ∀ S15, S15 = cs_ur S 604 o p1 → ¬ (12 : Int32) < 0 ∧ (12 : Int32).toNatClampNeg * 4 ≤ 536870912 ∧ 0 + 1 ≤ mc ∧ 0 + (12 : Int32).toNatClampNeg ≤ ms ∧ ∀ q16, cs_k S15 q16 = 0 → ∀ S17, S17 = cs_newA S15 q16 22 (12 : Int32).toNatClampNeg → cs_k S17 o = 7 ∧ ∀ S19, S19 = cs_ur S17 600 o (some q16) → ∃ b20, p1 = some b20 ∧ cs_k S19 b20 = 10 ∧ ∀ r22, r22 = cs_r S19 900 b20 → ∃ b23, r22 = some b23 ∧ cs_k S19 b23 = 20 ∧ vp_in 0 (cs_n S19 b23) ∧ cs_k S19 o = 7 ∧ ∀ S26, S26 = cs_ui S19 606 o (cs_ai S19 b23 (0 : Int32).toNatClampNeg) → post S26
set_option maxRecDepth 100000 in
set_option maxHeartbeats 4000000 in
theorem c_X5_init {l : Launch} {P : hw_G} {G : Nat → Nat} {S : cs_S} {sz : Nat} {mc ms : Nat} {o : Nat} {p1 : Option Nat} {post : cs_S → Prop} (h : wp_X5_init post G mc ms S o p1) : Met l yX5_init [Cond.code yX5_init cX5_init 2 none] (rm_X5_init mc ms) (cs_Pc P G S sz [.ref o, va_rf p1]) (cs_Qv P (cs_A S sz) post) mc ms (cs_A S sz) := by
  refine cs_met (by decide) rfl (by cases p1 <;> exact Nat.le_of_ble_eq_true rfl) ?_
  intro p e s m below meth c ls hC hin hO hT hl
  obtain ⟨hx, hb, hml, hown, hK, -, -⟩ := id hC
  replace hl : lv_has ls 2 [(0, .ref o), (1, va_rf p1)] := by cases p1 <;> exact hl
  refine lv_aload_n (x := o) hx hb dX5_init_0 rfl (lv_at hl 0 rfl) ?_
  refine cs_objInit hx hb hml hown hK hl.1 klX5_3 ki_obj kc_obj dX5_init_1 (Nat.le_of_ble_eq_true rfl) (hw_catN (Nat.le_of_ble_eq_true rfl) (Nat.le_of_ble_eq_true rfl)) ?_
  refine lv_aload_n (x := o) hx hb dX5_init_4 rfl (lv_at hl 0 rfl) ?_
  refine hw_aload_n (x := p1) hx hb dX5_init_5 rfl (lv_at hl 1 rfl) ?_
  obtain ⟨hk14_, h⟩ := h
  refine cs_putFr (x := p1) hx hb hK hT hown hin 6 hk14_ (by decide) rfl 4 (by decide) kfX5_9 rfl rfl (tyX5_ok 4 (by decide)) rfl 604 rfl dX5_init_6 (fun H locs hT_ => ?_)
  replace hT := hT_
  obtain ⟨S15, eS15⟩ : ∃ z, z = cs_ur S 604 o p1 := ⟨_, rfl⟩
  rw [← eS15] at hT
  replace h := h S15 eS15
  refine lv_aload_n (x := o) hx hb dX5_init_9 rfl (lv_at hl 0 rfl) ?_
  refine lv_bipush (v := 12) hx hb dX5_init_10 (by decide) ?_
  obtain ⟨hn1, hn2, hu16, hv16, h⟩ := h
  refine cs_anew hx hb hK hT hown 22 rfl kxX5_15 (by decide) (by decide) (by decide) hn1 hn2 hu16 hv16 dX5_init_12 (fun q16 H hq16 hT_ => ?_)
  replace h := h q16 hq16
  replace hT := hT_
  obtain ⟨S17, eS17⟩ : ∃ z, z = cs_newA S15 q16 22 (12 : Int32).toNatClampNeg := ⟨_, rfl⟩
  rw [← eS17] at hT
  replace h := h S17 eS17
  obtain ⟨hk18_, h⟩ := h
  refine cs_putFr (x := (some q16)) hx hb hK hT hown hin 6 hk18_ (by decide) rfl 0 (by decide) kfX5_17 rfl rfl (tyX5_ok 0 (by decide)) rfl 600 rfl dX5_init_15 (fun H locs hT_ => ?_)
  replace hT := hT_
  obtain ⟨S19, eS19⟩ : ∃ z, z = cs_ur S17 600 o (some q16) := ⟨_, rfl⟩
  rw [← eS19] at hT
  replace h := h S19 eS19
  refine lv_aload_n (x := o) hx hb dX5_init_18 rfl (lv_at hl 0 rfl) ?_
  refine hw_aload_n (x := p1) hx hb dX5_init_19 rfl (lv_at hl 1 rfl) ?_
  obtain ⟨b20, rfl, h⟩ := h
  obtain ⟨hk21_, h⟩ := h
  refine cs_get hx hb hK hT hown 9 hk21_ (by decide) rfl 0 (by decide) kfX5_21 (v := va_rf (cs_r S19 900 b20)) rfl dX5_init_20 ?_
  refine hw_topr (fun r22 er22 => ?_)
  replace h := h r22 er22
  refine lv_iconst (v := 0) hx hb dX5_init_23 (by decide) ?_
  obtain ⟨b23, rfl, h⟩ := h
  obtain ⟨hk24_, h⟩ := h
  obtain ⟨hi, h⟩ := h
  refine cs_iald hx hb hK hT hk24_ hi dX5_init_24 ?_
  obtain ⟨hk25_, h⟩ := h
  refine cs_puti (x := (cs_ai S19 b23 (0 : Int32).toNatClampNeg)) hx hb hK hT hown 6 hk25_ (by decide) rfl 6 (by decide) kfX5_27 rfl (tyX5_ok 6 (by decide)) rfl 606 rfl dX5_init_25 (fun H locs hT_ => ?_)
  replace hT := hT_
  obtain ⟨S26, eS26⟩ : ∃ z, z = cs_ui S19 606 o (cs_ai S19 b23 (0 : Int32).toNatClampNeg) := ⟨_, rfl⟩
  rw [← eS26] at hT
  replace h := h S26 eS26
  exact cs_vret hC hT h dX5_init_28 hu16 hv16
/-! X5_another -/
abbrev rm_X5_another : Room := { frames := 0, cells := 0, slots := 0, locals := 0 }
def w_X5_another_20 (post : Int32 → cs_S → Prop) (G : Nat → Nat) (S : cs_S) (y0 : Int32) : Prop := narrow .boolean (.int y0) = .int y0 ∧ post y0 S
section
variable {p : Program} {l : Launch} {e : Env} {s : State} {m : MethodId} {args : Array Value} {below : List Frame} {meth : Method} {c : Code} {P : hw_G} {G : Nat → Nat} {A : Nat → Prop}
set_option maxRecDepth 100000 in
set_option maxHeartbeats 4000000 in
theorem t_X5_another_20 {post : Int32 → cs_S → Prop} (hC : rf_C P RX5 p s m meth c cX5_another 1 (some .boolean)) (hin : meth.name = yX5_another.name) (hO : cs_O G A s s.heap) (S : cs_S) (y0 : Int32) (H : Heap) (locs : List Loc) (ls : Array Slot) (h : w_X5_another_20 post G S y0) (hT : cs_T P s A S H locs) (hl : lv_has ls 1 []) : W p l e rm_X5_another s m args below meth c H locs 0 0 (MQ below (cs_Qi P A post) args s 0 0 A) (F0 m 20 ls [.int y0]) := by
  obtain ⟨hx, hb, hml, hown, hK, -, -⟩ := id hC
  exact cs_zret hC hT h.1 h.2 dX5_another_20 (Nat.le_refl _) (Nat.le_refl _)
end
def w_X5_another_19 (post : Int32 → cs_S → Prop) (G : Nat → Nat) (S : cs_S)  : Prop := w_X5_another_20 post G S 0
section
variable {p : Program} {l : Launch} {e : Env} {s : State} {m : MethodId} {args : Array Value} {below : List Frame} {meth : Method} {c : Code} {P : hw_G} {G : Nat → Nat} {A : Nat → Prop}
set_option maxRecDepth 100000 in
set_option maxHeartbeats 4000000 in
theorem t_X5_another_19 {post : Int32 → cs_S → Prop} (hC : rf_C P RX5 p s m meth c cX5_another 1 (some .boolean)) (hin : meth.name = yX5_another.name) (hO : cs_O G A s s.heap) (S : cs_S)  (H : Heap) (locs : List Loc) (ls : Array Slot) (h : w_X5_another_19 post G S ) (hT : cs_T P s A S H locs) (hl : lv_has ls 1 []) : W p l e rm_X5_another s m args below meth c H locs 0 0 (MQ below (cs_Qi P A post) args s 0 0 A) (F0 m 19 ls []) := by
  obtain ⟨hx, hb, hml, hown, hK, -, -⟩ := id hC
  refine lv_iconst (v := 0) hx hb dX5_another_19 (by decide) ?_
  exact t_X5_another_20 hC hin hO S 0 _ _ _ h hT (lv_sub hl [] rfl)
end
def wp_X5_another (post : Int32 → cs_S → Prop) (G : Nat → Nat) (S : cs_S) (o : Nat) : Prop := cs_k S o = 7 ∧ (¬ (cs_i S 602 o) = 0 → w_X5_another_19 post G S) ∧ ((cs_i S 602 o) = 0 → ((cs_i S 606 o) = 1 → w_X5_another_19 post G S) ∧ (¬ (cs_i S 606 o) = 1 → w_X5_another_20 post G S 1))
set_option maxRecDepth 100000 in
set_option maxHeartbeats 4000000 in
theorem c_X5_another {l : Launch} {P : hw_G} {G : Nat → Nat} {S : cs_S} {sz : Nat} {o : Nat} {post : Int32 → cs_S → Prop} (h : wp_X5_another post G S o) : Met l yX5_another [Cond.code yX5_another cX5_another 1 (some .boolean)] rm_X5_another (cs_Pc P G S sz [.ref o]) (cs_Qi P (cs_A S sz) post) 0 0 (cs_A S sz) := by
  refine cs_met (by decide) rfl (Nat.le_of_ble_eq_true rfl) ?_
  intro p e s m below meth c ls hC hin hO hT hl
  obtain ⟨hx, hb, hml, hown, hK, -, -⟩ := id hC
  replace hl : lv_has ls 1 [(0, .ref o)] := hl
  refine lv_aload_n (x := o) hx hb dX5_another_0 rfl (lv_at hl 0 rfl) ?_
  obtain ⟨hk2_, h⟩ := h
  refine cs_get hx hb hK hT hown 6 hk2_ (by decide) rfl 2 (by decide) kfX5_31 (v := .int (cs_i S 602 o)) rfl dX5_another_1 ?_
  refine lv_if_ne (tgt := 19) hx hb dX5_another_4 (by decide) (fun hc => ?_) (fun hc => ?_)
  · replace h := h.1 hc
    exact t_X5_another_19 hC hin hO S _ _ _ h hT (lv_sub hl [] rfl)
  · replace h := h.2 hc
    refine lv_aload_n (x := o) hx hb dX5_another_7 rfl (lv_at hl 0 rfl) ?_
    refine cs_get hx hb hK hT hown 6 hk2_ (by decide) rfl 6 (by decide) kfX5_27 (v := .int (cs_i S 606 o)) rfl dX5_another_8 ?_
    refine lv_iconst (v := 1) hx hb dX5_another_11 (by decide) ?_
    refine lv_icmp_eq (tgt := 19) hx hb dX5_another_12 (by decide) (fun hc => ?_) (fun hc => ?_)
    · replace h := h.1 hc
      exact t_X5_another_19 hC hin hO S _ _ _ h hT (lv_sub hl [] rfl)
    · replace h := h.2 hc
      refine lv_iconst (v := 1) hx hb dX5_another_15 (by decide) ?_
      refine lv_goto (tgt := 20) hx hb dX5_another_16 (by decide) ?_
      exact t_X5_another_20 hC hin hO S 1 _ _ _ h hT (lv_sub hl [] rfl)
/-! X5_step -/
abbrev rm_X5_step : Room := { frames := 0, cells := 0, slots := 0, locals := 0 }
def w_X5_step_65 (post : cs_S → Prop) (G : Nat → Nat) (S : cs_S)  : Prop := post S
section
variable {p : Program} {l : Launch} {e : Env} {s : State} {m : MethodId} {args : Array Value} {below : List Frame} {meth : Method} {c : Code} {P : hw_G} {G : Nat → Nat} {A : Nat → Prop}
set_option maxRecDepth 100000 in
set_option maxHeartbeats 4000000 in
theorem t_X5_step_65 {post : cs_S → Prop} (hC : rf_C P RX5 p s m meth c cX5_step 1 none) (hin : meth.name = yX5_step.name) (hO : cs_O G A s s.heap) (S : cs_S)  (H : Heap) (locs : List Loc) (ls : Array Slot) (h : w_X5_step_65 post G S ) (hT : cs_T P s A S H locs) (hl : lv_has ls 1 []) : W p l e rm_X5_step s m args below meth c H locs 0 0 (MQ below (cs_Qv P A post) args s 0 0 A) (F0 m 65 ls []) := by
  obtain ⟨hx, hb, hml, hown, hK, -, -⟩ := id hC
  exact cs_vret hC hT h dX5_step_65 (Nat.le_refl _) (Nat.le_refl _)
end
def wp_X5_step (post : cs_S → Prop) (G : Nat → Nat) (S : cs_S) (o : Nat) : Prop := cs_k S o = 7 ∧ (¬ (cs_i S 602 o) = 0 → w_X5_step_65 post G S) ∧ ((cs_i S 602 o) = 0 → ((cs_i S 606 o) = 1 → w_X5_step_65 post G S) ∧ (¬ (cs_i S 606 o) = 1 → ((cs_i S 606 o) = 0 → w_X5_step_65 post G S) ∧ (¬ (cs_i S 606 o) = 0 → ∀ r18, r18 = cs_r S 604 o → ∃ b19, r18 = some b19 ∧ cs_k S b19 = 10 ∧ ∀ r21, r21 = cs_r S 900 b19 → ∃ b22, r21 = some b22 ∧ cs_k S b22 = 20 ∧ ((Int32.ofNat (cs_n S b22)) ≤ ((cs_i S 605 o) + 1) → w_X5_step_65 post G S) ∧ (¬ (Int32.ofNat (cs_n S b22)) ≤ ((cs_i S 605 o) + 1) → ∀ S24, S24 = cs_ui S 605 o ((cs_i S 605 o) + 1) → cs_k S24 o = 7 ∧ ∀ r26, r26 = cs_r S24 604 o → ∃ b27, r26 = some b27 ∧ cs_k S24 b27 = 10 ∧ ∀ r29, r29 = cs_r S24 900 b27 → ∃ b30, r29 = some b30 ∧ cs_k S24 b30 = 20 ∧ vp_in (cs_i S24 605 o) (cs_n S24 b30) ∧ ∀ S32, S32 = cs_ui S24 606 o (cs_ai S24 b30 (cs_i S24 605 o).toNatClampNeg) → w_X5_step_65 post G S32))))
set_option maxRecDepth 100000 in
set_option maxHeartbeats 4000000 in
theorem c_X5_step {l : Launch} {P : hw_G} {G : Nat → Nat} {S : cs_S} {sz : Nat} {o : Nat} {post : cs_S → Prop} (h : wp_X5_step post G S o) : Met l yX5_step [Cond.code yX5_step cX5_step 1 none] rm_X5_step (cs_Pc P G S sz [.ref o]) (cs_Qv P (cs_A S sz) post) 0 0 (cs_A S sz) := by
  refine cs_met (by decide) rfl (Nat.le_of_ble_eq_true rfl) ?_
  intro p e s m below meth c ls hC hin hO hT hl
  obtain ⟨hx, hb, hml, hown, hK, -, -⟩ := id hC
  replace hl : lv_has ls 1 [(0, .ref o)] := hl
  refine lv_aload_n (x := o) hx hb dX5_step_0 rfl (lv_at hl 0 rfl) ?_
  obtain ⟨hk17_, h⟩ := h
  refine cs_get hx hb hK hT hown 6 hk17_ (by decide) rfl 2 (by decide) kfX5_31 (v := .int (cs_i S 602 o)) rfl dX5_step_1 ?_
  refine lv_if_ne (tgt := 65) hx hb dX5_step_4 (by decide) (fun hc => ?_) (fun hc => ?_)
  · replace h := h.1 hc
    exact t_X5_step_65 hC hin hO S _ _ _ h hT (lv_sub hl [] rfl)
  · replace h := h.2 hc
    refine lv_aload_n (x := o) hx hb dX5_step_7 rfl (lv_at hl 0 rfl) ?_
    refine cs_get hx hb hK hT hown 6 hk17_ (by decide) rfl 6 (by decide) kfX5_27 (v := .int (cs_i S 606 o)) rfl dX5_step_8 ?_
    refine lv_iconst (v := 1) hx hb dX5_step_11 (by decide) ?_
    refine lv_icmp_eq (tgt := 65) hx hb dX5_step_12 (by decide) (fun hc => ?_) (fun hc => ?_)
    · replace h := h.1 hc
      exact t_X5_step_65 hC hin hO S _ _ _ h hT (lv_sub hl [] rfl)
    · replace h := h.2 hc
      refine lv_aload_n (x := o) hx hb dX5_step_15 rfl (lv_at hl 0 rfl) ?_
      refine cs_get hx hb hK hT hown 6 hk17_ (by decide) rfl 6 (by decide) kfX5_27 (v := .int (cs_i S 606 o)) rfl dX5_step_16 ?_
      refine lv_if_eq (tgt := 65) hx hb dX5_step_19 (by decide) (fun hc => ?_) (fun hc => ?_)
      · replace h := h.1 hc
        exact t_X5_step_65 hC hin hO S _ _ _ h hT (lv_sub hl [] rfl)
      · replace h := h.2 hc
        refine lv_aload_n (x := o) hx hb dX5_step_22 rfl (lv_at hl 0 rfl) ?_
        refine cs_get hx hb hK hT hown 6 hk17_ (by decide) rfl 5 (by decide) kfX5_34 (v := .int (cs_i S 605 o)) rfl dX5_step_23 ?_
        refine lv_iconst (v := 1) hx hb dX5_step_26 (by decide) ?_
        refine lv_iadd hx hb dX5_step_27 ?_
        refine lv_aload_n (x := o) hx hb dX5_step_28 rfl (lv_at hl 0 rfl) ?_
        refine cs_get hx hb hK hT hown 6 hk17_ (by decide) rfl 4 (by decide) kfX5_9 (v := va_rf (cs_r S 604 o)) rfl dX5_step_29 ?_
        refine hw_topr (fun r18 er18 => ?_)
        replace h := h r18 er18
        obtain ⟨b19, rfl, h⟩ := h
        obtain ⟨hk20_, h⟩ := h
        refine cs_get hx hb hK hT hown 9 hk20_ (by decide) rfl 0 (by decide) kfX5_21 (v := va_rf (cs_r S 900 b19)) rfl dX5_step_32 ?_
        refine hw_topr (fun r21 er21 => ?_)
        replace h := h r21 er21
        obtain ⟨b22, rfl, h⟩ := h
        obtain ⟨hk23_, h⟩ := h
        refine cs_alen hx hb hK hT 20 hk23_ (by decide) (by decide) dX5_step_35 ?_
        refine lv_icmp_ge (tgt := 65) hx hb dX5_step_36 (by decide) (fun hc => ?_) (fun hc => ?_)
        · replace h := h.1 hc
          exact t_X5_step_65 hC hin hO S _ _ _ h hT (lv_sub hl [] rfl)
        · replace h := h.2 hc
          refine lv_aload_n (x := o) hx hb dX5_step_39 rfl (lv_at hl 0 rfl) ?_
          refine lv_dup hx hb dX5_step_40 rfl ?_
          refine cs_get hx hb hK hT hown 6 hk17_ (by decide) rfl 5 (by decide) kfX5_34 (v := .int (cs_i S 605 o)) rfl dX5_step_41 ?_
          refine lv_iconst (v := 1) hx hb dX5_step_44 (by decide) ?_
          refine lv_iadd hx hb dX5_step_45 ?_
          refine cs_puti (x := ((cs_i S 605 o) + 1)) hx hb hK hT hown 6 hk17_ (by decide) rfl 5 (by decide) kfX5_34 rfl (tyX5_ok 5 (by decide)) rfl 605 rfl dX5_step_46 (fun H locs hT_ => ?_)
          replace hT := hT_
          obtain ⟨S24, eS24⟩ : ∃ z, z = cs_ui S 605 o ((cs_i S 605 o) + 1) := ⟨_, rfl⟩
          rw [← eS24] at hT
          replace h := h S24 eS24
          refine lv_aload_n (x := o) hx hb dX5_step_49 rfl (lv_at hl 0 rfl) ?_
          refine lv_aload_n (x := o) hx hb dX5_step_50 rfl (lv_at hl 0 rfl) ?_
          obtain ⟨hk25_, h⟩ := h
          refine cs_get hx hb hK hT hown 6 hk25_ (by decide) rfl 4 (by decide) kfX5_9 (v := va_rf (cs_r S24 604 o)) rfl dX5_step_51 ?_
          refine hw_topr (fun r26 er26 => ?_)
          replace h := h r26 er26
          obtain ⟨b27, rfl, h⟩ := h
          obtain ⟨hk28_, h⟩ := h
          refine cs_get hx hb hK hT hown 9 hk28_ (by decide) rfl 0 (by decide) kfX5_21 (v := va_rf (cs_r S24 900 b27)) rfl dX5_step_54 ?_
          refine hw_topr (fun r29 er29 => ?_)
          replace h := h r29 er29
          refine lv_aload_n (x := o) hx hb dX5_step_57 rfl (lv_at hl 0 rfl) ?_
          refine cs_get hx hb hK hT hown 6 hk25_ (by decide) rfl 5 (by decide) kfX5_34 (v := .int (cs_i S24 605 o)) rfl dX5_step_58 ?_
          obtain ⟨b30, rfl, h⟩ := h
          obtain ⟨hk31_, h⟩ := h
          obtain ⟨hi, h⟩ := h
          refine cs_iald hx hb hK hT hk31_ hi dX5_step_61 ?_
          refine cs_puti (x := (cs_ai S24 b30 (cs_i S24 605 o).toNatClampNeg)) hx hb hK hT hown 6 hk25_ (by decide) rfl 6 (by decide) kfX5_27 rfl (tyX5_ok 6 (by decide)) rfl 606 rfl dX5_step_62 (fun H locs hT_ => ?_)
          replace hT := hT_
          obtain ⟨S32, eS32⟩ : ∃ z, z = cs_ui S24 606 o (cs_ai S24 b30 (cs_i S24 605 o).toNatClampNeg) := ⟨_, rfl⟩
          rw [← eS32] at hT
          replace h := h S32 eS32
          exact t_X5_step_65 hC hin hO S32 _ _ _ h hT (lv_sub hl [] rfl)
/-! X5_fail -/
abbrev rm_X5_fail : Room := { frames := 0, cells := 0, slots := 0, locals := 0 }
def w_X5_fail_44 (post : cs_S → Prop) (G : Nat → Nat) (S : cs_S)  : Prop := post S
section
variable {p : Program} {l : Launch} {e : Env} {s : State} {m : MethodId} {args : Array Value} {below : List Frame} {meth : Method} {c : Code} {P : hw_G} {G : Nat → Nat} {A : Nat → Prop}
set_option maxRecDepth 100000 in
set_option maxHeartbeats 4000000 in
theorem t_X5_fail_44 {post : cs_S → Prop} (hC : rf_C P RX5 p s m meth c cX5_fail 2 none) (hin : meth.name = yX5_fail.name) (hO : cs_O G A s s.heap) (S : cs_S)  (H : Heap) (locs : List Loc) (ls : Array Slot) (h : w_X5_fail_44 post G S ) (hT : cs_T P s A S H locs) (hl : lv_has ls 2 []) : W p l e rm_X5_fail s m args below meth c H locs 0 0 (MQ below (cs_Qv P A post) args s 0 0 A) (F0 m 44 ls []) := by
  obtain ⟨hx, hb, hml, hown, hK, -, -⟩ := id hC
  exact cs_vret hC hT h dX5_fail_44 (Nat.le_refl _) (Nat.le_refl _)
end
def w_X5_fail_20 (post : cs_S → Prop) (G : Nat → Nat) (S : cs_S) (x0 : Nat) (y0 : Option Nat) (y1 : Int32) : Prop := ∃ b13, y0 = some b13 ∧ cs_k S b13 = 7 ∧ ∀ S15, S15 = cs_ui S 602 b13 y1 → cs_k S15 x0 = 7 ∧ ∀ r17, r17 = cs_r S15 604 x0 → ∃ b18, r17 = some b18 ∧ cs_k S15 b18 = 10 ∧ ∀ r20, r20 = cs_r S15 901 b18 → ∃ b21, r20 = some b21 ∧ cs_k S15 b21 = 20 ∧ vp_in (cs_i S15 605 x0) (cs_n S15 b21) ∧ ∀ S23, S23 = cs_ui S15 603 x0 (cs_ai S15 b21 (cs_i S15 605 x0).toNatClampNeg) → cs_k S23 x0 = 7 ∧ ∀ S25, S25 = cs_ui S23 606 x0 0 → w_X5_fail_44 post G S25
section
variable {p : Program} {l : Launch} {e : Env} {s : State} {m : MethodId} {args : Array Value} {below : List Frame} {meth : Method} {c : Code} {P : hw_G} {G : Nat → Nat} {A : Nat → Prop}
set_option maxRecDepth 100000 in
set_option maxHeartbeats 4000000 in
theorem t_X5_fail_20 {post : cs_S → Prop} (hC : rf_C P RX5 p s m meth c cX5_fail 2 none) (hin : meth.name = yX5_fail.name) (hO : cs_O G A s s.heap) (S : cs_S) (x0 : Nat) (y0 : Option Nat) (y1 : Int32) (H : Heap) (locs : List Loc) (ls : Array Slot) (h : w_X5_fail_20 post G S x0 y0 y1) (hT : cs_T P s A S H locs) (hl : lv_has ls 2 [(0, .ref x0)]) : W p l e rm_X5_fail s m args below meth c H locs 0 0 (MQ below (cs_Qv P A post) args s 0 0 A) (F0 m 20 ls [.int y1, va_rf y0]) := by
  obtain ⟨hx, hb, hml, hown, hK, -, -⟩ := id hC
  obtain ⟨b13, rfl, h⟩ := h
  obtain ⟨hk14_, h⟩ := h
  refine cs_puti (x := y1) hx hb hK hT hown 6 hk14_ (by decide) rfl 2 (by decide) kfX5_31 rfl (tyX5_ok 2 (by decide)) rfl 602 rfl dX5_fail_20 (fun H locs hT_ => ?_)
  replace hT := hT_
  obtain ⟨S15, eS15⟩ : ∃ z, z = cs_ui S 602 b13 y1 := ⟨_, rfl⟩
  rw [← eS15] at hT
  replace h := h S15 eS15
  refine lv_aload_n (x := x0) hx hb dX5_fail_23 rfl (lv_at hl 0 rfl) ?_
  refine lv_aload_n (x := x0) hx hb dX5_fail_24 rfl (lv_at hl 0 rfl) ?_
  obtain ⟨hk16_, h⟩ := h
  refine cs_get hx hb hK hT hown 6 hk16_ (by decide) rfl 4 (by decide) kfX5_9 (v := va_rf (cs_r S15 604 x0)) rfl dX5_fail_25 ?_
  refine hw_topr (fun r17 er17 => ?_)
  replace h := h r17 er17
  obtain ⟨b18, rfl, h⟩ := h
  obtain ⟨hk19_, h⟩ := h
  refine cs_get hx hb hK hT hown 9 hk19_ (by decide) rfl 1 (by decide) kfX5_37 (v := va_rf (cs_r S15 901 b18)) rfl dX5_fail_28 ?_
  refine hw_topr (fun r20 er20 => ?_)
  replace h := h r20 er20
  refine lv_aload_n (x := x0) hx hb dX5_fail_31 rfl (lv_at hl 0 rfl) ?_
  refine cs_get hx hb hK hT hown 6 hk16_ (by decide) rfl 5 (by decide) kfX5_34 (v := .int (cs_i S15 605 x0)) rfl dX5_fail_32 ?_
  obtain ⟨b21, rfl, h⟩ := h
  obtain ⟨hk22_, h⟩ := h
  obtain ⟨hi, h⟩ := h
  refine cs_iald hx hb hK hT hk22_ hi dX5_fail_35 ?_
  refine cs_puti (x := (cs_ai S15 b21 (cs_i S15 605 x0).toNatClampNeg)) hx hb hK hT hown 6 hk16_ (by decide) rfl 3 (by decide) kfX5_40 rfl (tyX5_ok 3 (by decide)) rfl 603 rfl dX5_fail_36 (fun H locs hT_ => ?_)
  replace hT := hT_
  obtain ⟨S23, eS23⟩ : ∃ z, z = cs_ui S15 603 x0 (cs_ai S15 b21 (cs_i S15 605 x0).toNatClampNeg) := ⟨_, rfl⟩
  rw [← eS23] at hT
  replace h := h S23 eS23
  refine lv_aload_n (x := x0) hx hb dX5_fail_39 rfl (lv_at hl 0 rfl) ?_
  refine lv_iconst (v := 0) hx hb dX5_fail_40 (by decide) ?_
  obtain ⟨hk24_, h⟩ := h
  refine cs_puti (x := 0) hx hb hK hT hown 6 hk24_ (by decide) rfl 6 (by decide) kfX5_27 rfl (tyX5_ok 6 (by decide)) rfl 606 rfl dX5_fail_41 (fun H locs hT_ => ?_)
  replace hT := hT_
  obtain ⟨S25, eS25⟩ : ∃ z, z = cs_ui S23 606 x0 0 := ⟨_, rfl⟩
  rw [← eS25] at hT
  replace h := h S25 eS25
  exact t_X5_fail_44 hC hin hO S25 _ _ _ h hT (lv_sub hl [] rfl)
end
def wp_X5_fail (post : cs_S → Prop) (G : Nat → Nat) (S : cs_S) (o : Nat) (p1 : Int32) : Prop := cs_k S o = 7 ∧ (¬ (cs_i S 602 o) = 0 → w_X5_fail_44 post G S) ∧ ((cs_i S 602 o) = 0 → (¬ (cs_i S 606 o) = 0 → w_X5_fail_20 post G S o (some o) p1) ∧ ((cs_i S 606 o) = 0 → w_X5_fail_20 post G S o (some o) 1))
set_option maxRecDepth 100000 in
set_option maxHeartbeats 4000000 in
theorem c_X5_fail {l : Launch} {P : hw_G} {G : Nat → Nat} {S : cs_S} {sz : Nat} {o : Nat} {p1 : Int32} {post : cs_S → Prop} (h : wp_X5_fail post G S o p1) : Met l yX5_fail [Cond.code yX5_fail cX5_fail 2 none] rm_X5_fail (cs_Pc P G S sz [.ref o, .int p1]) (cs_Qv P (cs_A S sz) post) 0 0 (cs_A S sz) := by
  refine cs_met (by decide) rfl (Nat.le_of_ble_eq_true rfl) ?_
  intro p e s m below meth c ls hC hin hO hT hl
  obtain ⟨hx, hb, hml, hown, hK, -, -⟩ := id hC
  replace hl : lv_has ls 2 [(0, .ref o), (1, .int p1)] := hl
  refine lv_aload_n (x := o) hx hb dX5_fail_0 rfl (lv_at hl 0 rfl) ?_
  obtain ⟨hk26_, h⟩ := h
  refine cs_get hx hb hK hT hown 6 hk26_ (by decide) rfl 2 (by decide) kfX5_31 (v := .int (cs_i S 602 o)) rfl dX5_fail_1 ?_
  refine lv_if_ne (tgt := 44) hx hb dX5_fail_4 (by decide) (fun hc => ?_) (fun hc => ?_)
  · replace h := h.1 hc
    exact t_X5_fail_44 hC hin hO S _ _ _ h hT (lv_sub hl [] rfl)
  · replace h := h.2 hc
    refine lv_aload_n (x := o) hx hb dX5_fail_7 rfl (lv_at hl 0 rfl) ?_
    refine lv_aload_n (x := o) hx hb dX5_fail_8 rfl (lv_at hl 0 rfl) ?_
    refine cs_get hx hb hK hT hown 6 hk26_ (by decide) rfl 6 (by decide) kfX5_27 (v := .int (cs_i S 606 o)) rfl dX5_fail_9 ?_
    refine lv_if_ne (tgt := 19) hx hb dX5_fail_12 (by decide) (fun hc => ?_) (fun hc => ?_)
    · replace h := h.1 hc
      refine lv_iload_n hx hb dX5_fail_19 rfl (lv_at hl 1 rfl) ?_
      exact t_X5_fail_20 hC hin hO S o (some o) p1 _ _ _ h hT (lv_sub hl [0] rfl)
    · replace h := h.2 hc
      refine lv_iconst (v := 1) hx hb dX5_fail_15 (by decide) ?_
      refine lv_goto (tgt := 20) hx hb dX5_fail_16 (by decide) ?_
      exact t_X5_fail_20 hC hin hO S o (some o) 1 _ _ _ h hT (lv_sub hl [0] rfl)
/-! X5_skip -/
abbrev rm_X5_skip : Room := { frames := 1, cells := 0, slots := 0, locals := 21 }
def w_X5_skip_20 (post : cs_S → Prop) (G : Nat → Nat) (S : cs_S)  : Prop := post S
section
variable {p : Program} {l : Launch} {e : Env} {s : State} {m : MethodId} {args : Array Value} {below : List Frame} {meth : Method} {c : Code} {P : hw_G} {G : Nat → Nat} {A : Nat → Prop}
set_option maxRecDepth 100000 in
set_option maxHeartbeats 4000000 in
theorem t_X5_skip_20 {post : cs_S → Prop} (hC : rf_C P RX5 p s m meth c cX5_skip 2 none) (hin : meth.name = yX5_skip.name) (hO : cs_O G A s s.heap) (S : cs_S)  (H : Heap) (locs : List Loc) (ls : Array Slot) (h : w_X5_skip_20 post G S ) (hT : cs_T P s A S H locs) (hl : lv_has ls 2 []) : W p l e rm_X5_skip s m args below meth c H locs 0 0 (MQ below (cs_Qv P A post) args s 0 0 A) (F0 m 20 ls []) := by
  obtain ⟨hx, hb, hml, hown, hK, -, -⟩ := id hC
  exact cs_vret hC hT h dX5_skip_20 (Nat.le_refl _) (Nat.le_refl _)
end
def wp_X5_skip (post : cs_S → Prop) (G : Nat → Nat) (S : cs_S) (o : Nat) (p1 : Int32) : Prop := cs_k S o = 7 ∧ (¬ (cs_i S 606 o) = p1 → wp_X5_fail (fun S5 => w_X5_skip_20 post G S5) G S o 2) ∧ ((cs_i S 606 o) = p1 → wp_X5_step (fun S6 => w_X5_skip_20 post G S6) G S o)
set_option maxRecDepth 100000 in
set_option maxHeartbeats 4000000 in
theorem c_X5_skip {l : Launch} {P : hw_G} {G : Nat → Nat} {S : cs_S} {sz : Nat} {o : Nat} {p1 : Int32} {post : cs_S → Prop} (h : wp_X5_skip post G S o p1) : Met l yX5_skip [Cond.code yX5_skip cX5_skip 2 none] rm_X5_skip (cs_Pc P G S sz [.ref o, .int p1]) (cs_Qv P (cs_A S sz) post) 0 0 (cs_A S sz) := by
  refine cs_met (by decide) rfl (Nat.le_of_ble_eq_true rfl) ?_
  intro p e s m below meth c ls hC hin hO hT hl
  obtain ⟨hx, hb, hml, hown, hK, -, -⟩ := id hC
  replace hl : lv_has ls 2 [(0, .ref o), (1, .int p1)] := hl
  refine lv_aload_n (x := o) hx hb dX5_skip_0 rfl (lv_at hl 0 rfl) ?_
  obtain ⟨hk4_, h⟩ := h
  refine cs_get hx hb hK hT hown 6 hk4_ (by decide) rfl 6 (by decide) kfX5_27 (v := .int (cs_i S 606 o)) rfl dX5_skip_1 ?_
  refine lv_iload_n hx hb dX5_skip_4 rfl (lv_at hl 1 rfl) ?_
  refine lv_icmp_ne (tgt := 15) hx hb dX5_skip_5 (by decide) (fun hc => ?_) (fun hc => ?_)
  · replace h := h.1 hc
    refine lv_aload_n (x := o) hx hb dX5_skip_15 rfl (lv_at hl 0 rfl) ?_
    refine lv_iconst (v := 2) hx hb dX5_skip_16 (by decide) ?_
    refine cs_callv0 (cs_runV hx hb hml hown hK hO hT 6 hk4_ (by decide) rfl (c_X5_fail h) rfl rfl klX5_46 ki_X5_fail ks_X5_fail kn_X5 kc_X5_fail 1 ⟨rfl, by decide, by decide, by decide +kernel⟩ ⟨by decide, by decide⟩ rfl hl.1 rfl (hw_cat8 (Nat.le_of_ble_eq_true rfl)) ⟨(Nat.le_refl _), (Nat.le_refl _)⟩ dX5_skip_17) hT (fun S5 H locs h_ hT_ => ?_)
    replace h := h_
    replace hT := hT_
    exact t_X5_skip_20 hC hin hO S5 _ _ _ h hT (lv_sub hl [] rfl)
  · replace h := h.2 hc
    refine lv_aload_n (x := o) hx hb dX5_skip_8 rfl (lv_at hl 0 rfl) ?_
    refine cs_callv0 (cs_runV hx hb hml hown hK hO hT 6 hk4_ (by decide) rfl (c_X5_step h) rfl rfl klX5_43 ki_X5_step ks_X5_step kn_X5 kc_X5_step 0 ⟨rfl, by decide, by decide, by decide +kernel⟩ ⟨by decide, by decide⟩ rfl hl.1 rfl (hw_cat8 (Nat.le_of_ble_eq_true rfl)) ⟨(Nat.le_refl _), (Nat.le_refl _)⟩ dX5_skip_9) hT (fun S6 H locs h_ hT_ => ?_)
    replace h := h_
    replace hT := hT_
    refine lv_goto (tgt := 20) hx hb dX5_skip_12 (by decide) ?_
    exact t_X5_skip_20 hC hin hO S6 _ _ _ h hT (lv_sub hl [] rfl)
/-! X7_init -/
abbrev rm_X7_init (mc ms : Nat) : Room := { frames := 1, cells := mc, slots := ms, locals := 24 }
def wp_X7_init (post : cs_S → Prop) (G : Nat → Nat) (mc ms : Nat) (S : cs_S) (o : Nat) (p1 : Int32) : Prop := cs_k S o = 9 ∧ ∀ S20, S20 = cs_ui S 800 o p1 → ¬ (5 : Int32) < 0 ∧ (5 : Int32).toNatClampNeg * 4 ≤ 536870912 ∧ 0 + 1 ≤ mc ∧ 0 + (5 : Int32).toNatClampNeg ≤ ms ∧ ∀ q21, cs_k S20 q21 = 0 → ∀ S22, S22 = cs_newA S20 q21 24 (5 : Int32).toNatClampNeg → cs_k S22 o = 9 ∧ ∀ S24, S24 = cs_ur S22 805 o (some q21) → ¬ (3 : Int32) < 0 ∧ (3 : Int32).toNatClampNeg * componentBytes (cs_aty 21) ≤ 536870912 ∧ 0 + 1 + 1 ≤ mc ∧ 0 + (5 : Int32).toNatClampNeg + (3 : Int32).toNatClampNeg ≤ ms ∧ ∀ q25, cs_k S24 q25 = 0 → ∀ S26, S26 = cs_newA S24 q25 21 (3 : Int32).toNatClampNeg → cs_k S26 o = 9 ∧ ∀ S28, S28 = cs_ur S26 808 o (some q25) → ¬ (4 : Int32) < 0 ∧ (4 : Int32).toNatClampNeg * 4 ≤ 536870912 ∧ 0 + 1 + 1 + 1 ≤ mc ∧ 0 + (5 : Int32).toNatClampNeg + (3 : Int32).toNatClampNeg + (4 : Int32).toNatClampNeg ≤ ms ∧ ∀ q29, cs_k S28 q29 = 0 → ∀ S30, S30 = cs_newA S28 q29 26 (4 : Int32).toNatClampNeg → cs_k S30 o = 9 ∧ ∀ S32, S32 = cs_ur S30 817 o (some q29) → ¬ (0 : Int32) < 0 ∧ (0 : Int32).toNatClampNeg * 4 ≤ 536870912 ∧ 0 + 1 + 1 + 1 + 1 ≤ mc ∧ 0 + (5 : Int32).toNatClampNeg + (3 : Int32).toNatClampNeg + (4 : Int32).toNatClampNeg + (0 : Int32).toNatClampNeg ≤ ms ∧ ∀ q33, cs_k S32 q33 = 0 → ∀ S34, S34 = cs_newA S32 q33 25 (0 : Int32).toNatClampNeg → cs_k S34 o = 9 ∧ ∀ S36, S36 = cs_ur S34 816 o (some q33) → post S36
set_option maxRecDepth 100000 in
set_option maxHeartbeats 4000000 in
theorem c_X7_init {l : Launch} {P : hw_G} {G : Nat → Nat} {S : cs_S} {sz : Nat} {mc ms : Nat} {o : Nat} {p1 : Int32} {post : cs_S → Prop} (h : wp_X7_init post G mc ms S o p1) : Met l yX7_init [Cond.code yX7_init cX7_init 2 none] (rm_X7_init mc ms) (cs_Pc P G S sz [.ref o, .int p1]) (cs_Qv P (cs_A S sz) post) mc ms (cs_A S sz) := by
  refine cs_met (by decide) rfl (Nat.le_of_ble_eq_true rfl) ?_
  intro p e s m below meth c ls hC hin hO hT hl
  obtain ⟨hx, hb, hml, hown, hK, -, -⟩ := id hC
  replace hl : lv_has ls 2 [(0, .ref o), (1, .int p1)] := hl
  refine lv_aload_n (x := o) hx hb dX7_init_0 rfl (lv_at hl 0 rfl) ?_
  refine cs_objInit hx hb hml hown hK hl.1 klX7_3 ki_obj kc_obj dX7_init_1 (Nat.le_of_ble_eq_true rfl) (hw_catN (Nat.le_of_ble_eq_true rfl) (Nat.le_of_ble_eq_true rfl)) ?_
  refine lv_aload_n (x := o) hx hb dX7_init_4 rfl (lv_at hl 0 rfl) ?_
  refine lv_iload_n hx hb dX7_init_5 rfl (lv_at hl 1 rfl) ?_
  obtain ⟨hk19_, h⟩ := h
  refine cs_putFi (x := p1) hx hb hK hT hown hin 8 hk19_ (by decide) rfl 0 (by decide) kfX7_9 rfl rfl (tyX7_ok 0 (by decide)) rfl 800 rfl dX7_init_6 (fun H locs hT_ => ?_)
  replace hT := hT_
  obtain ⟨S20, eS20⟩ : ∃ z, z = cs_ui S 800 o p1 := ⟨_, rfl⟩
  rw [← eS20] at hT
  replace h := h S20 eS20
  refine lv_aload_n (x := o) hx hb dX7_init_9 rfl (lv_at hl 0 rfl) ?_
  refine lv_iconst (v := 5) hx hb dX7_init_10 (by decide) ?_
  obtain ⟨hn1, hn2, hu21, hv21, h⟩ := h
  refine cs_anew hx hb hK hT hown 24 rfl kxX7_15 (by decide) (by decide) (by decide) hn1 hn2 hu21 hv21 dX7_init_11 (fun q21 H hq21 hT_ => ?_)
  replace h := h q21 hq21
  replace hT := hT_
  obtain ⟨S22, eS22⟩ : ∃ z, z = cs_newA S20 q21 24 (5 : Int32).toNatClampNeg := ⟨_, rfl⟩
  rw [← eS22] at hT
  replace h := h S22 eS22
  obtain ⟨hk23_, h⟩ := h
  refine cs_putFr (x := (some q21)) hx hb hK hT hown hin 8 hk23_ (by decide) rfl 5 (by decide) kfX7_17 rfl rfl (tyX7_ok 5 (by decide)) rfl 805 rfl dX7_init_14 (fun H locs hT_ => ?_)
  replace hT := hT_
  obtain ⟨S24, eS24⟩ : ∃ z, z = cs_ur S22 805 o (some q21) := ⟨_, rfl⟩
  rw [← eS24] at hT
  replace h := h S24 eS24
  refine lv_aload_n (x := o) hx hb dX7_init_17 rfl (lv_at hl 0 rfl) ?_
  refine lv_iconst (v := 3) hx hb dX7_init_18 (by decide) ?_
  obtain ⟨hn1, hn2, hu25, hv25, h⟩ := h
  refine cs_newa hx hb hK hT 21 rfl ka_long (by decide) (by decide) rfl hn1 hn2 hu25 hv25 dX7_init_19 (fun q25 H hq25 hT_ => ?_)
  replace h := h q25 hq25
  replace hT := hT_
  obtain ⟨S26, eS26⟩ : ∃ z, z = cs_newA S24 q25 21 (3 : Int32).toNatClampNeg := ⟨_, rfl⟩
  rw [← eS26] at hT
  replace h := h S26 eS26
  obtain ⟨hk27_, h⟩ := h
  refine cs_putFr (x := (some q25)) hx hb hK hT hown hin 8 hk27_ (by decide) rfl 8 (by decide) kfX7_21 rfl rfl (tyX7_ok 8 (by decide)) rfl 808 rfl dX7_init_21 (fun H locs hT_ => ?_)
  replace hT := hT_
  obtain ⟨S28, eS28⟩ : ∃ z, z = cs_ur S26 808 o (some q25) := ⟨_, rfl⟩
  rw [← eS28] at hT
  replace h := h S28 eS28
  refine lv_aload_n (x := o) hx hb dX7_init_24 rfl (lv_at hl 0 rfl) ?_
  refine lv_iconst (v := 4) hx hb dX7_init_25 (by decide) ?_
  obtain ⟨hn1, hn2, hu29, hv29, h⟩ := h
  refine cs_anew hx hb hK hT hown 26 rfl kxX7_25 (by decide) (by decide) (by decide) hn1 hn2 hu29 hv29 dX7_init_26 (fun q29 H hq29 hT_ => ?_)
  replace h := h q29 hq29
  replace hT := hT_
  obtain ⟨S30, eS30⟩ : ∃ z, z = cs_newA S28 q29 26 (4 : Int32).toNatClampNeg := ⟨_, rfl⟩
  rw [← eS30] at hT
  replace h := h S30 eS30
  obtain ⟨hk31_, h⟩ := h
  refine cs_putFr (x := (some q29)) hx hb hK hT hown hin 8 hk31_ (by decide) rfl 17 (by decide) kfX7_27 rfl rfl (tyX7_ok 17 (by decide)) rfl 817 rfl dX7_init_29 (fun H locs hT_ => ?_)
  replace hT := hT_
  obtain ⟨S32, eS32⟩ : ∃ z, z = cs_ur S30 817 o (some q29) := ⟨_, rfl⟩
  rw [← eS32] at hT
  replace h := h S32 eS32
  refine lv_aload_n (x := o) hx hb dX7_init_32 rfl (lv_at hl 0 rfl) ?_
  refine lv_iconst (v := 0) hx hb dX7_init_33 (by decide) ?_
  obtain ⟨hn1, hn2, hu33, hv33, h⟩ := h
  refine cs_anew hx hb hK hT hown 25 rfl kxX7_31 (by decide) (by decide) (by decide) hn1 hn2 hu33 hv33 dX7_init_34 (fun q33 H hq33 hT_ => ?_)
  replace h := h q33 hq33
  replace hT := hT_
  obtain ⟨S34, eS34⟩ : ∃ z, z = cs_newA S32 q33 25 (0 : Int32).toNatClampNeg := ⟨_, rfl⟩
  rw [← eS34] at hT
  replace h := h S34 eS34
  obtain ⟨hk35_, h⟩ := h
  refine cs_putr (x := (some q33)) hx hb hK hT hown 8 hk35_ (by decide) rfl 16 (by decide) kfX7_33 rfl (tyX7_ok 16 (by decide)) rfl 816 rfl dX7_init_37 (fun H locs hT_ => ?_)
  replace hT := hT_
  obtain ⟨S36, eS36⟩ : ∃ z, z = cs_ur S34 816 o (some q33) := ⟨_, rfl⟩
  rw [← eS36] at hT
  replace h := h S36 eS36
  exact cs_vret hC hT h dX7_init_40 hu33 hv33
/-! X5_ruleNamed -/
abbrev rm_X5_ruleNamed : Room := { frames := 0, cells := 0, slots := 0, locals := 0 }
def w_X5_ruleNamed_41 (post : Int32 → cs_S → Prop) (G : Nat → Nat) (S : cs_S)  : Prop := post ((-1)) S
section
variable {p : Program} {l : Launch} {e : Env} {s : State} {m : MethodId} {args : Array Value} {below : List Frame} {meth : Method} {c : Code} {P : hw_G} {G : Nat → Nat} {A : Nat → Prop}
set_option maxRecDepth 100000 in
set_option maxHeartbeats 4000000 in
theorem t_X5_ruleNamed_41 {post : Int32 → cs_S → Prop} (hC : rf_C P RX5 p s m meth c cX5_ruleNamed 4 (some .int)) (hin : meth.name = yX5_ruleNamed.name) (hO : cs_O G A s s.heap) (S : cs_S)  (H : Heap) (locs : List Loc) (ls : Array Slot) (h : w_X5_ruleNamed_41 post G S ) (hT : cs_T P s A S H locs) (hl : lv_has ls 4 []) : W p l e rm_X5_ruleNamed s m args below meth c H locs 0 0 (MQ below (cs_Qi P A post) args s 0 0 A) (F0 m 41 ls []) := by
  obtain ⟨hx, hb, hml, hown, hK, -, -⟩ := id hC
  refine lv_iconst (v := (-1)) hx hb dX5_ruleNamed_41 (by decide) ?_
  exact cs_iret hC hT h dX5_ruleNamed_42 (Nat.le_refl _) (Nat.le_refl _)
end
def w_X5_ruleNamed_2 (post : Int32 → cs_S → Prop) (G : Nat → Nat) : Nat → cs_S → Nat → Int64 → Int32 → Prop
  | 0, _, _, _, _ => False
  | n + 1, S, x0, x1, x3 => cs_k S x0 = 7 ∧ ((cs_i S 601 x0) ≤ x3 → w_X5_ruleNamed_41 post G S) ∧ (¬ (cs_i S 601 x0) ≤ x3 → ∀ r12, r12 = cs_r S 600 x0 → ∃ b13, r12 = some b13 ∧ cs_k S b13 = 22 ∧ ((Int32.ofNat (cs_n S b13)) ≤ x3 → w_X5_ruleNamed_41 post G S) ∧ (¬ (Int32.ofNat (cs_n S b13)) ≤ x3 → ∀ r15, r15 = cs_r S 600 x0 → ∃ b16, r15 = some b16 ∧ cs_k S b16 = 22 ∧ vp_in x3 (cs_n S b16) ∧ ∀ r18, r18 = cs_ar S b16 x3.toNatClampNeg → ∃ b19, r18 = some b19 ∧ cs_k S b19 = 9 ∧ (¬ (lg_cmp (cs_l S 801 b19) x1) = 0 → w_X5_ruleNamed_2 post G n S x0 x1 (x3 + 1)) ∧ ((lg_cmp (cs_l S 801 b19) x1) = 0 → post x3 S)))
section
variable {p : Program} {l : Launch} {e : Env} {s : State} {m : MethodId} {args : Array Value} {below : List Frame} {meth : Method} {c : Code} {P : hw_G} {G : Nat → Nat} {A : Nat → Prop}
set_option maxRecDepth 100000 in
set_option maxHeartbeats 4000000 in
theorem t_X5_ruleNamed_2 {post : Int32 → cs_S → Prop} (hC : rf_C P RX5 p s m meth c cX5_ruleNamed 4 (some .int)) (hin : meth.name = yX5_ruleNamed.name) (hO : cs_O G A s s.heap) : ∀ (n : Nat) (S : cs_S) (x0 : Nat) (x1 : Int64) (x3 : Int32) (H : Heap) (locs : List Loc) (ls : Array Slot), w_X5_ruleNamed_2 post G n S x0 x1 x3 → cs_T P s A S H locs → lv_has ls 4 [(0, .ref x0), (1, .long x1), (3, .int x3)] → W p l e rm_X5_ruleNamed s m args below meth c H locs 0 0 (MQ below (cs_Qi P A post) args s 0 0 A) (F0 m 2 ls []) := by
  obtain ⟨hx, hb, hml, hown, hK, -, -⟩ := id hC
  intro n
  induction n with
  | zero => intro S x0 x1 x3 H locs ls h; exact False.elim h
  | succ n ih =>
    intro S x0 x1 x3 H locs ls h hT hl
    refine lv_iload_n hx hb dX5_ruleNamed_2 rfl (lv_at hl 2 rfl) ?_
    refine lv_aload_n (x := x0) hx hb dX5_ruleNamed_3 rfl (lv_at hl 0 rfl) ?_
    obtain ⟨hk11_, h⟩ := h
    refine cs_get hx hb hK hT hown 6 hk11_ (by decide) rfl 1 (by decide) kfX5_50 (v := .int (cs_i S 601 x0)) rfl dX5_ruleNamed_4 ?_
    refine lv_icmp_ge (tgt := 41) hx hb dX5_ruleNamed_7 (by decide) (fun hc => ?_) (fun hc => ?_)
    · replace h := h.1 hc
      exact t_X5_ruleNamed_41 hC hin hO S _ _ _ h hT (lv_sub hl [] rfl)
    · replace h := h.2 hc
      refine lv_iload_n hx hb dX5_ruleNamed_10 rfl (lv_at hl 2 rfl) ?_
      refine lv_aload_n (x := x0) hx hb dX5_ruleNamed_11 rfl (lv_at hl 0 rfl) ?_
      refine cs_get hx hb hK hT hown 6 hk11_ (by decide) rfl 0 (by decide) kfX5_17 (v := va_rf (cs_r S 600 x0)) rfl dX5_ruleNamed_12 ?_
      refine hw_topr (fun r12 er12 => ?_)
      replace h := h r12 er12
      obtain ⟨b13, rfl, h⟩ := h
      obtain ⟨hk14_, h⟩ := h
      refine cs_alen hx hb hK hT 22 hk14_ (by decide) (by decide) dX5_ruleNamed_15 ?_
      refine lv_icmp_ge (tgt := 41) hx hb dX5_ruleNamed_16 (by decide) (fun hc => ?_) (fun hc => ?_)
      · replace h := h.1 hc
        exact t_X5_ruleNamed_41 hC hin hO S _ _ _ h hT (lv_sub hl [] rfl)
      · replace h := h.2 hc
        refine lv_aload_n (x := x0) hx hb dX5_ruleNamed_19 rfl (lv_at hl 0 rfl) ?_
        refine cs_get hx hb hK hT hown 6 hk11_ (by decide) rfl 0 (by decide) kfX5_17 (v := va_rf (cs_r S 600 x0)) rfl dX5_ruleNamed_20 ?_
        refine hw_topr (fun r15 er15 => ?_)
        replace h := h r15 er15
        refine lv_iload_n hx hb dX5_ruleNamed_23 rfl (lv_at hl 2 rfl) ?_
        obtain ⟨b16, rfl, h⟩ := h
        obtain ⟨hk17_, h⟩ := h
        obtain ⟨hi, h⟩ := h
        refine cs_aald hx hb hK hT 22 hk17_ (by decide) rfl (by decide) hi dX5_ruleNamed_24 ?_
        refine hw_topr (fun r18 er18 => ?_)
        replace h := h r18 er18
        obtain ⟨b19, rfl, h⟩ := h
        obtain ⟨hk20_, h⟩ := h
        refine cs_get hx hb hK hT hown 8 hk20_ (by decide) rfl 1 (by decide) kfX5_59 (v := .long (cs_l S 801 b19)) rfl dX5_ruleNamed_25 ?_
        refine lv_lload_n hx hb dX5_ruleNamed_28 rfl (lv_at hl 1 rfl) ?_
        refine W.lcmp hx hb dX5_ruleNamed_29 ?_
        refine lv_if_ne (tgt := 35) hx hb dX5_ruleNamed_30 (by decide) (fun hc => ?_) (fun hc => ?_)
        · replace h := h.1 hc
          refine lv_iinc (v := x3 + 1) (lv' := [(3, _), (0, _), (1, _)]) hx hb dX5_ruleNamed_35 hl (k := 2) rfl rfl (by decide) rfl (fun ls hl_ => ?_)
          replace hl := hl_
          refine lv_goto (tgt := 2) hx hb dX5_ruleNamed_38 (by decide) ?_
          exact ih S x0 x1 (x3 + 1) _ _ _ h hT (lv_sub hl [1, 2, 0] rfl)
        · replace h := h.2 hc
          refine lv_iload_n hx hb dX5_ruleNamed_33 rfl (lv_at hl 2 rfl) ?_
          exact cs_iret hC hT h dX5_ruleNamed_34 (Nat.le_refl _) (Nat.le_refl _)
end
def wp_X5_ruleNamed (post : Int32 → cs_S → Prop) (G : Nat → Nat) (S : cs_S) (o : Nat) (p1 : Int64) : Prop := ∃ n9, w_X5_ruleNamed_2 post G n9 S o p1 0
set_option maxRecDepth 100000 in
set_option maxHeartbeats 4000000 in
theorem c_X5_ruleNamed {l : Launch} {P : hw_G} {G : Nat → Nat} {S : cs_S} {sz : Nat} {o : Nat} {p1 : Int64} {post : Int32 → cs_S → Prop} (h : wp_X5_ruleNamed post G S o p1) : Met l yX5_ruleNamed [Cond.code yX5_ruleNamed cX5_ruleNamed 4 (some .int)] rm_X5_ruleNamed (cs_Pc P G S sz [.ref o, .long p1]) (cs_Qi P (cs_A S sz) post) 0 0 (cs_A S sz) := by
  refine cs_met (by decide) rfl (Nat.le_of_ble_eq_true rfl) ?_
  intro p e s m below meth c ls hC hin hO hT hl
  obtain ⟨hx, hb, hml, hown, hK, -, -⟩ := id hC
  replace hl : lv_has ls 4 [(0, .ref o), (1, .long p1)] := hl
  refine lv_iconst (v := 0) hx hb dX5_ruleNamed_0 (by decide) ?_
  refine lv_istore_n (lv' := [(3, _), (0, _), (1, _)]) hx hb dX5_ruleNamed_1 rfl hl (by decide) rfl (fun ls hl_ => ?_)
  replace hl := hl_
  obtain ⟨n9, h⟩ := h
  exact t_X5_ruleNamed_2 hC hin hO n9 S o p1 0 _ _ _ h hT (lv_sub hl [1, 2, 0] rfl)
/-! X5_readName -/
abbrev rm_X5_readName : Room := { frames := 1, cells := 0, slots := 0, locals := 21 }
def wp_X5_readName (post : Int64 → cs_S → Prop) (G : Nat → Nat) (S : cs_S) (o : Nat) : Prop := cs_k S o = 7 ∧ ((cs_i S 606 o) = 2 → ∀ r11, r11 = cs_r S 604 o → ∃ b12, r11 = some b12 ∧ cs_k S b12 = 10 ∧ ∀ r14, r14 = cs_r S 902 b12 → ∃ b15, r14 = some b15 ∧ cs_k S b15 = 21 ∧ vp_in (cs_i S 605 o) (cs_n S b15) ∧ wp_X5_step (fun S17 => post (cs_al S b15 (cs_i S 605 o).toNatClampNeg) S17) G S o) ∧ (¬ (cs_i S 606 o) = 2 → wp_X5_fail (fun S18 => post 0 S18) G S o 2)
set_option maxRecDepth 100000 in
set_option maxHeartbeats 4000000 in
theorem c_X5_readName {l : Launch} {P : hw_G} {G : Nat → Nat} {S : cs_S} {sz : Nat} {o : Nat} {post : Int64 → cs_S → Prop} (h : wp_X5_readName post G S o) : Met l yX5_readName [Cond.code yX5_readName cX5_readName 3 (some .long)] rm_X5_readName (cs_Pc P G S sz [.ref o]) (cs_Ql P (cs_A S sz) post) 0 0 (cs_A S sz) := by
  refine cs_met (by decide) rfl (Nat.le_of_ble_eq_true rfl) ?_
  intro p e s m below meth c ls hC hin hO hT hl
  obtain ⟨hx, hb, hml, hown, hK, -, -⟩ := id hC
  replace hl : lv_has ls 3 [(0, .ref o)] := hl
  refine lv_aload_n (x := o) hx hb dX5_readName_0 rfl (lv_at hl 0 rfl) ?_
  obtain ⟨hk10_, h⟩ := h
  refine cs_get hx hb hK hT hown 6 hk10_ (by decide) rfl 6 (by decide) kfX5_27 (v := .int (cs_i S 606 o)) rfl dX5_readName_1 ?_
  refine lv_iconst (v := 2) hx hb dX5_readName_4 (by decide) ?_
  refine lv_icmp_eq (tgt := 15) hx hb dX5_readName_5 (by decide) (fun hc => ?_) (fun hc => ?_)
  · replace h := h.1 hc
    refine lv_aload_n (x := o) hx hb dX5_readName_15 rfl (lv_at hl 0 rfl) ?_
    refine cs_get hx hb hK hT hown 6 hk10_ (by decide) rfl 4 (by decide) kfX5_9 (v := va_rf (cs_r S 604 o)) rfl dX5_readName_16 ?_
    refine hw_topr (fun r11 er11 => ?_)
    replace h := h r11 er11
    obtain ⟨b12, rfl, h⟩ := h
    obtain ⟨hk13_, h⟩ := h
    refine cs_get hx hb hK hT hown 9 hk13_ (by decide) rfl 2 (by decide) kfX5_87 (v := va_rf (cs_r S 902 b12)) rfl dX5_readName_19 ?_
    refine hw_topr (fun r14 er14 => ?_)
    replace h := h r14 er14
    refine lv_aload_n (x := o) hx hb dX5_readName_22 rfl (lv_at hl 0 rfl) ?_
    refine cs_get hx hb hK hT hown 6 hk10_ (by decide) rfl 5 (by decide) kfX5_34 (v := .int (cs_i S 605 o)) rfl dX5_readName_23 ?_
    obtain ⟨b15, rfl, h⟩ := h
    obtain ⟨hk16_, h⟩ := h
    obtain ⟨hi, h⟩ := h
    refine cs_lald hx hb hK hT hk16_ hi dX5_readName_26 ?_
    refine lv_lstore_n (lv' := [(1, _), (0, _)]) hx hb dX5_readName_27 rfl hl (by decide) rfl (fun ls hl_ => ?_)
    replace hl := hl_
    refine lv_aload_n (x := o) hx hb dX5_readName_28 rfl (lv_at hl 1 rfl) ?_
    refine cs_callv0 (cs_runV hx hb hml hown hK hO hT 6 hk10_ (by decide) rfl (c_X5_step h) rfl rfl klX5_43 ki_X5_step ks_X5_step kn_X5 kc_X5_step 0 ⟨rfl, by decide, by decide, by decide +kernel⟩ ⟨by decide, by decide⟩ rfl hl.1 rfl (hw_cat8 (Nat.le_of_ble_eq_true rfl)) ⟨(Nat.le_refl _), (Nat.le_refl _)⟩ dX5_readName_29) hT (fun S17 H locs h_ hT_ => ?_)
    replace h := h_
    replace hT := hT_
    refine lv_lload_n hx hb dX5_readName_32 rfl (lv_at hl 0 rfl) ?_
    exact cs_lret hC hT h dX5_readName_33 (Nat.le_refl _) (Nat.le_refl _)
  · replace h := h.2 hc
    refine lv_aload_n (x := o) hx hb dX5_readName_8 rfl (lv_at hl 0 rfl) ?_
    refine lv_iconst (v := 2) hx hb dX5_readName_9 (by decide) ?_
    refine cs_callv0 (cs_runV hx hb hml hown hK hO hT 6 hk10_ (by decide) rfl (c_X5_fail h) rfl rfl klX5_46 ki_X5_fail ks_X5_fail kn_X5 kc_X5_fail 1 ⟨rfl, by decide, by decide, by decide +kernel⟩ ⟨by decide, by decide⟩ rfl hl.1 rfl (hw_cat8 (Nat.le_of_ble_eq_true rfl)) ⟨(Nat.le_refl _), (Nat.le_refl _)⟩ dX5_readName_10) hT (fun S18 H locs h_ hT_ => ?_)
    replace h := h_
    replace hT := hT_
    refine lv_lconst (v := 0) hx hb dX5_readName_13 (by decide) ?_
    exact cs_lret hC hT h dX5_readName_14 (Nat.le_refl _) (Nat.le_refl _)
/-! X5_readNewName -/
abbrev rm_X5_readNewName : Room := { frames := 2, cells := 0, slots := 0, locals := 43 }
def w_X5_readNewName_35 (post : Int64 → cs_S → Prop) (G : Nat → Nat) (S : cs_S) (x0 : Nat) : Prop := cs_k S x0 = 7 ∧ wp_X5_readName (fun r12 S12 => post r12 S12) G S x0
section
variable {p : Program} {l : Launch} {e : Env} {s : State} {m : MethodId} {args : Array Value} {below : List Frame} {meth : Method} {c : Code} {P : hw_G} {G : Nat → Nat} {A : Nat → Prop}
set_option maxRecDepth 100000 in
set_option maxHeartbeats 4000000 in
theorem t_X5_readNewName_35 {post : Int64 → cs_S → Prop} (hC : rf_C P RX5 p s m meth c cX5_readNewName 1 (some .long)) (hin : meth.name = yX5_readNewName.name) (hO : cs_O G A s s.heap) (S : cs_S) (x0 : Nat) (H : Heap) (locs : List Loc) (ls : Array Slot) (h : w_X5_readNewName_35 post G S x0) (hT : cs_T P s A S H locs) (hl : lv_has ls 1 [(0, .ref x0)]) : W p l e rm_X5_readNewName s m args below meth c H locs 0 0 (MQ below (cs_Ql P A post) args s 0 0 A) (F0 m 35 ls []) := by
  obtain ⟨hx, hb, hml, hown, hK, -, -⟩ := id hC
  refine lv_aload_n (x := x0) hx hb dX5_readNewName_35 rfl (lv_at hl 0 rfl) ?_
  obtain ⟨hk13_, h⟩ := h
  refine cs_calll0 (cs_runV hx hb hml hown hK hO hT 6 hk13_ (by decide) rfl (c_X5_readName h) rfl rfl klX5_95 ki_X5_readName ks_X5_readName kn_X5 kc_X5_readName 0 ⟨rfl, by decide, by decide, by decide +kernel⟩ ⟨by decide, by decide⟩ rfl hl.1 rfl (hw_cat8 (Nat.le_of_ble_eq_true rfl)) ⟨(Nat.le_refl _), (Nat.le_refl _)⟩ dX5_readNewName_36) hT (fun r12 S12 H locs h_ hT_ => ?_)
  replace h := h_
  replace hT := hT_
  exact cs_lret hC hT h dX5_readNewName_39 (Nat.le_refl _) (Nat.le_refl _)
end
def wp_X5_readNewName (post : Int64 → cs_S → Prop) (G : Nat → Nat) (S : cs_S) (o : Nat) : Prop := cs_k S o = 7 ∧ (¬ (cs_i S 606 o) = 2 → w_X5_readNewName_35 post G S o) ∧ ((cs_i S 606 o) = 2 → ∀ r15, r15 = cs_r S 604 o → ∃ b16, r15 = some b16 ∧ cs_k S b16 = 10 ∧ ∀ r18, r18 = cs_r S 902 b16 → ∃ b19, r18 = some b19 ∧ cs_k S b19 = 21 ∧ vp_in (cs_i S 605 o) (cs_n S b19) ∧ wp_X5_ruleNamed (fun r21 S21 => (r21 = ((-1)) → w_X5_readNewName_35 post G S21 o) ∧ (¬ r21 = ((-1)) → cs_k S21 o = 7 ∧ wp_X5_fail (fun S22 => post 0 S22) G S21 o 5)) G S o (cs_al S b19 (cs_i S 605 o).toNatClampNeg))
set_option maxRecDepth 100000 in
set_option maxHeartbeats 4000000 in
theorem c_X5_readNewName {l : Launch} {P : hw_G} {G : Nat → Nat} {S : cs_S} {sz : Nat} {o : Nat} {post : Int64 → cs_S → Prop} (h : wp_X5_readNewName post G S o) : Met l yX5_readNewName [Cond.code yX5_readNewName cX5_readNewName 1 (some .long)] rm_X5_readNewName (cs_Pc P G S sz [.ref o]) (cs_Ql P (cs_A S sz) post) 0 0 (cs_A S sz) := by
  refine cs_met (by decide) rfl (Nat.le_of_ble_eq_true rfl) ?_
  intro p e s m below meth c ls hC hin hO hT hl
  obtain ⟨hx, hb, hml, hown, hK, -, -⟩ := id hC
  replace hl : lv_has ls 1 [(0, .ref o)] := hl
  refine lv_aload_n (x := o) hx hb dX5_readNewName_0 rfl (lv_at hl 0 rfl) ?_
  obtain ⟨hk14_, h⟩ := h
  refine cs_get hx hb hK hT hown 6 hk14_ (by decide) rfl 6 (by decide) kfX5_27 (v := .int (cs_i S 606 o)) rfl dX5_readNewName_1 ?_
  refine lv_iconst (v := 2) hx hb dX5_readNewName_4 (by decide) ?_
  refine lv_icmp_ne (tgt := 35) hx hb dX5_readNewName_5 (by decide) (fun hc => ?_) (fun hc => ?_)
  · replace h := h.1 hc
    exact t_X5_readNewName_35 hC hin hO S o _ _ _ h hT (lv_sub hl [0] rfl)
  · replace h := h.2 hc
    refine lv_aload_n (x := o) hx hb dX5_readNewName_8 rfl (lv_at hl 0 rfl) ?_
    refine lv_aload_n (x := o) hx hb dX5_readNewName_9 rfl (lv_at hl 0 rfl) ?_
    refine cs_get hx hb hK hT hown 6 hk14_ (by decide) rfl 4 (by decide) kfX5_9 (v := va_rf (cs_r S 604 o)) rfl dX5_readNewName_10 ?_
    refine hw_topr (fun r15 er15 => ?_)
    replace h := h r15 er15
    obtain ⟨b16, rfl, h⟩ := h
    obtain ⟨hk17_, h⟩ := h
    refine cs_get hx hb hK hT hown 9 hk17_ (by decide) rfl 2 (by decide) kfX5_87 (v := va_rf (cs_r S 902 b16)) rfl dX5_readNewName_13 ?_
    refine hw_topr (fun r18 er18 => ?_)
    replace h := h r18 er18
    refine lv_aload_n (x := o) hx hb dX5_readNewName_16 rfl (lv_at hl 0 rfl) ?_
    refine cs_get hx hb hK hT hown 6 hk14_ (by decide) rfl 5 (by decide) kfX5_34 (v := .int (cs_i S 605 o)) rfl dX5_readNewName_17 ?_
    obtain ⟨b19, rfl, h⟩ := h
    obtain ⟨hk20_, h⟩ := h
    obtain ⟨hi, h⟩ := h
    refine cs_lald hx hb hK hT hk20_ hi dX5_readNewName_20 ?_
    refine cs_calli0 (cs_runV hx hb hml hown hK hO hT 6 hk14_ (by decide) rfl (c_X5_ruleNamed h) rfl rfl klX5_91 ki_X5_ruleNamed ks_X5_ruleNamed kn_X5 kc_X5_ruleNamed 1 ⟨rfl, by decide, by decide, by decide +kernel⟩ ⟨by decide, by decide⟩ rfl hl.1 rfl (hw_cat8 (Nat.le_of_ble_eq_true rfl)) ⟨(Nat.le_refl _), (Nat.le_refl _)⟩ dX5_readNewName_21) hT (fun r21 S21 H locs h_ hT_ => ?_)
    replace h := h_
    replace hT := hT_
    refine lv_iconst (v := (-1)) hx hb dX5_readNewName_24 (by decide) ?_
    refine lv_icmp_eq (tgt := 35) hx hb dX5_readNewName_25 (by decide) (fun hc => ?_) (fun hc => ?_)
    · replace h := h.1 hc
      exact t_X5_readNewName_35 hC hin hO S21 o _ _ _ h hT (lv_sub hl [0] rfl)
    · replace h := h.2 hc
      refine lv_aload_n (x := o) hx hb dX5_readNewName_28 rfl (lv_at hl 0 rfl) ?_
      refine lv_iconst (v := 5) hx hb dX5_readNewName_29 (by decide) ?_
      obtain ⟨hk23_, h⟩ := h
      refine cs_callv0 (cs_runV hx hb hml hown hK hO hT 6 hk23_ (by decide) rfl (c_X5_fail h) rfl rfl klX5_46 ki_X5_fail ks_X5_fail kn_X5 kc_X5_fail 1 ⟨rfl, by decide, by decide, by decide +kernel⟩ ⟨by decide, by decide⟩ rfl hl.1 rfl (hw_cat8 (Nat.le_of_ble_eq_true rfl)) ⟨(Nat.le_refl _), (Nat.le_refl _)⟩ dX5_readNewName_30) hT (fun S22 H locs h_ hT_ => ?_)
      replace h := h_
      replace hT := hT_
      refine lv_lconst (v := 0) hx hb dX5_readNewName_33 (by decide) ?_
      exact cs_lret hC hT h dX5_readNewName_34 (Nat.le_refl _) (Nat.le_refl _)
/-! X5_readNumber -/
abbrev rm_X5_readNumber : Room := { frames := 1, cells := 0, slots := 0, locals := 21 }
def w_X5_readNumber_39 (post : Int32 → cs_S → Prop) (G : Nat → Nat) (S : cs_S) (x0 : Nat) : Prop := cs_k S x0 = 7 ∧ wp_X5_fail (fun S11 => post 0 S11) G S x0 3
section
variable {p : Program} {l : Launch} {e : Env} {s : State} {m : MethodId} {args : Array Value} {below : List Frame} {meth : Method} {c : Code} {P : hw_G} {G : Nat → Nat} {A : Nat → Prop}
set_option maxRecDepth 100000 in
set_option maxHeartbeats 4000000 in
theorem t_X5_readNumber_39 {post : Int32 → cs_S → Prop} (hC : rf_C P RX5 p s m meth c cX5_readNumber 4 (some .int)) (hin : meth.name = yX5_readNumber.name) (hO : cs_O G A s s.heap) (S : cs_S) (x0 : Nat) (H : Heap) (locs : List Loc) (ls : Array Slot) (h : w_X5_readNumber_39 post G S x0) (hT : cs_T P s A S H locs) (hl : lv_has ls 4 [(0, .ref x0)]) : W p l e rm_X5_readNumber s m args below meth c H locs 0 0 (MQ below (cs_Qi P A post) args s 0 0 A) (F0 m 39 ls []) := by
  obtain ⟨hx, hb, hml, hown, hK, -, -⟩ := id hC
  refine lv_aload_n (x := x0) hx hb dX5_readNumber_39 rfl (lv_at hl 0 rfl) ?_
  refine lv_iconst (v := 3) hx hb dX5_readNumber_40 (by decide) ?_
  obtain ⟨hk12_, h⟩ := h
  refine cs_callv0 (cs_runV hx hb hml hown hK hO hT 6 hk12_ (by decide) rfl (c_X5_fail h) rfl rfl klX5_46 ki_X5_fail ks_X5_fail kn_X5 kc_X5_fail 1 ⟨rfl, by decide, by decide, by decide +kernel⟩ ⟨by decide, by decide⟩ rfl hl.1 rfl (hw_cat8 (Nat.le_of_ble_eq_true rfl)) ⟨(Nat.le_refl _), (Nat.le_refl _)⟩ dX5_readNumber_41) hT (fun S11 H locs h_ hT_ => ?_)
  replace h := h_
  replace hT := hT_
  refine lv_iconst (v := 0) hx hb dX5_readNumber_44 (by decide) ?_
  exact cs_iret hC hT h dX5_readNumber_45 (Nat.le_refl _) (Nat.le_refl _)
end
def wp_X5_readNumber (post : Int32 → cs_S → Prop) (G : Nat → Nat) (S : cs_S) (o : Nat) (p1 : Int32) (p2 : Int32) : Prop := cs_k S o = 7 ∧ ((cs_i S 606 o) = 3 → ∀ r14, r14 = cs_r S 604 o → ∃ b15, r14 = some b15 ∧ cs_k S b15 = 10 ∧ ∀ r17, r17 = cs_r S 902 b15 → ∃ b18, r17 = some b18 ∧ cs_k S b18 = 21 ∧ vp_in (cs_i S 605 o) (cs_n S b18) ∧ (((cs_al S b18 (cs_i S 605 o).toNatClampNeg).toInt32) < p1 → w_X5_readNumber_39 post G S o) ∧ (¬ ((cs_al S b18 (cs_i S 605 o).toNatClampNeg).toInt32) < p1 → (((cs_al S b18 (cs_i S 605 o).toNatClampNeg).toInt32) ≤ p2 → wp_X5_step (fun S20 => post ((cs_al S b18 (cs_i S 605 o).toNatClampNeg).toInt32) S20) G S o) ∧ (¬ ((cs_al S b18 (cs_i S 605 o).toNatClampNeg).toInt32) ≤ p2 → w_X5_readNumber_39 post G S o))) ∧ (¬ (cs_i S 606 o) = 3 → wp_X5_fail (fun S21 => post 0 S21) G S o 2)
set_option maxRecDepth 100000 in
set_option maxHeartbeats 4000000 in
theorem c_X5_readNumber {l : Launch} {P : hw_G} {G : Nat → Nat} {S : cs_S} {sz : Nat} {o : Nat} {p1 : Int32} {p2 : Int32} {post : Int32 → cs_S → Prop} (h : wp_X5_readNumber post G S o p1 p2) : Met l yX5_readNumber [Cond.code yX5_readNumber cX5_readNumber 4 (some .int)] rm_X5_readNumber (cs_Pc P G S sz [.ref o, .int p1, .int p2]) (cs_Qi P (cs_A S sz) post) 0 0 (cs_A S sz) := by
  refine cs_met (by decide) rfl (Nat.le_of_ble_eq_true rfl) ?_
  intro p e s m below meth c ls hC hin hO hT hl
  obtain ⟨hx, hb, hml, hown, hK, -, -⟩ := id hC
  replace hl : lv_has ls 4 [(0, .ref o), (1, .int p1), (2, .int p2)] := hl
  refine lv_aload_n (x := o) hx hb dX5_readNumber_0 rfl (lv_at hl 0 rfl) ?_
  obtain ⟨hk13_, h⟩ := h
  refine cs_get hx hb hK hT hown 6 hk13_ (by decide) rfl 6 (by decide) kfX5_27 (v := .int (cs_i S 606 o)) rfl dX5_readNumber_1 ?_
  refine lv_iconst (v := 3) hx hb dX5_readNumber_4 (by decide) ?_
  refine lv_icmp_eq (tgt := 15) hx hb dX5_readNumber_5 (by decide) (fun hc => ?_) (fun hc => ?_)
  · replace h := h.1 hc
    refine lv_aload_n (x := o) hx hb dX5_readNumber_15 rfl (lv_at hl 0 rfl) ?_
    refine cs_get hx hb hK hT hown 6 hk13_ (by decide) rfl 4 (by decide) kfX5_9 (v := va_rf (cs_r S 604 o)) rfl dX5_readNumber_16 ?_
    refine hw_topr (fun r14 er14 => ?_)
    replace h := h r14 er14
    obtain ⟨b15, rfl, h⟩ := h
    obtain ⟨hk16_, h⟩ := h
    refine cs_get hx hb hK hT hown 9 hk16_ (by decide) rfl 2 (by decide) kfX5_87 (v := va_rf (cs_r S 902 b15)) rfl dX5_readNumber_19 ?_
    refine hw_topr (fun r17 er17 => ?_)
    replace h := h r17 er17
    refine lv_aload_n (x := o) hx hb dX5_readNumber_22 rfl (lv_at hl 0 rfl) ?_
    refine cs_get hx hb hK hT hown 6 hk13_ (by decide) rfl 5 (by decide) kfX5_34 (v := .int (cs_i S 605 o)) rfl dX5_readNumber_23 ?_
    obtain ⟨b18, rfl, h⟩ := h
    obtain ⟨hk19_, h⟩ := h
    obtain ⟨hi, h⟩ := h
    refine cs_lald hx hb hK hT hk19_ hi dX5_readNumber_26 ?_
    refine lv_l2i (v := (cs_al S b18 (cs_i S 605 o).toNatClampNeg).toInt32) hx hb dX5_readNumber_27 rfl ?_
    refine lv_istore_n (lv' := [(3, _), (0, _), (1, _), (2, _)]) hx hb dX5_readNumber_28 rfl hl (by decide) rfl (fun ls hl_ => ?_)
    replace hl := hl_
    refine lv_iload_n hx hb dX5_readNumber_29 rfl (lv_at hl 0 rfl) ?_
    refine lv_iload_n hx hb dX5_readNumber_30 rfl (lv_at hl 2 rfl) ?_
    refine lv_icmp_lt (tgt := 39) hx hb dX5_readNumber_31 (by decide) (fun hc => ?_) (fun hc => ?_)
    · replace h := h.1 hc
      exact t_X5_readNumber_39 hC hin hO S o _ _ _ h hT (lv_sub hl [1] rfl)
    · replace h := h.2 hc
      refine lv_iload_n hx hb dX5_readNumber_34 rfl (lv_at hl 0 rfl) ?_
      refine lv_iload_n hx hb dX5_readNumber_35 rfl (lv_at hl 3 rfl) ?_
      refine lv_icmp_le (tgt := 46) hx hb dX5_readNumber_36 (by decide) (fun hc => ?_) (fun hc => ?_)
      · replace h := h.1 hc
        refine lv_aload_n (x := o) hx hb dX5_readNumber_46 rfl (lv_at hl 1 rfl) ?_
        refine cs_callv0 (cs_runV hx hb hml hown hK hO hT 6 hk13_ (by decide) rfl (c_X5_step h) rfl rfl klX5_43 ki_X5_step ks_X5_step kn_X5 kc_X5_step 0 ⟨rfl, by decide, by decide, by decide +kernel⟩ ⟨by decide, by decide⟩ rfl hl.1 rfl (hw_cat8 (Nat.le_of_ble_eq_true rfl)) ⟨(Nat.le_refl _), (Nat.le_refl _)⟩ dX5_readNumber_47) hT (fun S20 H locs h_ hT_ => ?_)
        replace h := h_
        replace hT := hT_
        refine lv_iload_n hx hb dX5_readNumber_50 rfl (lv_at hl 0 rfl) ?_
        exact cs_iret hC hT h dX5_readNumber_51 (Nat.le_refl _) (Nat.le_refl _)
      · replace h := h.2 hc
        exact t_X5_readNumber_39 hC hin hO S o _ _ _ h hT (lv_sub hl [1] rfl)
  · replace h := h.2 hc
    refine lv_aload_n (x := o) hx hb dX5_readNumber_8 rfl (lv_at hl 0 rfl) ?_
    refine lv_iconst (v := 2) hx hb dX5_readNumber_9 (by decide) ?_
    refine cs_callv0 (cs_runV hx hb hml hown hK hO hT 6 hk13_ (by decide) rfl (c_X5_fail h) rfl rfl klX5_46 ki_X5_fail ks_X5_fail kn_X5 kc_X5_fail 1 ⟨rfl, by decide, by decide, by decide +kernel⟩ ⟨by decide, by decide⟩ rfl hl.1 rfl (hw_cat8 (Nat.le_of_ble_eq_true rfl)) ⟨(Nat.le_refl _), (Nat.le_refl _)⟩ dX5_readNumber_10) hT (fun S21 H locs h_ hT_ => ?_)
    replace h := h_
    replace hT := hT_
    refine lv_iconst (v := 0) hx hb dX5_readNumber_13 (by decide) ?_
    exact cs_iret hC hT h dX5_readNumber_14 (Nat.le_refl _) (Nat.le_refl _)
/-! X5_readWordTest -/
abbrev rm_X5_readWordTest (mc ms : Nat) : Room := { frames := 2, cells := mc, slots := ms, locals := 49 }
def w_X5_readWordTest_101 (post : Option Nat → cs_S → Prop) (G : Nat → Nat) (mc ms : Nat) (S : cs_S) (u v : Nat) (x0 : Nat) (x1 : Int32) (x2 : Int64) (x4 : Int32) : Prop := u ≤ mc ∧ v ≤ ms ∧ cs_k S x0 = 7 ∧ wp_X5_readName (fun r23 S23 => u + 1 ≤ mc ∧ v + 7 ≤ ms ∧ ∀ q25, cs_k S23 q25 = 0 → ∀ S26, S26 = cs_new S23 q25 2 → wp_X1_init (fun S27 => post (some q25) S27) G S26 q25 x1 x2 x4 none) G S x0
section
variable {p : Program} {l : Launch} {e : Env} {s : State} {m : MethodId} {args : Array Value} {below : List Frame} {meth : Method} {c : Code} {P : hw_G} {G : Nat → Nat} {A : Nat → Prop}
set_option maxRecDepth 100000 in
set_option maxHeartbeats 4000000 in
theorem t_X5_readWordTest_101 {post : Option Nat → cs_S → Prop} {mc ms : Nat} (hC : rf_C P RX5 p s m meth c cX5_readWordTest 5 (some (.object "WatchHouse$Cond"))) (hin : meth.name = yX5_readWordTest.name) (hO : cs_O G A s s.heap) (S : cs_S) (u v : Nat) (x0 : Nat) (x1 : Int32) (x2 : Int64) (x4 : Int32) (H : Heap) (locs : List Loc) (ls : Array Slot) (h : w_X5_readWordTest_101 post G mc ms S u v x0 x1 x2 x4) (hT : cs_T P s A S H locs) (hl : lv_has ls 5 [(0, .ref x0), (1, .int x1), (2, .long x2), (4, .int x4)]) : W p l e (rm_X5_readWordTest mc ms) s m args below meth c H locs u v (MQ below (cs_Qr P A post) args s mc ms A) (F0 m 101 ls []) := by
  obtain ⟨hx, hb, hml, hown, hK, -, -⟩ := id hC
  obtain ⟨hu, hv, h⟩ := h
  refine lv_aload_n (x := x0) hx hb dX5_readWordTest_101 rfl (lv_at hl 0 rfl) ?_
  obtain ⟨hk24_, h⟩ := h
  refine cs_calll0 (cs_runV hx hb hml hown hK hO hT 6 hk24_ (by decide) rfl (c_X5_readName h) rfl rfl klX5_95 ki_X5_readName ks_X5_readName kn_X5 kc_X5_readName 0 ⟨rfl, by decide, by decide, by decide +kernel⟩ ⟨Nat.le_of_ble_eq_true rfl, Nat.le_of_ble_eq_true rfl⟩ rfl hl.1 rfl (hw_cat8 (Nat.le_of_ble_eq_true rfl)) ⟨hu, hv⟩ dX5_readWordTest_102) hT (fun r23 S23 H locs h_ hT_ => ?_)
  replace h := h_
  replace hT := hT_
  refine lv_pop2_2 hx hb dX5_readWordTest_105 rfl ?_
  obtain ⟨hu25, hv25, h⟩ := h
  refine cs_newo hx hb hK hT hown 2 (by decide) rfl tyX1_ok cs_df2 kxX5_131 kj_X1 kn_X1 hu25 hv25 dX5_readWordTest_106 (fun q25 H hq25 hT_ => ?_)
  replace h := h q25 hq25
  replace hT := hT_
  obtain ⟨S26, eS26⟩ : ∃ z, z = cs_new S23 q25 2 := ⟨_, rfl⟩
  rw [← eS26] at hT
  replace h := h S26 eS26
  refine lv_dup hx hb dX5_readWordTest_109 rfl ?_
  refine lv_iload_n hx hb dX5_readWordTest_110 rfl (lv_at hl 1 rfl) ?_
  refine lv_lload_n hx hb dX5_readWordTest_111 rfl (lv_at hl 2 rfl) ?_
  refine lv_iload hx hb dX5_readWordTest_112 (lv_at hl 3 rfl) ?_
  refine hw_null hx hb dX5_readWordTest_114 ?_
  refine cs_callv0 (cs_runI hx hb hml hown hK hO hT (c_X1_init h) rfl rfl klX5_133 ki_X1_init kn_X1 kc_X1_init rfl 4 ⟨by decide, by decide, by decide +kernel⟩ ⟨Nat.le_of_ble_eq_true rfl, Nat.le_of_ble_eq_true rfl⟩ rfl hl.1 rfl (hw_cat8 (Nat.le_of_ble_eq_true rfl)) ⟨hu25, hv25⟩ dX5_readWordTest_115) hT (fun S27 H locs h_ hT_ => ?_)
  replace h := h_
  replace hT := hT_
  exact cs_aret (v := (some q25)) hC (Or.inl ⟨_, rfl⟩) hT h dX5_readWordTest_118 hu25 hv25
end
def w_X5_readWordTest_69 (post : Option Nat → cs_S → Prop) (G : Nat → Nat) (mc ms : Nat) (S : cs_S) (u v : Nat) (x0 : Nat) (x1 : Int32) (x2 : Int64) (x4 : Int32) : Prop := u ≤ mc ∧ v ≤ ms ∧ (¬ x1 = 37 → w_X5_readWordTest_101 post G mc ms S u v x0 x1 x2 x4) ∧ (x1 = 37 → cs_k S x0 = 7 ∧ (¬ (cs_i S 606 x0) = 2 → w_X5_readWordTest_101 post G mc ms S u v x0 x1 x2 x4) ∧ ((cs_i S 606 x0) = 2 → wp_X5_ruleNamed (fun r29 S29 => (¬ r29 = ((-1)) → w_X5_readWordTest_101 post G mc ms S29 u v x0 x1 x2 r29) ∧ (r29 = ((-1)) → cs_k S29 x0 = 7 ∧ wp_X5_fail (fun S30 => w_X5_readWordTest_101 post G mc ms S30 u v x0 x1 x2 r29) G S29 x0 5)) G S x0 x2))
section
variable {p : Program} {l : Launch} {e : Env} {s : State} {m : MethodId} {args : Array Value} {below : List Frame} {meth : Method} {c : Code} {P : hw_G} {G : Nat → Nat} {A : Nat → Prop}
set_option maxRecDepth 100000 in
set_option maxHeartbeats 4000000 in
theorem t_X5_readWordTest_69 {post : Option Nat → cs_S → Prop} {mc ms : Nat} (hC : rf_C P RX5 p s m meth c cX5_readWordTest 5 (some (.object "WatchHouse$Cond"))) (hin : meth.name = yX5_readWordTest.name) (hO : cs_O G A s s.heap) (S : cs_S) (u v : Nat) (x0 : Nat) (x1 : Int32) (x2 : Int64) (x4 : Int32) (H : Heap) (locs : List Loc) (ls : Array Slot) (h : w_X5_readWordTest_69 post G mc ms S u v x0 x1 x2 x4) (hT : cs_T P s A S H locs) (hl : lv_has ls 5 [(0, .ref x0), (1, .int x1), (2, .long x2), (4, .int x4)]) : W p l e (rm_X5_readWordTest mc ms) s m args below meth c H locs u v (MQ below (cs_Qr P A post) args s mc ms A) (F0 m 69 ls []) := by
  obtain ⟨hx, hb, hml, hown, hK, -, -⟩ := id hC
  obtain ⟨hu, hv, h⟩ := h
  refine lv_iload_n hx hb dX5_readWordTest_69 rfl (lv_at hl 1 rfl) ?_
  refine lv_bipush (v := 37) hx hb dX5_readWordTest_70 (by decide) ?_
  refine lv_icmp_ne (tgt := 101) hx hb dX5_readWordTest_72 (by decide) (fun hc => ?_) (fun hc => ?_)
  · replace h := h.1 hc
    exact t_X5_readWordTest_101 hC hin hO S u v x0 x1 x2 x4 _ _ _ h hT (lv_sub hl [0, 1, 2, 3] rfl)
  · replace h := h.2 hc
    refine lv_aload_n (x := x0) hx hb dX5_readWordTest_75 rfl (lv_at hl 0 rfl) ?_
    obtain ⟨hk28_, h⟩ := h
    refine cs_get hx hb hK hT hown 6 hk28_ (by decide) rfl 6 (by decide) kfX5_27 (v := .int (cs_i S 606 x0)) rfl dX5_readWordTest_76 ?_
    refine lv_iconst (v := 2) hx hb dX5_readWordTest_79 (by decide) ?_
    refine lv_icmp_ne (tgt := 101) hx hb dX5_readWordTest_80 (by decide) (fun hc => ?_) (fun hc => ?_)
    · replace h := h.1 hc
      exact t_X5_readWordTest_101 hC hin hO S u v x0 x1 x2 x4 _ _ _ h hT (lv_sub hl [0, 1, 2, 3] rfl)
    · replace h := h.2 hc
      refine lv_aload_n (x := x0) hx hb dX5_readWordTest_83 rfl (lv_at hl 0 rfl) ?_
      refine lv_lload_n hx hb dX5_readWordTest_84 rfl (lv_at hl 2 rfl) ?_
      refine cs_calli0 (cs_runV hx hb hml hown hK hO hT 6 hk28_ (by decide) rfl (c_X5_ruleNamed h) rfl rfl klX5_91 ki_X5_ruleNamed ks_X5_ruleNamed kn_X5 kc_X5_ruleNamed 1 ⟨rfl, by decide, by decide, by decide +kernel⟩ ⟨Nat.le_of_ble_eq_true rfl, Nat.le_of_ble_eq_true rfl⟩ rfl hl.1 rfl (hw_cat8 (Nat.le_of_ble_eq_true rfl)) ⟨hu, hv⟩ dX5_readWordTest_85) hT (fun r29 S29 H locs h_ hT_ => ?_)
      replace h := h_
      replace hT := hT_
      refine lv_istore (lv' := [(4, _), (0, _), (1, _), (2, _)]) hx hb dX5_readWordTest_88 hl (by decide) rfl (fun ls hl_ => ?_)
      replace hl := hl_
      refine lv_iload hx hb dX5_readWordTest_90 (lv_at hl 0 rfl) ?_
      refine lv_iconst (v := (-1)) hx hb dX5_readWordTest_92 (by decide) ?_
      refine lv_icmp_ne (tgt := 101) hx hb dX5_readWordTest_93 (by decide) (fun hc => ?_) (fun hc => ?_)
      · replace h := h.1 hc
        exact t_X5_readWordTest_101 hC hin hO S29 u v x0 x1 x2 r29 _ _ _ h hT (lv_sub hl [1, 2, 3, 0] rfl)
      · replace h := h.2 hc
        refine lv_aload_n (x := x0) hx hb dX5_readWordTest_96 rfl (lv_at hl 1 rfl) ?_
        refine lv_iconst (v := 5) hx hb dX5_readWordTest_97 (by decide) ?_
        obtain ⟨hk31_, h⟩ := h
        refine cs_callv0 (cs_runV hx hb hml hown hK hO hT 6 hk31_ (by decide) rfl (c_X5_fail h) rfl rfl klX5_46 ki_X5_fail ks_X5_fail kn_X5 kc_X5_fail 1 ⟨rfl, by decide, by decide, by decide +kernel⟩ ⟨Nat.le_of_ble_eq_true rfl, Nat.le_of_ble_eq_true rfl⟩ rfl hl.1 rfl (hw_cat8 (Nat.le_of_ble_eq_true rfl)) ⟨hu, hv⟩ dX5_readWordTest_98) hT (fun S30 H locs h_ hT_ => ?_)
        replace h := h_
        replace hT := hT_
        exact t_X5_readWordTest_101 hC hin hO S30 u v x0 x1 x2 r29 _ _ _ h hT (lv_sub hl [1, 2, 3, 0] rfl)
end
def w_X5_readWordTest_21 (post : Option Nat → cs_S → Prop) (G : Nat → Nat) (mc ms : Nat) (S : cs_S) (u v : Nat) (x0 : Nat) (x1 : Int32) : Prop := u ≤ mc ∧ v ≤ ms ∧ cs_k S x0 = 7 ∧ ∀ r33, r33 = cs_r S 604 x0 → ∃ b34, r33 = some b34 ∧ cs_k S b34 = 10 ∧ ∀ r36, r36 = cs_r S 902 b34 → ∃ b37, r36 = some b37 ∧ cs_k S b37 = 21 ∧ vp_in (cs_i S 605 x0) (cs_n S b37) ∧ (¬ x1 = 35 → w_X5_readWordTest_69 post G mc ms S u v x0 x1 (cs_al S b37 (cs_i S 605 x0).toNatClampNeg) ((-1))) ∧ (x1 = 35 → ((cs_i S 606 x0) < 20 → w_X5_readWordTest_69 post G mc ms S u v x0 x1 (cs_al S b37 (cs_i S 605 x0).toNatClampNeg) ((-1))) ∧ (¬ (cs_i S 606 x0) < 20 → wp_X5_step (fun S39 => u + 1 ≤ mc ∧ v + 7 ≤ ms ∧ ∀ q40, cs_k S39 q40 = 0 → ∀ S41, S41 = cs_new S39 q40 2 → wp_X1_init (fun S42 => post (some q40) S42) G S41 q40 x1 (cs_al S b37 (cs_i S 605 x0).toNatClampNeg) ((-1)) none) G S x0))
section
variable {p : Program} {l : Launch} {e : Env} {s : State} {m : MethodId} {args : Array Value} {below : List Frame} {meth : Method} {c : Code} {P : hw_G} {G : Nat → Nat} {A : Nat → Prop}
set_option maxRecDepth 100000 in
set_option maxHeartbeats 4000000 in
theorem t_X5_readWordTest_21 {post : Option Nat → cs_S → Prop} {mc ms : Nat} (hC : rf_C P RX5 p s m meth c cX5_readWordTest 5 (some (.object "WatchHouse$Cond"))) (hin : meth.name = yX5_readWordTest.name) (hO : cs_O G A s s.heap) (S : cs_S) (u v : Nat) (x0 : Nat) (x1 : Int32) (H : Heap) (locs : List Loc) (ls : Array Slot) (h : w_X5_readWordTest_21 post G mc ms S u v x0 x1) (hT : cs_T P s A S H locs) (hl : lv_has ls 5 [(0, .ref x0), (1, .int x1)]) : W p l e (rm_X5_readWordTest mc ms) s m args below meth c H locs u v (MQ below (cs_Qr P A post) args s mc ms A) (F0 m 21 ls []) := by
  obtain ⟨hx, hb, hml, hown, hK, -, -⟩ := id hC
  obtain ⟨hu, hv, h⟩ := h
  refine lv_aload_n (x := x0) hx hb dX5_readWordTest_21 rfl (lv_at hl 0 rfl) ?_
  obtain ⟨hk32_, h⟩ := h
  refine cs_get hx hb hK hT hown 6 hk32_ (by decide) rfl 4 (by decide) kfX5_9 (v := va_rf (cs_r S 604 x0)) rfl dX5_readWordTest_22 ?_
  refine hw_topr (fun r33 er33 => ?_)
  replace h := h r33 er33
  obtain ⟨b34, rfl, h⟩ := h
  obtain ⟨hk35_, h⟩ := h
  refine cs_get hx hb hK hT hown 9 hk35_ (by decide) rfl 2 (by decide) kfX5_87 (v := va_rf (cs_r S 902 b34)) rfl dX5_readWordTest_25 ?_
  refine hw_topr (fun r36 er36 => ?_)
  replace h := h r36 er36
  refine lv_aload_n (x := x0) hx hb dX5_readWordTest_28 rfl (lv_at hl 0 rfl) ?_
  refine cs_get hx hb hK hT hown 6 hk32_ (by decide) rfl 5 (by decide) kfX5_34 (v := .int (cs_i S 605 x0)) rfl dX5_readWordTest_29 ?_
  obtain ⟨b37, rfl, h⟩ := h
  obtain ⟨hk38_, h⟩ := h
  obtain ⟨hi, h⟩ := h
  refine cs_lald hx hb hK hT hk38_ hi dX5_readWordTest_32 ?_
  refine lv_lstore_n (lv' := [(2, _), (0, _), (1, _)]) hx hb dX5_readWordTest_33 rfl hl (by decide) rfl (fun ls hl_ => ?_)
  replace hl := hl_
  refine lv_iconst (v := (-1)) hx hb dX5_readWordTest_34 (by decide) ?_
  refine lv_istore (lv' := [(4, _), (2, _), (0, _), (1, _)]) hx hb dX5_readWordTest_35 hl (by decide) rfl (fun ls hl_ => ?_)
  replace hl := hl_
  refine lv_iload_n hx hb dX5_readWordTest_37 rfl (lv_at hl 3 rfl) ?_
  refine lv_bipush (v := 35) hx hb dX5_readWordTest_38 (by decide) ?_
  refine lv_icmp_ne (tgt := 69) hx hb dX5_readWordTest_40 (by decide) (fun hc => ?_) (fun hc => ?_)
  · replace h := h.1 hc
    exact t_X5_readWordTest_69 hC hin hO S u v x0 x1 (cs_al S b37 (cs_i S 605 x0).toNatClampNeg) ((-1)) _ _ _ h hT (lv_sub hl [2, 3, 1, 0] rfl)
  · replace h := h.2 hc
    refine lv_aload_n (x := x0) hx hb dX5_readWordTest_43 rfl (lv_at hl 2 rfl) ?_
    refine cs_get hx hb hK hT hown 6 hk32_ (by decide) rfl 6 (by decide) kfX5_27 (v := .int (cs_i S 606 x0)) rfl dX5_readWordTest_44 ?_
    refine lv_bipush (v := 20) hx hb dX5_readWordTest_47 (by decide) ?_
    refine lv_icmp_lt (tgt := 69) hx hb dX5_readWordTest_49 (by decide) (fun hc => ?_) (fun hc => ?_)
    · replace h := h.1 hc
      exact t_X5_readWordTest_69 hC hin hO S u v x0 x1 (cs_al S b37 (cs_i S 605 x0).toNatClampNeg) ((-1)) _ _ _ h hT (lv_sub hl [2, 3, 1, 0] rfl)
    · replace h := h.2 hc
      refine lv_aload_n (x := x0) hx hb dX5_readWordTest_52 rfl (lv_at hl 2 rfl) ?_
      refine cs_callv0 (cs_runV hx hb hml hown hK hO hT 6 hk32_ (by decide) rfl (c_X5_step h) rfl rfl klX5_43 ki_X5_step ks_X5_step kn_X5 kc_X5_step 0 ⟨rfl, by decide, by decide, by decide +kernel⟩ ⟨Nat.le_of_ble_eq_true rfl, Nat.le_of_ble_eq_true rfl⟩ rfl hl.1 rfl (hw_cat8 (Nat.le_of_ble_eq_true rfl)) ⟨hu, hv⟩ dX5_readWordTest_53) hT (fun S39 H locs h_ hT_ => ?_)
      replace h := h_
      replace hT := hT_
      obtain ⟨hu40, hv40, h⟩ := h
      refine cs_newo hx hb hK hT hown 2 (by decide) rfl tyX1_ok cs_df2 kxX5_131 kj_X1 kn_X1 hu40 hv40 dX5_readWordTest_56 (fun q40 H hq40 hT_ => ?_)
      replace h := h q40 hq40
      replace hT := hT_
      obtain ⟨S41, eS41⟩ : ∃ z, z = cs_new S39 q40 2 := ⟨_, rfl⟩
      rw [← eS41] at hT
      replace h := h S41 eS41
      refine lv_dup hx hb dX5_readWordTest_59 rfl ?_
      refine lv_iload_n hx hb dX5_readWordTest_60 rfl (lv_at hl 3 rfl) ?_
      refine lv_lload_n hx hb dX5_readWordTest_61 rfl (lv_at hl 1 rfl) ?_
      refine lv_iload hx hb dX5_readWordTest_62 (lv_at hl 0 rfl) ?_
      refine hw_null hx hb dX5_readWordTest_64 ?_
      refine cs_callv0 (cs_runI hx hb hml hown hK hO hT (c_X1_init h) rfl rfl klX5_133 ki_X1_init kn_X1 kc_X1_init rfl 4 ⟨by decide, by decide, by decide +kernel⟩ ⟨Nat.le_of_ble_eq_true rfl, Nat.le_of_ble_eq_true rfl⟩ rfl hl.1 rfl (hw_cat8 (Nat.le_of_ble_eq_true rfl)) ⟨hu40, hv40⟩ dX5_readWordTest_65) hT (fun S42 H locs h_ hT_ => ?_)
      replace h := h_
      replace hT := hT_
      exact cs_aret (v := (some q40)) hC (Or.inl ⟨_, rfl⟩) hT h dX5_readWordTest_68 hu40 hv40
end
def wp_X5_readWordTest (post : Option Nat → cs_S → Prop) (G : Nat → Nat) (mc ms : Nat) (S : cs_S) (o : Nat) : Prop := cs_k S o = 7 ∧ wp_X5_step (fun S44 => (¬ (cs_i S 606 o) = 35 → w_X5_readWordTest_21 post G mc ms S44 0 0 o (cs_i S 606 o)) ∧ ((cs_i S 606 o) = 35 → cs_k S44 o = 7 ∧ wp_X5_skip (fun S45 => w_X5_readWordTest_21 post G mc ms S45 0 0 o (cs_i S 606 o)) G S44 o 11)) G S o
set_option maxRecDepth 100000 in
set_option maxHeartbeats 4000000 in
theorem c_X5_readWordTest {l : Launch} {P : hw_G} {G : Nat → Nat} {S : cs_S} {sz : Nat} {mc ms : Nat} {o : Nat} {post : Option Nat → cs_S → Prop} (h : wp_X5_readWordTest post G mc ms S o) : Met l yX5_readWordTest [Cond.code yX5_readWordTest cX5_readWordTest 5 (some (.object "WatchHouse$Cond"))] (rm_X5_readWordTest mc ms) (cs_Pc P G S sz [.ref o]) (cs_Qr P (cs_A S sz) post) mc ms (cs_A S sz) := by
  refine cs_met (by decide) rfl (Nat.le_of_ble_eq_true rfl) ?_
  intro p e s m below meth c ls hC hin hO hT hl
  obtain ⟨hx, hb, hml, hown, hK, -, -⟩ := id hC
  replace hl : lv_has ls 5 [(0, .ref o)] := hl
  refine lv_aload_n (x := o) hx hb dX5_readWordTest_0 rfl (lv_at hl 0 rfl) ?_
  obtain ⟨hk43_, h⟩ := h
  refine cs_get hx hb hK hT hown 6 hk43_ (by decide) rfl 6 (by decide) kfX5_27 (v := .int (cs_i S 606 o)) rfl dX5_readWordTest_1 ?_
  refine lv_istore_n (lv' := [(1, _), (0, _)]) hx hb dX5_readWordTest_4 rfl hl (by decide) rfl (fun ls hl_ => ?_)
  replace hl := hl_
  refine lv_aload_n (x := o) hx hb dX5_readWordTest_5 rfl (lv_at hl 1 rfl) ?_
  refine cs_callv0 (cs_runV hx hb hml hown hK hO hT 6 hk43_ (by decide) rfl (c_X5_step h) rfl rfl klX5_43 ki_X5_step ks_X5_step kn_X5 kc_X5_step 0 ⟨rfl, by decide, by decide, by decide +kernel⟩ ⟨Nat.le_of_ble_eq_true rfl, Nat.le_of_ble_eq_true rfl⟩ rfl hl.1 rfl (hw_cat8 (Nat.le_of_ble_eq_true rfl)) ⟨(Nat.zero_le _), (Nat.zero_le _)⟩ dX5_readWordTest_6) hT (fun S44 H locs h_ hT_ => ?_)
  replace h := h_
  replace hT := hT_
  refine lv_iload_n hx hb dX5_readWordTest_9 rfl (lv_at hl 0 rfl) ?_
  refine lv_bipush (v := 35) hx hb dX5_readWordTest_10 (by decide) ?_
  refine lv_icmp_ne (tgt := 21) hx hb dX5_readWordTest_12 (by decide) (fun hc => ?_) (fun hc => ?_)
  · replace h := h.1 hc
    exact t_X5_readWordTest_21 hC hin hO S44 0 0 o (cs_i S 606 o) _ _ _ h hT (lv_sub hl [1, 0] rfl)
  · replace h := h.2 hc
    refine lv_aload_n (x := o) hx hb dX5_readWordTest_15 rfl (lv_at hl 1 rfl) ?_
    refine lv_bipush (v := 11) hx hb dX5_readWordTest_16 (by decide) ?_
    obtain ⟨hk46_, h⟩ := h
    refine cs_callv0 (cs_runV hx hb hml hown hK hO hT 6 hk46_ (by decide) rfl (c_X5_skip h) rfl rfl klX5_70 ki_X5_skip ks_X5_skip kn_X5 kc_X5_skip 1 ⟨rfl, by decide, by decide, by decide +kernel⟩ ⟨Nat.le_of_ble_eq_true rfl, Nat.le_of_ble_eq_true rfl⟩ rfl hl.1 rfl (hw_cat8 (Nat.le_of_ble_eq_true rfl)) ⟨(Nat.zero_le _), (Nat.zero_le _)⟩ dX5_readWordTest_18) hT (fun S45 H locs h_ hT_ => ?_)
    replace h := h_
    replace hT := hT_
    exact t_X5_readWordTest_21 hC hin hO S45 0 0 o (cs_i S 606 o) _ _ _ h hT (lv_sub hl [1, 0] rfl)
/-! X9_init -/
abbrev rm_X9_init : Room := { frames := 1, cells := 0, slots := 0, locals := 24 }
def w_X9_init_38 (post : cs_S → Prop) (G : Nat → Nat) : Nat → cs_S → Nat → Int32 → Option Nat → Int32 → Int32 → Prop
  | 0, _, _, _, _, _, _ => False
  | n + 1, S, x0, x4, x5, x6, x7 => (x6 ≤ x7 → cs_k S x0 = 11 ∧ ∀ S12, S12 = cs_ui S 1003 x0 x4 → post S12) ∧ (¬ x6 ≤ x7 → ∃ b13, x5 = some b13 ∧ cs_k S b13 = 20 ∧ vp_in x7 (cs_n S b13) ∧ w_X9_init_38 post G n S x0 ((31 * x4) + (cs_ai S b13 x7.toNatClampNeg)) (some b13) x6 (x7 + 1))
section
variable {p : Program} {l : Launch} {e : Env} {s : State} {m : MethodId} {args : Array Value} {below : List Frame} {meth : Method} {c : Code} {P : hw_G} {G : Nat → Nat} {A : Nat → Prop}
set_option maxRecDepth 100000 in
set_option maxHeartbeats 4000000 in
theorem t_X9_init_38 {post : cs_S → Prop} (hC : rf_C P RX9 p s m meth c cX9_init 9 none) (hin : meth.name = yX9_init.name) (hO : cs_O G A s s.heap) : ∀ (n : Nat) (S : cs_S) (x0 : Nat) (x4 : Int32) (x5 : Option Nat) (x6 : Int32) (x7 : Int32) (H : Heap) (locs : List Loc) (ls : Array Slot), w_X9_init_38 post G n S x0 x4 x5 x6 x7 → cs_T P s A S H locs → lv_has ls 9 [(0, .ref x0), (4, .int x4), (5, va_rf x5), (6, .int x6), (7, .int x7)] → W p l e rm_X9_init s m args below meth c H locs 0 0 (MQ below (cs_Qv P A post) args s 0 0 A) (F0 m 38 ls []) := by
  obtain ⟨hx, hb, hml, hown, hK, -, -⟩ := id hC
  intro n
  induction n with
  | zero => intro S x0 x4 x5 x6 x7 H locs ls h; exact False.elim h
  | succ n ih =>
    intro S x0 x4 x5 x6 x7 H locs ls h hT hl
    refine lv_iload hx hb dX9_init_38 (lv_at hl 4 rfl) ?_
    refine lv_iload hx hb dX9_init_40 (lv_at hl 3 rfl) ?_
    refine lv_icmp_ge (tgt := 68) hx hb dX9_init_42 (by decide) (fun hc => ?_) (fun hc => ?_)
    · replace h := h.1 hc
      refine lv_aload_n (x := x0) hx hb dX9_init_68 rfl (lv_at hl 0 rfl) ?_
      refine lv_iload hx hb dX9_init_69 (lv_at hl 1 rfl) ?_
      obtain ⟨hk11_, h⟩ := h
      refine cs_putFi (x := x4) hx hb hK hT hown hin 10 hk11_ (by decide) rfl 3 (by decide) kfX9_22 rfl rfl (tyX9_ok 3 (by decide)) rfl 1003 rfl dX9_init_71 (fun H locs hT_ => ?_)
      replace hT := hT_
      obtain ⟨S12, eS12⟩ : ∃ z, z = cs_ui S 1003 x0 x4 := ⟨_, rfl⟩
      rw [← eS12] at hT
      replace h := h S12 eS12
      exact cs_vret hC hT h dX9_init_74 (Nat.le_refl _) (Nat.le_refl _)
    · replace h := h.2 hc
      refine hw_aload (x := x5) hx hb dX9_init_45 (lv_at hl 2 rfl) ?_
      refine lv_iload hx hb dX9_init_47 (lv_at hl 4 rfl) ?_
      obtain ⟨b13, rfl, h⟩ := h
      obtain ⟨hk14_, h⟩ := h
      obtain ⟨hi, h⟩ := h
      refine cs_iald hx hb hK hT hk14_ hi dX9_init_49 ?_
      refine lv_istore (lv' := [(8, _), (0, _), (4, _), (5, _), (6, _), (7, _)]) hx hb dX9_init_50 hl (by decide) rfl (fun ls hl_ => ?_)
      replace hl := hl_
      refine lv_bipush (v := 31) hx hb dX9_init_52 (by decide) ?_
      refine lv_iload hx hb dX9_init_54 (lv_at hl 2 rfl) ?_
      refine lv_imul hx hb dX9_init_56 ?_
      refine lv_iload hx hb dX9_init_57 (lv_at hl 0 rfl) ?_
      refine lv_iadd hx hb dX9_init_59 ?_
      refine lv_istore (lv' := [(4, _), (8, _), (0, _), (5, _), (6, _), (7, _)]) hx hb dX9_init_60 hl (by decide) rfl (fun ls hl_ => ?_)
      replace hl := hl_
      refine lv_iinc (v := x7 + 1) (lv' := [(7, _), (4, _), (8, _), (0, _), (5, _), (6, _)]) hx hb dX9_init_62 hl (k := 5) rfl rfl (by decide) rfl (fun ls hl_ => ?_)
      replace hl := hl_
      refine lv_goto (tgt := 38) hx hb dX9_init_65 (by decide) ?_
      exact ih S x0 ((31 * x4) + (cs_ai S b13 x7.toNatClampNeg)) (some b13) x6 (x7 + 1) _ _ _ h hT (lv_sub hl [3, 1, 4, 5, 0] rfl)
end
def wp_X9_init (post : cs_S → Prop) (G : Nat → Nat) (S : cs_S) (o : Nat) (p1 : Int32) (p2 : Int32) (p3 : Option Nat) : Prop := cs_k S o = 11 ∧ ∀ S16, S16 = cs_ui S 1000 o p1 → cs_k S16 o = 11 ∧ ∀ S18, S18 = cs_ui S16 1001 o p2 → cs_k S18 o = 11 ∧ ∀ S20, S20 = cs_ur S18 1002 o p3 → ∃ b21, p3 = some b21 ∧ cs_k S20 b21 = 20 ∧ ∃ n9, w_X9_init_38 post G n9 S20 o ((31 * p2) + p1) (some b21) (Int32.ofNat (cs_n S20 b21)) 0
set_option maxRecDepth 100000 in
set_option maxHeartbeats 4000000 in
theorem c_X9_init {l : Launch} {P : hw_G} {G : Nat → Nat} {S : cs_S} {sz : Nat} {o : Nat} {p1 : Int32} {p2 : Int32} {p3 : Option Nat} {post : cs_S → Prop} (h : wp_X9_init post G S o p1 p2 p3) : Met l yX9_init [Cond.code yX9_init cX9_init 9 none] rm_X9_init (cs_Pc P G S sz [.ref o, .int p1, .int p2, va_rf p3]) (cs_Qv P (cs_A S sz) post) 0 0 (cs_A S sz) := by
  refine cs_met (by decide) rfl (by cases p3 <;> exact Nat.le_of_ble_eq_true rfl) ?_
  intro p e s m below meth c ls hC hin hO hT hl
  obtain ⟨hx, hb, hml, hown, hK, -, -⟩ := id hC
  replace hl : lv_has ls 9 [(0, .ref o), (1, .int p1), (2, .int p2), (3, va_rf p3)] := by cases p3 <;> exact hl
  refine lv_aload_n (x := o) hx hb dX9_init_0 rfl (lv_at hl 0 rfl) ?_
  refine cs_objInit hx hb hml hown hK hl.1 klX9_3 ki_obj kc_obj dX9_init_1 (Nat.le_of_ble_eq_true rfl) (hw_catN (Nat.le_of_ble_eq_true rfl) (Nat.le_of_ble_eq_true rfl)) ?_
  refine lv_aload_n (x := o) hx hb dX9_init_4 rfl (lv_at hl 0 rfl) ?_
  refine lv_iload_n hx hb dX9_init_5 rfl (lv_at hl 1 rfl) ?_
  obtain ⟨hk15_, h⟩ := h
  refine cs_putFi (x := p1) hx hb hK hT hown hin 10 hk15_ (by decide) rfl 0 (by decide) kfX9_9 rfl rfl (tyX9_ok 0 (by decide)) rfl 1000 rfl dX9_init_6 (fun H locs hT_ => ?_)
  replace hT := hT_
  obtain ⟨S16, eS16⟩ : ∃ z, z = cs_ui S 1000 o p1 := ⟨_, rfl⟩
  rw [← eS16] at hT
  replace h := h S16 eS16
  refine lv_aload_n (x := o) hx hb dX9_init_9 rfl (lv_at hl 0 rfl) ?_
  refine lv_iload_n hx hb dX9_init_10 rfl (lv_at hl 2 rfl) ?_
  obtain ⟨hk17_, h⟩ := h
  refine cs_putFi (x := p2) hx hb hK hT hown hin 10 hk17_ (by decide) rfl 1 (by decide) kfX9_15 rfl rfl (tyX9_ok 1 (by decide)) rfl 1001 rfl dX9_init_11 (fun H locs hT_ => ?_)
  replace hT := hT_
  obtain ⟨S18, eS18⟩ : ∃ z, z = cs_ui S16 1001 o p2 := ⟨_, rfl⟩
  rw [← eS18] at hT
  replace h := h S18 eS18
  refine lv_aload_n (x := o) hx hb dX9_init_14 rfl (lv_at hl 0 rfl) ?_
  refine hw_aload_n (x := p3) hx hb dX9_init_15 rfl (lv_at hl 3 rfl) ?_
  obtain ⟨hk19_, h⟩ := h
  refine cs_putFr (x := p3) hx hb hK hT hown hin 10 hk19_ (by decide) rfl 2 (by decide) kfX9_18 rfl rfl (tyX9_ok 2 (by decide)) rfl 1002 rfl dX9_init_16 (fun H locs hT_ => ?_)
  replace hT := hT_
  obtain ⟨S20, eS20⟩ : ∃ z, z = cs_ur S18 1002 o p3 := ⟨_, rfl⟩
  rw [← eS20] at hT
  replace h := h S20 eS20
  refine lv_bipush (v := 31) hx hb dX9_init_19 (by decide) ?_
  refine lv_iload_n hx hb dX9_init_21 rfl (lv_at hl 2 rfl) ?_
  refine lv_imul hx hb dX9_init_22 ?_
  refine lv_iload_n hx hb dX9_init_23 rfl (lv_at hl 1 rfl) ?_
  refine lv_iadd hx hb dX9_init_24 ?_
  refine lv_istore (lv' := [(4, _), (0, _), (1, _), (2, _), (3, _)]) hx hb dX9_init_25 hl (by decide) (congrArg (List.cons _) ((hw_flt (fun q hq => by simp only [List.mem_cons, List.not_mem_nil, or_false] at hq; rcases hq with rfl | rfl | rfl | rfl <;> first | exact fun _ => rfl | exact fun _ => va_rf_cat _ | (intro h; simp at h))).trans rfl)) (fun ls hl_ => ?_)
  replace hl := hl_
  refine hw_aload_n (x := p3) hx hb dX9_init_27 rfl (lv_at hl 4 rfl) ?_
  refine hw_astore (lv' := [(5, _), (4, _), (0, _), (1, _), (2, _), (3, _)]) (x := p3) hx hb dX9_init_28 hl (by decide) rfl (fun ls hl_ => ?_)
  replace hl := hl_
  refine hw_aload (x := p3) hx hb dX9_init_30 (lv_at hl 0 rfl) ?_
  obtain ⟨b21, rfl, h⟩ := h
  obtain ⟨hk22_, h⟩ := h
  refine cs_alen hx hb hK hT 20 hk22_ (by decide) (by decide) dX9_init_32 ?_
  refine lv_istore (lv' := [(6, _), (5, _), (4, _), (0, _), (1, _), (2, _), (3, _)]) hx hb dX9_init_33 hl (by decide) rfl (fun ls hl_ => ?_)
  replace hl := hl_
  refine lv_iconst (v := 0) hx hb dX9_init_35 (by decide) ?_
  refine lv_istore (lv' := [(7, _), (6, _), (5, _), (4, _), (0, _), (1, _), (2, _), (3, _)]) hx hb dX9_init_36 hl (by decide) rfl (fun ls hl_ => ?_)
  replace hl := hl_
  obtain ⟨n9, h⟩ := h
  exact t_X9_init_38 hC hin hO n9 S20 o ((31 * p2) + p1) (some b21) (Int32.ofNat (cs_n S20 b21)) 0 _ _ _ h hT (lv_sub hl [4, 3, 2, 1, 0] rfl)
/-! X5_readValue -/
abbrev rm_X5_readValue (mc ms : Nat) : Room := { frames := 2, cells := mc, slots := ms, locals := 52 }
def w_X5_readValue_42 (post : Option Nat → cs_S → Prop) (G : Nat → Nat) (mc ms : Nat) (S : cs_S) (u v : Nat) (x0 : Nat) : Prop := u ≤ mc ∧ v ≤ ms ∧ cs_k S x0 = 7 ∧ wp_X5_fail (fun S37 => post none S37) G S x0 2
section
variable {p : Program} {l : Launch} {e : Env} {s : State} {m : MethodId} {args : Array Value} {below : List Frame} {meth : Method} {c : Code} {P : hw_G} {G : Nat → Nat} {A : Nat → Prop}
set_option maxRecDepth 100000 in
set_option maxHeartbeats 4000000 in
theorem t_X5_readValue_42 {post : Option Nat → cs_S → Prop} {mc ms : Nat} (hC : rf_C P RX5 p s m meth c cX5_readValue 8 (some (.object "WatchHouse$Value"))) (hin : meth.name = yX5_readValue.name) (hO : cs_O G A s s.heap) (S : cs_S) (u v : Nat) (x0 : Nat) (H : Heap) (locs : List Loc) (ls : Array Slot) (h : w_X5_readValue_42 post G mc ms S u v x0) (hT : cs_T P s A S H locs) (hl : lv_has ls 8 [(0, .ref x0)]) : W p l e (rm_X5_readValue mc ms) s m args below meth c H locs u v (MQ below (cs_Qr P A post) args s mc ms A) (F0 m 42 ls []) := by
  obtain ⟨hx, hb, hml, hown, hK, -, -⟩ := id hC
  obtain ⟨hu, hv, h⟩ := h
  refine lv_aload_n (x := x0) hx hb dX5_readValue_42 rfl (lv_at hl 0 rfl) ?_
  refine lv_iconst (v := 2) hx hb dX5_readValue_43 (by decide) ?_
  obtain ⟨hk38_, h⟩ := h
  refine cs_callv0 (cs_runV hx hb hml hown hK hO hT 6 hk38_ (by decide) rfl (c_X5_fail h) rfl rfl klX5_46 ki_X5_fail ks_X5_fail kn_X5 kc_X5_fail 1 ⟨rfl, by decide, by decide, by decide +kernel⟩ ⟨Nat.le_of_ble_eq_true rfl, Nat.le_of_ble_eq_true rfl⟩ rfl hl.1 rfl (hw_cat8 (Nat.le_of_ble_eq_true rfl)) ⟨hu, hv⟩ dX5_readValue_44) hT (fun S37 H locs h_ hT_ => ?_)
  replace h := h_
  replace hT := hT_
  refine hw_null hx hb dX5_readValue_47 ?_
  exact cs_aret (v := none) hC (Or.inl ⟨_, rfl⟩) hT h dX5_readValue_48 hu hv
end
def w_X5_readValue_190 (post : Option Nat → cs_S → Prop) (G : Nat → Nat) (mc ms : Nat) (S : cs_S) (u v : Nat) (x0 : Nat) (x3 : Int32) (x6 : Option Nat) (y0 : Int32) : Prop := u ≤ mc ∧ v ≤ ms ∧ cs_k S x0 = 7 ∧ wp_X5_step (fun S39 => u + 1 ≤ mc ∧ v + 4 ≤ ms ∧ ∀ q41, cs_k S39 q41 = 0 → ∀ S42, S42 = cs_new S39 q41 10 → wp_X9_init (fun S43 => post (some q41) S43) G S42 q41 y0 x3 x6) G S x0
section
variable {p : Program} {l : Launch} {e : Env} {s : State} {m : MethodId} {args : Array Value} {below : List Frame} {meth : Method} {c : Code} {P : hw_G} {G : Nat → Nat} {A : Nat → Prop}
set_option maxRecDepth 100000 in
set_option maxHeartbeats 4000000 in
theorem t_X5_readValue_190 {post : Option Nat → cs_S → Prop} {mc ms : Nat} (hC : rf_C P RX5 p s m meth c cX5_readValue 8 (some (.object "WatchHouse$Value"))) (hin : meth.name = yX5_readValue.name) (hO : cs_O G A s s.heap) (S : cs_S) (u v : Nat) (x0 : Nat) (x3 : Int32) (x6 : Option Nat) (y0 : Int32) (H : Heap) (locs : List Loc) (ls : Array Slot) (h : w_X5_readValue_190 post G mc ms S u v x0 x3 x6 y0) (hT : cs_T P s A S H locs) (hl : lv_has ls 8 [(0, .ref x0), (3, .int x3), (6, va_rf x6)]) : W p l e (rm_X5_readValue mc ms) s m args below meth c H locs u v (MQ below (cs_Qr P A post) args s mc ms A) (F0 m 190 ls [.int y0]) := by
  obtain ⟨hx, hb, hml, hown, hK, -, -⟩ := id hC
  obtain ⟨hu, hv, h⟩ := h
  refine lv_istore (lv' := [(7, _), (0, _), (3, _), (6, _)]) hx hb dX5_readValue_190 hl (by decide) (congrArg (List.cons _) ((hw_flt (fun q hq => by simp only [List.mem_cons, List.not_mem_nil, or_false] at hq; rcases hq with rfl | rfl | rfl <;> first | exact fun _ => rfl | exact fun _ => va_rf_cat _ | (intro h; simp at h))).trans rfl)) (fun ls hl_ => ?_)
  replace hl := hl_
  refine lv_aload_n (x := x0) hx hb dX5_readValue_192 rfl (lv_at hl 1 rfl) ?_
  obtain ⟨hk40_, h⟩ := h
  refine cs_callv0 (cs_runV hx hb hml hown hK hO hT 6 hk40_ (by decide) rfl (c_X5_step h) rfl rfl klX5_43 ki_X5_step ks_X5_step kn_X5 kc_X5_step 0 ⟨rfl, by decide, by decide, by decide +kernel⟩ ⟨Nat.le_of_ble_eq_true rfl, Nat.le_of_ble_eq_true rfl⟩ rfl hl.1 rfl (hw_cat8 (Nat.le_of_ble_eq_true rfl)) ⟨hu, hv⟩ dX5_readValue_193) hT (fun S39 H locs h_ hT_ => ?_)
  replace h := h_
  replace hT := hT_
  obtain ⟨hu41, hv41, h⟩ := h
  refine cs_newo hx hb hK hT hown 10 (by decide) rfl tyX9_ok cs_df10 kxX5_164 kj_X9 kn_X9 hu41 hv41 dX5_readValue_196 (fun q41 H hq41 hT_ => ?_)
  replace h := h q41 hq41
  replace hT := hT_
  obtain ⟨S42, eS42⟩ : ∃ z, z = cs_new S39 q41 10 := ⟨_, rfl⟩
  rw [← eS42] at hT
  replace h := h S42 eS42
  refine lv_dup hx hb dX5_readValue_199 rfl ?_
  refine lv_iload hx hb dX5_readValue_200 (lv_at hl 0 rfl) ?_
  refine lv_iload_n hx hb dX5_readValue_202 rfl (lv_at hl 2 rfl) ?_
  refine hw_aload (x := x6) hx hb dX5_readValue_203 (lv_at hl 3 rfl) ?_
  refine cs_callv0 (cs_runI hx hb hml hown hK hO hT (c_X9_init h) rfl rfl klX5_166 ki_X9_init kn_X9 kc_X9_init rfl 3 ⟨by decide, by decide, by decide +kernel⟩ ⟨Nat.le_of_ble_eq_true rfl, Nat.le_of_ble_eq_true rfl⟩ rfl hl.1 rfl (hw_cat8 (Nat.le_of_ble_eq_true rfl)) ⟨hu41, hv41⟩ dX5_readValue_205) hT (fun S43 H locs h_ hT_ => ?_)
  replace h := h_
  replace hT := hT_
  exact cs_aret (v := (some q41)) hC (Or.inl ⟨_, rfl⟩) hT h dX5_readValue_208 hu41 hv41
end
def w_X5_readValue_165 (post : Option Nat → cs_S → Prop) (G : Nat → Nat) (mc ms : Nat) (S : cs_S) (u v : Nat) (x0 : Nat) (x3 : Int32) (x6 : Option Nat) : Prop := u ≤ mc ∧ v ≤ ms ∧ cs_k S x0 = 7 ∧ (¬ (cs_i S 606 x0) = 4 → (¬ (cs_i S 606 x0) = 3 → w_X5_readValue_190 post G mc ms S u v x0 x3 x6 2) ∧ ((cs_i S 606 x0) = 3 → w_X5_readValue_190 post G mc ms S u v x0 x3 x6 0)) ∧ ((cs_i S 606 x0) = 4 → w_X5_readValue_190 post G mc ms S u v x0 x3 x6 1)
section
variable {p : Program} {l : Launch} {e : Env} {s : State} {m : MethodId} {args : Array Value} {below : List Frame} {meth : Method} {c : Code} {P : hw_G} {G : Nat → Nat} {A : Nat → Prop}
set_option maxRecDepth 100000 in
set_option maxHeartbeats 4000000 in
theorem t_X5_readValue_165 {post : Option Nat → cs_S → Prop} {mc ms : Nat} (hC : rf_C P RX5 p s m meth c cX5_readValue 8 (some (.object "WatchHouse$Value"))) (hin : meth.name = yX5_readValue.name) (hO : cs_O G A s s.heap) (S : cs_S) (u v : Nat) (x0 : Nat) (x3 : Int32) (x6 : Option Nat) (H : Heap) (locs : List Loc) (ls : Array Slot) (h : w_X5_readValue_165 post G mc ms S u v x0 x3 x6) (hT : cs_T P s A S H locs) (hl : lv_has ls 8 [(0, .ref x0), (3, .int x3), (6, va_rf x6)]) : W p l e (rm_X5_readValue mc ms) s m args below meth c H locs u v (MQ below (cs_Qr P A post) args s mc ms A) (F0 m 165 ls []) := by
  obtain ⟨hx, hb, hml, hown, hK, -, -⟩ := id hC
  obtain ⟨hu, hv, h⟩ := h
  refine lv_aload_n (x := x0) hx hb dX5_readValue_165 rfl (lv_at hl 0 rfl) ?_
  obtain ⟨hk44_, h⟩ := h
  refine cs_get hx hb hK hT hown 6 hk44_ (by decide) rfl 6 (by decide) kfX5_27 (v := .int (cs_i S 606 x0)) rfl dX5_readValue_166 ?_
  refine lv_iconst (v := 4) hx hb dX5_readValue_169 (by decide) ?_
  refine lv_icmp_ne (tgt := 177) hx hb dX5_readValue_170 (by decide) (fun hc => ?_) (fun hc => ?_)
  · replace h := h.1 hc
    refine lv_aload_n (x := x0) hx hb dX5_readValue_177 rfl (lv_at hl 0 rfl) ?_
    refine cs_get hx hb hK hT hown 6 hk44_ (by decide) rfl 6 (by decide) kfX5_27 (v := .int (cs_i S 606 x0)) rfl dX5_readValue_178 ?_
    refine lv_iconst (v := 3) hx hb dX5_readValue_181 (by decide) ?_
    refine lv_icmp_ne (tgt := 189) hx hb dX5_readValue_182 (by decide) (fun hc => ?_) (fun hc => ?_)
    · replace h := h.1 hc
      refine lv_iconst (v := 2) hx hb dX5_readValue_189 (by decide) ?_
      exact t_X5_readValue_190 hC hin hO S u v x0 x3 x6 2 _ _ _ h hT (lv_sub hl [0, 1, 2] rfl)
    · replace h := h.2 hc
      refine lv_iconst (v := 0) hx hb dX5_readValue_185 (by decide) ?_
      refine lv_goto (tgt := 190) hx hb dX5_readValue_186 (by decide) ?_
      exact t_X5_readValue_190 hC hin hO S u v x0 x3 x6 0 _ _ _ h hT (lv_sub hl [0, 1, 2] rfl)
  · replace h := h.2 hc
    refine lv_iconst (v := 1) hx hb dX5_readValue_173 (by decide) ?_
    refine lv_goto (tgt := 190) hx hb dX5_readValue_174 (by decide) ?_
    exact t_X5_readValue_190 hC hin hO S u v x0 x3 x6 1 _ _ _ h hT (lv_sub hl [0, 1, 2] rfl)
end
def w_X5_readValue_118 (post : Option Nat → cs_S → Prop) (G : Nat → Nat) (mc ms : Nat) : Nat → cs_S → Nat → Nat → Nat → Int32 → Int32 → Int32 → Option Nat → Int32 → Prop
  | 0, _, _, _, _, _, _, _, _, _ => False
  | n + 1, S, u, v, x0, x3, x4, x5, x6, x7 => u ≤ mc ∧ v ≤ ms ∧ (x5 ≤ x7 → w_X5_readValue_165 post G mc ms S u v x0 x3 x6) ∧ (¬ x5 ≤ x7 → cs_k S x0 = 7 ∧ ∀ r46, r46 = cs_r S 604 x0 → ∃ b47, r46 = some b47 ∧ cs_k S b47 = 10 ∧ ∀ r49, r49 = cs_r S 904 b47 → ∃ b50, r49 = some b50 ∧ cs_k S b50 = 20 ∧ ((Int32.ofNat (cs_n S b50)) ≤ (x4 + x7) → w_X5_readValue_165 post G mc ms S u v x0 x3 x6) ∧ (¬ (Int32.ofNat (cs_n S b50)) ≤ (x4 + x7) → ∀ r52, r52 = cs_r S 604 x0 → ∃ b53, r52 = some b53 ∧ cs_k S b53 = 10 ∧ ∀ r55, r55 = cs_r S 904 b53 → ∃ b56, r55 = some b56 ∧ cs_k S b56 = 20 ∧ vp_in (x4 + x7) (cs_n S b56) ∧ ∃ b58, x6 = some b58 ∧ cs_k S b58 = 20 ∧ vp_in x7 (cs_n S b58) ∧ ∀ S60, S60 = cs_uai S b58 x7.toNatClampNeg (cs_ai S b56 (x4 + x7).toNatClampNeg) → w_X5_readValue_118 post G mc ms n S60 u v x0 x3 x4 x5 (some b58) (x7 + 1)))
section
variable {p : Program} {l : Launch} {e : Env} {s : State} {m : MethodId} {args : Array Value} {below : List Frame} {meth : Method} {c : Code} {P : hw_G} {G : Nat → Nat} {A : Nat → Prop}
set_option maxRecDepth 100000 in
set_option maxHeartbeats 4000000 in
theorem t_X5_readValue_118 {post : Option Nat → cs_S → Prop} {mc ms : Nat} (hC : rf_C P RX5 p s m meth c cX5_readValue 8 (some (.object "WatchHouse$Value"))) (hin : meth.name = yX5_readValue.name) (hO : cs_O G A s s.heap) : ∀ (n : Nat) (S : cs_S) (u v : Nat) (x0 : Nat) (x3 : Int32) (x4 : Int32) (x5 : Int32) (x6 : Option Nat) (x7 : Int32) (H : Heap) (locs : List Loc) (ls : Array Slot), w_X5_readValue_118 post G mc ms n S u v x0 x3 x4 x5 x6 x7 → cs_T P s A S H locs → lv_has ls 8 [(0, .ref x0), (3, .int x3), (4, .int x4), (5, .int x5), (6, va_rf x6), (7, .int x7)] → W p l e (rm_X5_readValue mc ms) s m args below meth c H locs u v (MQ below (cs_Qr P A post) args s mc ms A) (F0 m 118 ls []) := by
  obtain ⟨hx, hb, hml, hown, hK, -, -⟩ := id hC
  intro n
  induction n with
  | zero => intro S u v x0 x3 x4 x5 x6 x7 H locs ls h; exact False.elim h
  | succ n ih =>
    intro S u v x0 x3 x4 x5 x6 x7 H locs ls h hT hl
    obtain ⟨hu, hv, h⟩ := h
    refine lv_iload hx hb dX5_readValue_118 (lv_at hl 5 rfl) ?_
    refine lv_iload hx hb dX5_readValue_120 (lv_at hl 3 rfl) ?_
    refine lv_icmp_ge (tgt := 165) hx hb dX5_readValue_122 (by decide) (fun hc => ?_) (fun hc => ?_)
    · replace h := h.1 hc
      exact t_X5_readValue_165 hC hin hO S u v x0 x3 x6 _ _ _ h hT (lv_sub hl [0, 1, 4] rfl)
    · replace h := h.2 hc
      refine lv_iload hx hb dX5_readValue_125 (lv_at hl 2 rfl) ?_
      refine lv_iload hx hb dX5_readValue_127 (lv_at hl 5 rfl) ?_
      refine lv_iadd hx hb dX5_readValue_129 ?_
      refine lv_aload_n (x := x0) hx hb dX5_readValue_130 rfl (lv_at hl 0 rfl) ?_
      obtain ⟨hk45_, h⟩ := h
      refine cs_get hx hb hK hT hown 6 hk45_ (by decide) rfl 4 (by decide) kfX5_9 (v := va_rf (cs_r S 604 x0)) rfl dX5_readValue_131 ?_
      refine hw_topr (fun r46 er46 => ?_)
      replace h := h r46 er46
      obtain ⟨b47, rfl, h⟩ := h
      obtain ⟨hk48_, h⟩ := h
      refine cs_getN hx hb hK hT hown 9 hk48_ (by decide) rfl 4 (by decide) (hO.2.2.2.2.2.2.2.2.1 _ kfnX5_161 rfl) (v := va_rf (cs_r S 904 b47)) rfl dX5_readValue_134 ?_
      refine hw_topr (fun r49 er49 => ?_)
      replace h := h r49 er49
      obtain ⟨b50, rfl, h⟩ := h
      obtain ⟨hk51_, h⟩ := h
      refine cs_alen hx hb hK hT 20 hk51_ (by decide) (by decide) dX5_readValue_137 ?_
      refine lv_icmp_ge (tgt := 165) hx hb dX5_readValue_138 (by decide) (fun hc => ?_) (fun hc => ?_)
      · replace h := h.1 hc
        exact t_X5_readValue_165 hC hin hO S u v x0 x3 x6 _ _ _ h hT (lv_sub hl [0, 1, 4] rfl)
      · replace h := h.2 hc
        refine hw_aload (x := x6) hx hb dX5_readValue_141 (lv_at hl 4 rfl) ?_
        refine lv_iload hx hb dX5_readValue_143 (lv_at hl 5 rfl) ?_
        refine lv_aload_n (x := x0) hx hb dX5_readValue_145 rfl (lv_at hl 0 rfl) ?_
        refine cs_get hx hb hK hT hown 6 hk45_ (by decide) rfl 4 (by decide) kfX5_9 (v := va_rf (cs_r S 604 x0)) rfl dX5_readValue_146 ?_
        refine hw_topr (fun r52 er52 => ?_)
        replace h := h r52 er52
        obtain ⟨b53, rfl, h⟩ := h
        obtain ⟨hk54_, h⟩ := h
        refine cs_getN hx hb hK hT hown 9 hk54_ (by decide) rfl 4 (by decide) (hO.2.2.2.2.2.2.2.2.1 _ kfnX5_161 rfl) (v := va_rf (cs_r S 904 b53)) rfl dX5_readValue_149 ?_
        refine hw_topr (fun r55 er55 => ?_)
        replace h := h r55 er55
        refine lv_iload hx hb dX5_readValue_152 (lv_at hl 2 rfl) ?_
        refine lv_iload hx hb dX5_readValue_154 (lv_at hl 5 rfl) ?_
        refine lv_iadd hx hb dX5_readValue_156 ?_
        obtain ⟨b56, rfl, h⟩ := h
        obtain ⟨hk57_, h⟩ := h
        obtain ⟨hi, h⟩ := h
        refine cs_iald hx hb hK hT hk57_ hi dX5_readValue_157 ?_
        obtain ⟨b58, rfl, h⟩ := h
        obtain ⟨hk59_, h⟩ := h
        obtain ⟨hi, h⟩ := h
        refine cs_iast hx hb hK hT hk59_ hi dX5_readValue_158 (fun H locs hT_ => ?_)
        replace hT := hT_
        obtain ⟨S60, eS60⟩ : ∃ z, z = cs_uai S b58 x7.toNatClampNeg (cs_ai S b56 (x4 + x7).toNatClampNeg) := ⟨_, rfl⟩
        rw [← eS60] at hT
        replace h := h S60 eS60
        refine lv_iinc (v := x7 + 1) (lv' := [(7, _), (0, _), (3, _), (4, _), (5, _), (6, _)]) hx hb dX5_readValue_159 hl (k := 5) rfl rfl (by decide) rfl (fun ls hl_ => ?_)
        replace hl := hl_
        refine lv_goto (tgt := 118) hx hb dX5_readValue_162 (by decide) ?_
        exact ih S60 u v x0 x3 x4 x5 (some b58) (x7 + 1) _ _ _ h hT (lv_sub hl [1, 2, 3, 4, 5, 0] rfl)
end
def w_X5_readValue_113 (post : Option Nat → cs_S → Prop) (G : Nat → Nat) (mc ms : Nat) (S : cs_S) (u v : Nat) (x0 : Nat) (x3 : Int32) (x4 : Int32) (x5 : Int32) (y0 : Option Nat) : Prop := u ≤ mc ∧ v ≤ ms ∧ ∃ n9, w_X5_readValue_118 post G mc ms n9 S u v x0 x3 x4 x5 y0 0
section
variable {p : Program} {l : Launch} {e : Env} {s : State} {m : MethodId} {args : Array Value} {below : List Frame} {meth : Method} {c : Code} {P : hw_G} {G : Nat → Nat} {A : Nat → Prop}
set_option maxRecDepth 100000 in
set_option maxHeartbeats 4000000 in
theorem t_X5_readValue_113 {post : Option Nat → cs_S → Prop} {mc ms : Nat} (hC : rf_C P RX5 p s m meth c cX5_readValue 8 (some (.object "WatchHouse$Value"))) (hin : meth.name = yX5_readValue.name) (hO : cs_O G A s s.heap) (S : cs_S) (u v : Nat) (x0 : Nat) (x3 : Int32) (x4 : Int32) (x5 : Int32) (y0 : Option Nat) (H : Heap) (locs : List Loc) (ls : Array Slot) (h : w_X5_readValue_113 post G mc ms S u v x0 x3 x4 x5 y0) (hT : cs_T P s A S H locs) (hl : lv_has ls 8 [(0, .ref x0), (3, .int x3), (4, .int x4), (5, .int x5)]) : W p l e (rm_X5_readValue mc ms) s m args below meth c H locs u v (MQ below (cs_Qr P A post) args s mc ms A) (F0 m 113 ls [va_rf y0]) := by
  obtain ⟨hx, hb, hml, hown, hK, -, -⟩ := id hC
  obtain ⟨hu, hv, h⟩ := h
  refine hw_astore (lv' := [(6, _), (0, _), (3, _), (4, _), (5, _)]) (x := y0) hx hb dX5_readValue_113 hl (by decide) rfl (fun ls hl_ => ?_)
  replace hl := hl_
  refine lv_iconst (v := 0) hx hb dX5_readValue_115 (by decide) ?_
  refine lv_istore (lv' := [(7, _), (6, _), (0, _), (3, _), (4, _), (5, _)]) hx hb dX5_readValue_116 hl (by decide) (congrArg (List.cons _) ((hw_flt (fun q hq => by simp only [List.mem_cons, List.not_mem_nil, or_false] at hq; rcases hq with rfl | rfl | rfl | rfl | rfl <;> first | exact fun _ => rfl | exact fun _ => va_rf_cat _ | (intro h; simp at h))).trans rfl)) (fun ls hl_ => ?_)
  replace hl := hl_
  obtain ⟨n9, h⟩ := h
  exact t_X5_readValue_118 hC hin hO n9 S u v x0 x3 x4 x5 y0 0 _ _ _ h hT (lv_sub hl [2, 3, 4, 5, 1, 0] rfl)
end
def w_X5_readValue_96 (post : Option Nat → cs_S → Prop) (G : Nat → Nat) (mc ms : Nat) (S : cs_S) (u v : Nat) (x0 : Nat) (x3 : Int32) (x4 : Int32) (y0 : Int32) : Prop := u ≤ mc ∧ v ≤ ms ∧ (¬ y0 = 0 → ¬ y0 < 0 ∧ y0.toNatClampNeg * componentBytes (cs_aty 20) ≤ 536870912 ∧ u + 1 ≤ mc ∧ v + y0.toNatClampNeg ≤ ms ∧ ∀ q61, cs_k S q61 = 0 → ∀ S62, S62 = cs_newA S q61 20 y0.toNatClampNeg → w_X5_readValue_113 post G mc ms S62 (u + 1) (v + y0.toNatClampNeg) x0 x3 x4 y0 (some q61)) ∧ (y0 = 0 → w_X5_readValue_113 post G mc ms S u v x0 x3 x4 y0 (some (G 0)))
section
variable {p : Program} {l : Launch} {e : Env} {s : State} {m : MethodId} {args : Array Value} {below : List Frame} {meth : Method} {c : Code} {P : hw_G} {G : Nat → Nat} {A : Nat → Prop}
set_option maxRecDepth 100000 in
set_option maxHeartbeats 4000000 in
theorem t_X5_readValue_96 {post : Option Nat → cs_S → Prop} {mc ms : Nat} (hC : rf_C P RX5 p s m meth c cX5_readValue 8 (some (.object "WatchHouse$Value"))) (hin : meth.name = yX5_readValue.name) (hO : cs_O G A s s.heap) (S : cs_S) (u v : Nat) (x0 : Nat) (x3 : Int32) (x4 : Int32) (y0 : Int32) (H : Heap) (locs : List Loc) (ls : Array Slot) (h : w_X5_readValue_96 post G mc ms S u v x0 x3 x4 y0) (hT : cs_T P s A S H locs) (hl : lv_has ls 8 [(0, .ref x0), (3, .int x3), (4, .int x4)]) : W p l e (rm_X5_readValue mc ms) s m args below meth c H locs u v (MQ below (cs_Qr P A post) args s mc ms A) (F0 m 96 ls [.int y0]) := by
  obtain ⟨hx, hb, hml, hown, hK, -, -⟩ := id hC
  obtain ⟨hu, hv, h⟩ := h
  refine lv_istore (lv' := [(5, _), (0, _), (3, _), (4, _)]) hx hb dX5_readValue_96 hl (by decide) rfl (fun ls hl_ => ?_)
  replace hl := hl_
  refine lv_iload hx hb dX5_readValue_98 (lv_at hl 0 rfl) ?_
  refine lv_if_ne (tgt := 109) hx hb dX5_readValue_100 (by decide) (fun hc => ?_) (fun hc => ?_)
  · replace h := h.1 hc
    refine lv_iload hx hb dX5_readValue_109 (lv_at hl 0 rfl) ?_
    obtain ⟨hn1, hn2, hu61, hv61, h⟩ := h
    refine cs_newa hx hb hK hT 20 rfl ka_int (by decide) (by decide) rfl hn1 hn2 hu61 hv61 dX5_readValue_111 (fun q61 H hq61 hT_ => ?_)
    replace h := h q61 hq61
    replace hT := hT_
    obtain ⟨S62, eS62⟩ : ∃ z, z = cs_newA S q61 20 y0.toNatClampNeg := ⟨_, rfl⟩
    rw [← eS62] at hT
    replace h := h S62 eS62
    exact t_X5_readValue_113 hC hin hO S62 (u + 1) (v + y0.toNatClampNeg) x0 x3 x4 y0 (some q61) _ _ _ h hT (lv_sub hl [1, 2, 3, 0] rfl)
  · replace h := h.2 hc
    refine cs_getsN hx hb hO hT hown kfnX5_158 dX5_readValue_103 ?_
    refine lv_goto (tgt := 113) hx hb dX5_readValue_106 (by decide) ?_
    exact t_X5_readValue_113 hC hin hO S u v x0 x3 x4 y0 (some (G 0)) _ _ _ h hT (lv_sub hl [1, 2, 3, 0] rfl)
end
def w_X5_readValue_29 (post : Option Nat → cs_S → Prop) (G : Nat → Nat) (mc ms : Nat) (S : cs_S) (u v : Nat) (x0 : Nat) (x1 : Int32) (y0 : Int32) : Prop := u ≤ mc ∧ v ≤ ms ∧ cs_k S x0 = 7 ∧ (¬ (cs_i S 606 x0) = x1 → w_X5_readValue_42 post G mc ms S u v x0) ∧ ((cs_i S 606 x0) = x1 → (¬ y0 = 0 → ∀ r64, r64 = cs_r S 604 x0 → ∃ b65, r64 = some b65 ∧ cs_k S b65 = 10 ∧ ∀ r67, r67 = cs_r S 902 b65 → ∃ b68, r67 = some b68 ∧ cs_k S b68 = 21 ∧ vp_in (cs_i S 605 x0) (cs_n S b68) ∧ ∀ r70, r70 = cs_r S 604 x0 → ∃ b71, r70 = some b71 ∧ cs_k S b71 = 10 ∧ ∀ r73, r73 = cs_r S 901 b71 → ∃ b74, r73 = some b74 ∧ cs_k S b74 = 20 ∧ vp_in (cs_i S 605 x0) (cs_n S b74) ∧ (¬ (cs_i S 606 x0) = 4 → w_X5_readValue_96 post G mc ms S u v x0 ((cs_al S b68 (cs_i S 605 x0).toNatClampNeg).toInt32) ((cs_ai S b74 (cs_i S 605 x0).toNatClampNeg) + 1) 0) ∧ ((cs_i S 606 x0) = 4 → w_X5_readValue_96 post G mc ms S u v x0 ((cs_al S b68 (cs_i S 605 x0).toNatClampNeg).toInt32) ((cs_ai S b74 (cs_i S 605 x0).toNatClampNeg) + 1) (if (cs_al S b68 (cs_i S 605 x0).toNatClampNeg).toInt32 < 0 then 0 else (cs_al S b68 (cs_i S 605 x0).toNatClampNeg).toInt32))) ∧ (y0 = 0 → w_X5_readValue_42 post G mc ms S u v x0))
section
variable {p : Program} {l : Launch} {e : Env} {s : State} {m : MethodId} {args : Array Value} {below : List Frame} {meth : Method} {c : Code} {P : hw_G} {G : Nat → Nat} {A : Nat → Prop}
set_option maxRecDepth 100000 in
set_option maxHeartbeats 4000000 in
theorem t_X5_readValue_29 {post : Option Nat → cs_S → Prop} {mc ms : Nat} (hC : rf_C P RX5 p s m meth c cX5_readValue 8 (some (.object "WatchHouse$Value"))) (hin : meth.name = yX5_readValue.name) (hO : cs_O G A s s.heap) (S : cs_S) (u v : Nat) (x0 : Nat) (x1 : Int32) (y0 : Int32) (H : Heap) (locs : List Loc) (ls : Array Slot) (h : w_X5_readValue_29 post G mc ms S u v x0 x1 y0) (hT : cs_T P s A S H locs) (hl : lv_has ls 8 [(0, .ref x0), (1, .int x1)]) : W p l e (rm_X5_readValue mc ms) s m args below meth c H locs u v (MQ below (cs_Qr P A post) args s mc ms A) (F0 m 29 ls [.int y0]) := by
  obtain ⟨hx, hb, hml, hown, hK, -, -⟩ := id hC
  obtain ⟨hu, hv, h⟩ := h
  refine lv_istore_n (lv' := [(2, _), (0, _), (1, _)]) hx hb dX5_readValue_29 rfl hl (by decide) rfl (fun ls hl_ => ?_)
  replace hl := hl_
  refine lv_aload_n (x := x0) hx hb dX5_readValue_30 rfl (lv_at hl 1 rfl) ?_
  obtain ⟨hk63_, h⟩ := h
  refine cs_get hx hb hK hT hown 6 hk63_ (by decide) rfl 6 (by decide) kfX5_27 (v := .int (cs_i S 606 x0)) rfl dX5_readValue_31 ?_
  refine lv_iload_n hx hb dX5_readValue_34 rfl (lv_at hl 2 rfl) ?_
  refine lv_icmp_ne (tgt := 42) hx hb dX5_readValue_35 (by decide) (fun hc => ?_) (fun hc => ?_)
  · replace h := h.1 hc
    exact t_X5_readValue_42 hC hin hO S u v x0 _ _ _ h hT (lv_sub hl [1] rfl)
  · replace h := h.2 hc
    refine lv_iload_n hx hb dX5_readValue_38 rfl (lv_at hl 0 rfl) ?_
    refine lv_if_ne (tgt := 49) hx hb dX5_readValue_39 (by decide) (fun hc => ?_) (fun hc => ?_)
    · replace h := h.1 hc
      refine lv_aload_n (x := x0) hx hb dX5_readValue_49 rfl (lv_at hl 1 rfl) ?_
      refine cs_get hx hb hK hT hown 6 hk63_ (by decide) rfl 4 (by decide) kfX5_9 (v := va_rf (cs_r S 604 x0)) rfl dX5_readValue_50 ?_
      refine hw_topr (fun r64 er64 => ?_)
      replace h := h r64 er64
      obtain ⟨b65, rfl, h⟩ := h
      obtain ⟨hk66_, h⟩ := h
      refine cs_get hx hb hK hT hown 9 hk66_ (by decide) rfl 2 (by decide) kfX5_87 (v := va_rf (cs_r S 902 b65)) rfl dX5_readValue_53 ?_
      refine hw_topr (fun r67 er67 => ?_)
      replace h := h r67 er67
      refine lv_aload_n (x := x0) hx hb dX5_readValue_56 rfl (lv_at hl 1 rfl) ?_
      refine cs_get hx hb hK hT hown 6 hk63_ (by decide) rfl 5 (by decide) kfX5_34 (v := .int (cs_i S 605 x0)) rfl dX5_readValue_57 ?_
      obtain ⟨b68, rfl, h⟩ := h
      obtain ⟨hk69_, h⟩ := h
      obtain ⟨hi, h⟩ := h
      refine cs_lald hx hb hK hT hk69_ hi dX5_readValue_60 ?_
      refine lv_l2i (v := (cs_al S b68 (cs_i S 605 x0).toNatClampNeg).toInt32) hx hb dX5_readValue_61 rfl ?_
      refine lv_istore_n (lv' := [(3, _), (2, _), (0, _), (1, _)]) hx hb dX5_readValue_62 rfl hl (by decide) rfl (fun ls hl_ => ?_)
      replace hl := hl_
      refine lv_aload_n (x := x0) hx hb dX5_readValue_63 rfl (lv_at hl 2 rfl) ?_
      refine cs_get hx hb hK hT hown 6 hk63_ (by decide) rfl 4 (by decide) kfX5_9 (v := va_rf (cs_r S 604 x0)) rfl dX5_readValue_64 ?_
      refine hw_topr (fun r70 er70 => ?_)
      replace h := h r70 er70
      obtain ⟨b71, rfl, h⟩ := h
      obtain ⟨hk72_, h⟩ := h
      refine cs_get hx hb hK hT hown 9 hk72_ (by decide) rfl 1 (by decide) kfX5_37 (v := va_rf (cs_r S 901 b71)) rfl dX5_readValue_67 ?_
      refine hw_topr (fun r73 er73 => ?_)
      replace h := h r73 er73
      refine lv_aload_n (x := x0) hx hb dX5_readValue_70 rfl (lv_at hl 2 rfl) ?_
      refine cs_get hx hb hK hT hown 6 hk63_ (by decide) rfl 5 (by decide) kfX5_34 (v := .int (cs_i S 605 x0)) rfl dX5_readValue_71 ?_
      obtain ⟨b74, rfl, h⟩ := h
      obtain ⟨hk75_, h⟩ := h
      obtain ⟨hi, h⟩ := h
      refine cs_iald hx hb hK hT hk75_ hi dX5_readValue_74 ?_
      refine lv_iconst (v := 1) hx hb dX5_readValue_75 (by decide) ?_
      refine lv_iadd hx hb dX5_readValue_76 ?_
      refine lv_istore (lv' := [(4, _), (3, _), (2, _), (0, _), (1, _)]) hx hb dX5_readValue_77 hl (by decide) rfl (fun ls hl_ => ?_)
      replace hl := hl_
      refine lv_aload_n (x := x0) hx hb dX5_readValue_79 rfl (lv_at hl 3 rfl) ?_
      refine cs_get hx hb hK hT hown 6 hk63_ (by decide) rfl 6 (by decide) kfX5_27 (v := .int (cs_i S 606 x0)) rfl dX5_readValue_80 ?_
      refine lv_iconst (v := 4) hx hb dX5_readValue_83 (by decide) ?_
      refine lv_icmp_ne (tgt := 95) hx hb dX5_readValue_84 (by decide) (fun hc => ?_) (fun hc => ?_)
      · replace h := h.1 hc
        refine lv_iconst (v := 0) hx hb dX5_readValue_95 (by decide) ?_
        exact t_X5_readValue_96 hC hin hO S u v x0 ((cs_al S b68 (cs_i S 605 x0).toNatClampNeg).toInt32) ((cs_ai S b74 (cs_i S 605 x0).toNatClampNeg) + 1) 0 _ _ _ h hT (lv_sub hl [3, 1, 0] rfl)
      · replace h := h.2 hc
        refine lv_iload_n hx hb dX5_readValue_87 rfl (lv_at hl 1 rfl) ?_
        refine lv_iconst (v := 0) hx hb dX5_readValue_88 (by decide) ?_
        refine va_mmax hx hb (hml.trans hl.1.symm) hown (hK.word klX5_153m rfl) (hK.word ki_mmax rfl) (hK.word kn_J9 rfl) (hK.word kc_mmax rfl) (Nat.le_of_ble_eq_true rfl) (hw_catN (Nat.le_of_ble_eq_true rfl) (Nat.le_of_ble_eq_true rfl)) hu hv dX5_readValue_89 ?_
        refine lv_goto (tgt := 96) hx hb dX5_readValue_92 (by decide) ?_
        exact t_X5_readValue_96 hC hin hO S u v x0 ((cs_al S b68 (cs_i S 605 x0).toNatClampNeg).toInt32) ((cs_ai S b74 (cs_i S 605 x0).toNatClampNeg) + 1) (if (cs_al S b68 (cs_i S 605 x0).toNatClampNeg).toInt32 < 0 then 0 else (cs_al S b68 (cs_i S 605 x0).toNatClampNeg).toInt32) _ _ _ h hT (lv_sub hl [3, 1, 0] rfl)
    · replace h := h.2 hc
      exact t_X5_readValue_42 hC hin hO S u v x0 _ _ _ h hT (lv_sub hl [1] rfl)
end
def w_X5_readValue_24 (post : Option Nat → cs_S → Prop) (G : Nat → Nat) (mc ms : Nat) (S : cs_S) (u v : Nat) (x0 : Nat) (x1 : Int32) : Prop := u ≤ mc ∧ v ≤ ms ∧ w_X5_readValue_29 post G mc ms S u v x0 x1 1
section
variable {p : Program} {l : Launch} {e : Env} {s : State} {m : MethodId} {args : Array Value} {below : List Frame} {meth : Method} {c : Code} {P : hw_G} {G : Nat → Nat} {A : Nat → Prop}
set_option maxRecDepth 100000 in
set_option maxHeartbeats 4000000 in
theorem t_X5_readValue_24 {post : Option Nat → cs_S → Prop} {mc ms : Nat} (hC : rf_C P RX5 p s m meth c cX5_readValue 8 (some (.object "WatchHouse$Value"))) (hin : meth.name = yX5_readValue.name) (hO : cs_O G A s s.heap) (S : cs_S) (u v : Nat) (x0 : Nat) (x1 : Int32) (H : Heap) (locs : List Loc) (ls : Array Slot) (h : w_X5_readValue_24 post G mc ms S u v x0 x1) (hT : cs_T P s A S H locs) (hl : lv_has ls 8 [(0, .ref x0), (1, .int x1)]) : W p l e (rm_X5_readValue mc ms) s m args below meth c H locs u v (MQ below (cs_Qr P A post) args s mc ms A) (F0 m 24 ls []) := by
  obtain ⟨hx, hb, hml, hown, hK, -, -⟩ := id hC
  obtain ⟨hu, hv, h⟩ := h
  refine lv_iconst (v := 1) hx hb dX5_readValue_24 (by decide) ?_
  refine lv_goto (tgt := 29) hx hb dX5_readValue_25 (by decide) ?_
  exact t_X5_readValue_29 hC hin hO S u v x0 x1 1 _ _ _ h hT (lv_sub hl [0, 1] rfl)
end
def wp_X5_readValue (post : Option Nat → cs_S → Prop) (G : Nat → Nat) (mc ms : Nat) (S : cs_S) (o : Nat) (p1 : Int32) : Prop := cs_k S o = 7 ∧ ((cs_i S 606 o) = 3 → w_X5_readValue_24 post G mc ms S 0 0 o p1) ∧ (¬ (cs_i S 606 o) = 3 → ((cs_i S 606 o) = 4 → w_X5_readValue_24 post G mc ms S 0 0 o p1) ∧ (¬ (cs_i S 606 o) = 4 → (¬ (cs_i S 606 o) = 5 → w_X5_readValue_29 post G mc ms S 0 0 o p1 0) ∧ ((cs_i S 606 o) = 5 → w_X5_readValue_24 post G mc ms S 0 0 o p1)))
set_option maxRecDepth 100000 in
set_option maxHeartbeats 4000000 in
theorem c_X5_readValue {l : Launch} {P : hw_G} {G : Nat → Nat} {S : cs_S} {sz : Nat} {mc ms : Nat} {o : Nat} {p1 : Int32} {post : Option Nat → cs_S → Prop} (h : wp_X5_readValue post G mc ms S o p1) : Met l yX5_readValue [Cond.code yX5_readValue cX5_readValue 8 (some (.object "WatchHouse$Value"))] (rm_X5_readValue mc ms) (cs_Pc P G S sz [.ref o, .int p1]) (cs_Qr P (cs_A S sz) post) mc ms (cs_A S sz) := by
  refine cs_met (by decide) rfl (Nat.le_of_ble_eq_true rfl) ?_
  intro p e s m below meth c ls hC hin hO hT hl
  obtain ⟨hx, hb, hml, hown, hK, -, -⟩ := id hC
  replace hl : lv_has ls 8 [(0, .ref o), (1, .int p1)] := hl
  refine lv_aload_n (x := o) hx hb dX5_readValue_0 rfl (lv_at hl 0 rfl) ?_
  obtain ⟨hk76_, h⟩ := h
  refine cs_get hx hb hK hT hown 6 hk76_ (by decide) rfl 6 (by decide) kfX5_27 (v := .int (cs_i S 606 o)) rfl dX5_readValue_1 ?_
  refine lv_iconst (v := 3) hx hb dX5_readValue_4 (by decide) ?_
  refine lv_icmp_eq (tgt := 24) hx hb dX5_readValue_5 (by decide) (fun hc => ?_) (fun hc => ?_)
  · replace h := h.1 hc
    exact t_X5_readValue_24 hC hin hO S 0 0 o p1 _ _ _ h hT (lv_sub hl [0, 1] rfl)
  · replace h := h.2 hc
    refine lv_aload_n (x := o) hx hb dX5_readValue_8 rfl (lv_at hl 0 rfl) ?_
    refine cs_get hx hb hK hT hown 6 hk76_ (by decide) rfl 6 (by decide) kfX5_27 (v := .int (cs_i S 606 o)) rfl dX5_readValue_9 ?_
    refine lv_iconst (v := 4) hx hb dX5_readValue_12 (by decide) ?_
    refine lv_icmp_eq (tgt := 24) hx hb dX5_readValue_13 (by decide) (fun hc => ?_) (fun hc => ?_)
    · replace h := h.1 hc
      exact t_X5_readValue_24 hC hin hO S 0 0 o p1 _ _ _ h hT (lv_sub hl [0, 1] rfl)
    · replace h := h.2 hc
      refine lv_aload_n (x := o) hx hb dX5_readValue_16 rfl (lv_at hl 0 rfl) ?_
      refine cs_get hx hb hK hT hown 6 hk76_ (by decide) rfl 6 (by decide) kfX5_27 (v := .int (cs_i S 606 o)) rfl dX5_readValue_17 ?_
      refine lv_iconst (v := 5) hx hb dX5_readValue_20 (by decide) ?_
      refine lv_icmp_ne (tgt := 28) hx hb dX5_readValue_21 (by decide) (fun hc => ?_) (fun hc => ?_)
      · replace h := h.1 hc
        refine lv_iconst (v := 0) hx hb dX5_readValue_28 (by decide) ?_
        exact t_X5_readValue_29 hC hin hO S 0 0 o p1 0 _ _ _ h hT (lv_sub hl [0, 1] rfl)
      · replace h := h.2 hc
        exact t_X5_readValue_24 hC hin hO S 0 0 o p1 _ _ _ h hT (lv_sub hl [0, 1] rfl)
/-! X5_readFieldTest -/
abbrev rm_X5_readFieldTest (mc ms : Nat) : Room := { frames := 3, cells := mc, slots := ms, locals := 79 }
def w_X5_readFieldTest_227 (post : Option Nat → cs_S → Prop) (G : Nat → Nat) (mc ms : Nat) (S : cs_S) (u v : Nat) (x1 : Int64) (x3 : Int32) (x4 : Int32) (x5 : Option Nat) : Prop := u ≤ mc ∧ v ≤ ms ∧ u + 1 ≤ mc ∧ v + 7 ≤ ms ∧ ∀ q57, cs_k S q57 = 0 → ∀ S58, S58 = cs_new S q57 2 → wp_X1_init (fun S59 => post (some q57) S59) G S58 q57 x3 x1 x4 x5
section
variable {p : Program} {l : Launch} {e : Env} {s : State} {m : MethodId} {args : Array Value} {below : List Frame} {meth : Method} {c : Code} {P : hw_G} {G : Nat → Nat} {A : Nat → Prop}
set_option maxRecDepth 100000 in
set_option maxHeartbeats 4000000 in
theorem t_X5_readFieldTest_227 {post : Option Nat → cs_S → Prop} {mc ms : Nat} (hC : rf_C P RX5 p s m meth c cX5_readFieldTest 6 (some (.object "WatchHouse$Cond"))) (hin : meth.name = yX5_readFieldTest.name) (hO : cs_O G A s s.heap) (S : cs_S) (u v : Nat) (x1 : Int64) (x3 : Int32) (x4 : Int32) (x5 : Option Nat) (H : Heap) (locs : List Loc) (ls : Array Slot) (h : w_X5_readFieldTest_227 post G mc ms S u v x1 x3 x4 x5) (hT : cs_T P s A S H locs) (hl : lv_has ls 6 [(1, .long x1), (3, .int x3), (4, .int x4), (5, va_rf x5)]) : W p l e (rm_X5_readFieldTest mc ms) s m args below meth c H locs u v (MQ below (cs_Qr P A post) args s mc ms A) (F0 m 227 ls []) := by
  obtain ⟨hx, hb, hml, hown, hK, -, -⟩ := id hC
  obtain ⟨hu, hv, h⟩ := h
  obtain ⟨hu57, hv57, h⟩ := h
  refine cs_newo hx hb hK hT hown 2 (by decide) rfl tyX1_ok cs_df2 kxX5_131 kj_X1 kn_X1 hu57 hv57 dX5_readFieldTest_227 (fun q57 H hq57 hT_ => ?_)
  replace h := h q57 hq57
  replace hT := hT_
  obtain ⟨S58, eS58⟩ : ∃ z, z = cs_new S q57 2 := ⟨_, rfl⟩
  rw [← eS58] at hT
  replace h := h S58 eS58
  refine lv_dup hx hb dX5_readFieldTest_230 rfl ?_
  refine lv_iload_n hx hb dX5_readFieldTest_231 rfl (lv_at hl 1 rfl) ?_
  refine lv_lload_n hx hb dX5_readFieldTest_232 rfl (lv_at hl 0 rfl) ?_
  refine lv_iload hx hb dX5_readFieldTest_233 (lv_at hl 2 rfl) ?_
  refine hw_aload (x := x5) hx hb dX5_readFieldTest_235 (lv_at hl 3 rfl) ?_
  refine cs_callv0 (cs_runI hx hb hml hown hK hO hT (c_X1_init h) rfl rfl klX5_133 ki_X1_init kn_X1 kc_X1_init rfl 4 ⟨by decide, by decide, by decide +kernel⟩ ⟨Nat.le_of_ble_eq_true rfl, Nat.le_of_ble_eq_true rfl⟩ rfl hl.1 rfl (hw_cat8 (Nat.le_of_ble_eq_true rfl)) ⟨hu57, hv57⟩ dX5_readFieldTest_237) hT (fun S59 H locs h_ hT_ => ?_)
  replace h := h_
  replace hT := hT_
  exact cs_aret (v := (some q57)) hC (Or.inl ⟨_, rfl⟩) hT h dX5_readFieldTest_240 hu57 hv57
end
def wp_X5_readFieldTest (post : Option Nat → cs_S → Prop) (G : Nat → Nat) (mc ms : Nat) (S : cs_S) (o : Nat) : Prop := cs_k S o = 7 ∧ wp_X5_readName (fun r60 S60 => cs_k S60 o = 7 ∧ ((cs_i S60 606 o).toInt < 11 ∨ 39 < (cs_i S60 606 o).toInt → wp_X5_fail (fun S63 => w_X5_readFieldTest_227 post G mc ms S63 0 0 r60 (cs_i S60 606 o) 0 none) G S60 o 2) ∧ ((cs_i S60 606 o).toInt = 11 → wp_X5_step (fun S64 => cs_k S64 o = 7 ∧ ∃ m66 n66, 0 + m66 ≤ mc ∧ 0 + n66 ≤ ms ∧ wp_X5_readValue (fun r66 S66 => w_X5_readFieldTest_227 post G mc ms S66 (0 + m66) (0 + n66) r60 (cs_i S60 606 o) 0 r66) G m66 n66 S64 o (cs_i S64 606 o)) G S60 o) ∧ ((cs_i S60 606 o).toInt = 12 → wp_X5_step (fun S67 => cs_k S67 o = 7 ∧ ∃ m69 n69, 0 + m69 ≤ mc ∧ 0 + n69 ≤ ms ∧ wp_X5_readValue (fun r69 S69 => w_X5_readFieldTest_227 post G mc ms S69 (0 + m69) (0 + n69) r60 (cs_i S60 606 o) 0 r69) G m69 n69 S67 o (cs_i S67 606 o)) G S60 o) ∧ ((cs_i S60 606 o).toInt = 13 → wp_X5_step (fun S70 => cs_k S70 o = 7 ∧ ∃ m71 n71, 0 + m71 ≤ mc ∧ 0 + n71 ≤ ms ∧ wp_X5_readValue (fun r71 S71 => w_X5_readFieldTest_227 post G mc ms S71 (0 + m71) (0 + n71) r60 (cs_i S60 606 o) 0 r71) G m71 n71 S70 o 3) G S60 o) ∧ ((cs_i S60 606 o).toInt = 14 → wp_X5_step (fun S73 => cs_k S73 o = 7 ∧ ∃ m74 n74, 0 + m74 ≤ mc ∧ 0 + n74 ≤ ms ∧ wp_X5_readValue (fun r74 S74 => w_X5_readFieldTest_227 post G mc ms S74 (0 + m74) (0 + n74) r60 (cs_i S60 606 o) 0 r74) G m74 n74 S73 o 3) G S60 o) ∧ ((cs_i S60 606 o).toInt = 15 → wp_X5_step (fun S76 => cs_k S76 o = 7 ∧ ∃ m77 n77, 0 + m77 ≤ mc ∧ 0 + n77 ≤ ms ∧ wp_X5_readValue (fun r77 S77 => w_X5_readFieldTest_227 post G mc ms S77 (0 + m77) (0 + n77) r60 (cs_i S60 606 o) 0 r77) G m77 n77 S76 o 3) G S60 o) ∧ ((cs_i S60 606 o).toInt = 16 → wp_X5_step (fun S79 => cs_k S79 o = 7 ∧ ∃ m80 n80, 0 + m80 ≤ mc ∧ 0 + n80 ≤ ms ∧ wp_X5_readValue (fun r80 S80 => w_X5_readFieldTest_227 post G mc ms S80 (0 + m80) (0 + n80) r60 (cs_i S60 606 o) 0 r80) G m80 n80 S79 o 3) G S60 o) ∧ ((cs_i S60 606 o).toInt = 17 → wp_X5_fail (fun S82 => w_X5_readFieldTest_227 post G mc ms S82 0 0 r60 (cs_i S60 606 o) 0 none) G S60 o 2) ∧ ((cs_i S60 606 o).toInt = 18 → wp_X5_fail (fun S83 => w_X5_readFieldTest_227 post G mc ms S83 0 0 r60 (cs_i S60 606 o) 0 none) G S60 o 2) ∧ ((cs_i S60 606 o).toInt = 19 → wp_X5_fail (fun S84 => w_X5_readFieldTest_227 post G mc ms S84 0 0 r60 (cs_i S60 606 o) 0 none) G S60 o 2) ∧ ((cs_i S60 606 o).toInt = 20 → wp_X5_fail (fun S85 => w_X5_readFieldTest_227 post G mc ms S85 0 0 r60 (cs_i S60 606 o) 0 none) G S60 o 2) ∧ ((cs_i S60 606 o).toInt = 21 → wp_X5_fail (fun S86 => w_X5_readFieldTest_227 post G mc ms S86 0 0 r60 (cs_i S60 606 o) 0 none) G S60 o 2) ∧ ((cs_i S60 606 o).toInt = 22 → wp_X5_fail (fun S87 => w_X5_readFieldTest_227 post G mc ms S87 0 0 r60 (cs_i S60 606 o) 0 none) G S60 o 2) ∧ ((cs_i S60 606 o).toInt = 23 → wp_X5_fail (fun S88 => w_X5_readFieldTest_227 post G mc ms S88 0 0 r60 (cs_i S60 606 o) 0 none) G S60 o 2) ∧ ((cs_i S60 606 o).toInt = 24 → wp_X5_fail (fun S89 => w_X5_readFieldTest_227 post G mc ms S89 0 0 r60 (cs_i S60 606 o) 0 none) G S60 o 2) ∧ ((cs_i S60 606 o).toInt = 25 → wp_X5_fail (fun S90 => w_X5_readFieldTest_227 post G mc ms S90 0 0 r60 (cs_i S60 606 o) 0 none) G S60 o 2) ∧ ((cs_i S60 606 o).toInt = 26 → wp_X5_fail (fun S91 => w_X5_readFieldTest_227 post G mc ms S91 0 0 r60 (cs_i S60 606 o) 0 none) G S60 o 2) ∧ ((cs_i S60 606 o).toInt = 27 → wp_X5_fail (fun S92 => w_X5_readFieldTest_227 post G mc ms S92 0 0 r60 (cs_i S60 606 o) 0 none) G S60 o 2) ∧ ((cs_i S60 606 o).toInt = 28 → wp_X5_fail (fun S93 => w_X5_readFieldTest_227 post G mc ms S93 0 0 r60 (cs_i S60 606 o) 0 none) G S60 o 2) ∧ ((cs_i S60 606 o).toInt = 29 → wp_X5_fail (fun S94 => w_X5_readFieldTest_227 post G mc ms S94 0 0 r60 (cs_i S60 606 o) 0 none) G S60 o 2) ∧ ((cs_i S60 606 o).toInt = 30 → wp_X5_fail (fun S95 => w_X5_readFieldTest_227 post G mc ms S95 0 0 r60 (cs_i S60 606 o) 0 none) G S60 o 2) ∧ ((cs_i S60 606 o).toInt = 31 → wp_X5_fail (fun S96 => w_X5_readFieldTest_227 post G mc ms S96 0 0 r60 (cs_i S60 606 o) 0 none) G S60 o 2) ∧ ((cs_i S60 606 o).toInt = 32 → wp_X5_fail (fun S97 => w_X5_readFieldTest_227 post G mc ms S97 0 0 r60 (cs_i S60 606 o) 0 none) G S60 o 2) ∧ ((cs_i S60 606 o).toInt = 33 → wp_X5_fail (fun S98 => w_X5_readFieldTest_227 post G mc ms S98 0 0 r60 (cs_i S60 606 o) 0 none) G S60 o 2) ∧ ((cs_i S60 606 o).toInt = 34 → wp_X5_fail (fun S99 => w_X5_readFieldTest_227 post G mc ms S99 0 0 r60 (cs_i S60 606 o) 0 none) G S60 o 2) ∧ ((cs_i S60 606 o).toInt = 35 → wp_X5_fail (fun S100 => w_X5_readFieldTest_227 post G mc ms S100 0 0 r60 (cs_i S60 606 o) 0 none) G S60 o 2) ∧ ((cs_i S60 606 o).toInt = 36 → wp_X5_fail (fun S101 => w_X5_readFieldTest_227 post G mc ms S101 0 0 r60 (cs_i S60 606 o) 0 none) G S60 o 2) ∧ ((cs_i S60 606 o).toInt = 37 → wp_X5_fail (fun S102 => w_X5_readFieldTest_227 post G mc ms S102 0 0 r60 (cs_i S60 606 o) 0 none) G S60 o 2) ∧ ((cs_i S60 606 o).toInt = 38 → wp_X5_step (fun S103 => cs_k S103 o = 7 ∧ ∃ m104 n104, 0 + m104 ≤ mc ∧ 0 + n104 ≤ ms ∧ wp_X5_readValue (fun r104 S104 => w_X5_readFieldTest_227 post G mc ms S104 (0 + m104) (0 + n104) r60 (cs_i S60 606 o) 0 r104) G m104 n104 S103 o 4) G S60 o) ∧ ((cs_i S60 606 o).toInt = 39 → wp_X5_step (fun S106 => cs_k S106 o = 7 ∧ ∃ m107 n107, 0 + m107 ≤ mc ∧ 0 + n107 ≤ ms ∧ wp_X5_readValue (fun r107 S107 => cs_k S107 o = 7 ∧ wp_X5_skip (fun S109 => cs_k S109 o = 7 ∧ wp_X5_readNumber (fun r111 S111 => w_X5_readFieldTest_227 post G mc ms S111 (0 + m107) (0 + n107) r60 (cs_i S60 606 o) r111 r107) G S109 o 0 32) G S107 o 10) G m107 n107 S106 o 5) G S60 o)) G S o
set_option maxRecDepth 100000 in
set_option maxHeartbeats 4000000 in
theorem c_X5_readFieldTest {l : Launch} {P : hw_G} {G : Nat → Nat} {S : cs_S} {sz : Nat} {mc ms : Nat} {o : Nat} {post : Option Nat → cs_S → Prop} (h : wp_X5_readFieldTest post G mc ms S o) : Met l yX5_readFieldTest [Cond.code yX5_readFieldTest cX5_readFieldTest 6 (some (.object "WatchHouse$Cond"))] (rm_X5_readFieldTest mc ms) (cs_Pc P G S sz [.ref o]) (cs_Qr P (cs_A S sz) post) mc ms (cs_A S sz) := by
  refine cs_met (by decide) rfl (Nat.le_of_ble_eq_true rfl) ?_
  intro p e s m below meth c ls hC hin hO hT hl
  obtain ⟨hx, hb, hml, hown, hK, -, -⟩ := id hC
  replace hl : lv_has ls 6 [(0, .ref o)] := hl
  refine lv_aload_n (x := o) hx hb dX5_readFieldTest_0 rfl (lv_at hl 0 rfl) ?_
  obtain ⟨hk61_, h⟩ := h
  refine cs_calll0 (cs_runV hx hb hml hown hK hO hT 6 hk61_ (by decide) rfl (c_X5_readName h) rfl rfl klX5_95 ki_X5_readName ks_X5_readName kn_X5 kc_X5_readName 0 ⟨rfl, by decide, by decide, by decide +kernel⟩ ⟨Nat.le_of_ble_eq_true rfl, Nat.le_of_ble_eq_true rfl⟩ rfl hl.1 rfl (hw_cat8 (Nat.le_of_ble_eq_true rfl)) ⟨(Nat.zero_le _), (Nat.zero_le _)⟩ dX5_readFieldTest_1) hT (fun r60 S60 H locs h_ hT_ => ?_)
  replace h := h_
  replace hT := hT_
  refine lv_lstore_n (lv' := [(1, _), (0, _)]) hx hb dX5_readFieldTest_4 rfl hl (by decide) rfl (fun ls hl_ => ?_)
  replace hl := hl_
  refine lv_aload_n (x := o) hx hb dX5_readFieldTest_5 rfl (lv_at hl 1 rfl) ?_
  obtain ⟨hk62_, h⟩ := h
  refine cs_get hx hb hK hT hown 6 hk62_ (by decide) rfl 6 (by decide) kfX5_27 (v := .int (cs_i S60 606 o)) rfl dX5_readFieldTest_6 ?_
  refine lv_istore_n (lv' := [(3, _), (1, _), (0, _)]) hx hb dX5_readFieldTest_9 rfl hl (by decide) rfl (fun ls hl_ => ?_)
  replace hl := hl_
  refine lv_iconst (v := 0) hx hb dX5_readFieldTest_10 (by decide) ?_
  refine lv_istore (lv' := [(4, _), (3, _), (1, _), (0, _)]) hx hb dX5_readFieldTest_11 hl (by decide) rfl (fun ls hl_ => ?_)
  replace hl := hl_
  refine hw_null hx hb dX5_readFieldTest_13 ?_
  refine hw_astore (lv' := [(5, _), (4, _), (3, _), (1, _), (0, _)]) (x := none) hx hb dX5_readFieldTest_14 hl (by decide) rfl (fun ls hl_ => ?_)
  replace hl := hl_
  refine lv_iload_n hx hb dX5_readFieldTest_16 rfl (lv_at hl 2 rfl) ?_
  by_cases hz : (cs_i S60 606 o).toInt < 11 ∨ 39 < (cs_i S60 606 o).toInt
  · replace h := h.1 hz
    refine lv_tableOut (tgt := 222) hx hb dX5_readFieldTest_17 hz (by decide) ?_
    refine lv_aload_n (x := o) hx hb dX5_readFieldTest_222 rfl (lv_at hl 4 rfl) ?_
    refine lv_iconst (v := 2) hx hb dX5_readFieldTest_223 (by decide) ?_
    refine cs_callv0 (cs_runV hx hb hml hown hK hO hT 6 hk62_ (by decide) rfl (c_X5_fail h) rfl rfl klX5_46 ki_X5_fail ks_X5_fail kn_X5 kc_X5_fail 1 ⟨rfl, by decide, by decide, by decide +kernel⟩ ⟨Nat.le_of_ble_eq_true rfl, Nat.le_of_ble_eq_true rfl⟩ rfl hl.1 rfl (hw_cat8 (Nat.le_of_ble_eq_true rfl)) ⟨(Nat.zero_le _), (Nat.zero_le _)⟩ dX5_readFieldTest_224) hT (fun S63 H locs h_ hT_ => ?_)
    replace h := h_
    replace hT := hT_
    exact t_X5_readFieldTest_227 hC hin hO S63 0 0 r60 (cs_i S60 606 o) 0 none _ _ _ h hT (lv_sub hl [3, 2, 1, 0] rfl)
  have hz : (cs_i S60 606 o).toInt = 11 ∨ (cs_i S60 606 o).toInt = 12 ∨ (cs_i S60 606 o).toInt = 13 ∨ (cs_i S60 606 o).toInt = 14 ∨ (cs_i S60 606 o).toInt = 15 ∨ (cs_i S60 606 o).toInt = 16 ∨ (cs_i S60 606 o).toInt = 17 ∨ (cs_i S60 606 o).toInt = 18 ∨ (cs_i S60 606 o).toInt = 19 ∨ (cs_i S60 606 o).toInt = 20 ∨ (cs_i S60 606 o).toInt = 21 ∨ (cs_i S60 606 o).toInt = 22 ∨ (cs_i S60 606 o).toInt = 23 ∨ (cs_i S60 606 o).toInt = 24 ∨ (cs_i S60 606 o).toInt = 25 ∨ (cs_i S60 606 o).toInt = 26 ∨ (cs_i S60 606 o).toInt = 27 ∨ (cs_i S60 606 o).toInt = 28 ∨ (cs_i S60 606 o).toInt = 29 ∨ (cs_i S60 606 o).toInt = 30 ∨ (cs_i S60 606 o).toInt = 31 ∨ (cs_i S60 606 o).toInt = 32 ∨ (cs_i S60 606 o).toInt = 33 ∨ (cs_i S60 606 o).toInt = 34 ∨ (cs_i S60 606 o).toInt = 35 ∨ (cs_i S60 606 o).toInt = 36 ∨ (cs_i S60 606 o).toInt = 37 ∨ (cs_i S60 606 o).toInt = 38 ∨ (cs_i S60 606 o).toInt = 39 := by omega
  rcases hz with hz | hz | hz | hz | hz | hz | hz | hz | hz | hz | hz | hz | hz | hz | hz | hz | hz | hz | hz | hz | hz | hz | hz | hz | hz | hz | hz | hz | hz
  · replace h := h.2.1 hz
    refine hw_tab (tgt := 191) hx hb hz dX5_readFieldTest_17 (by decide) (by decide) (off := 174) rfl (by decide) ?_
    refine lv_aload_n (x := o) hx hb dX5_readFieldTest_191 rfl (lv_at hl 4 rfl) ?_
    refine cs_callv0 (cs_runV hx hb hml hown hK hO hT 6 hk62_ (by decide) rfl (c_X5_step h) rfl rfl klX5_43 ki_X5_step ks_X5_step kn_X5 kc_X5_step 0 ⟨rfl, by decide, by decide, by decide +kernel⟩ ⟨Nat.le_of_ble_eq_true rfl, Nat.le_of_ble_eq_true rfl⟩ rfl hl.1 rfl (hw_cat8 (Nat.le_of_ble_eq_true rfl)) ⟨(Nat.zero_le _), (Nat.zero_le _)⟩ dX5_readFieldTest_192) hT (fun S64 H locs h_ hT_ => ?_)
    replace h := h_
    replace hT := hT_
    refine lv_aload_n (x := o) hx hb dX5_readFieldTest_195 rfl (lv_at hl 4 rfl) ?_
    refine lv_aload_n (x := o) hx hb dX5_readFieldTest_196 rfl (lv_at hl 4 rfl) ?_
    obtain ⟨hk65_, h⟩ := h
    refine cs_get hx hb hK hT hown 6 hk65_ (by decide) rfl 6 (by decide) kfX5_27 (v := .int (cs_i S64 606 o)) rfl dX5_readFieldTest_197 ?_
    obtain ⟨m66, n66, hu66, hv66, h⟩ := h
    refine cs_callr (cs_runV hx hb hml hown hK hO hT 6 hk65_ (by decide) rfl (c_X5_readValue h) rfl rfl klX5_149 ki_X5_readValue ks_X5_readValue kn_X5 kc_X5_readValue 1 ⟨rfl, by decide, by decide, by decide +kernel⟩ ⟨Nat.le_of_ble_eq_true rfl, Nat.le_of_ble_eq_true rfl⟩ rfl hl.1 rfl (hw_cat8 (Nat.le_of_ble_eq_true rfl)) ⟨hu66, hv66⟩ dX5_readFieldTest_200) hT (fun r66 S66 H locs h_ hT_ => ?_)
    replace h := h_
    replace hT := hT_
    refine hw_astore (lv' := [(5, _), (4, _), (3, _), (1, _), (0, _)]) (x := r66) hx hb dX5_readFieldTest_203 hl (by decide) rfl (fun ls hl_ => ?_)
    replace hl := hl_
    refine lv_goto (tgt := 227) hx hb dX5_readFieldTest_205 (by decide) ?_
    exact t_X5_readFieldTest_227 hC hin hO S66 (0 + m66) (0 + n66) r60 (cs_i S60 606 o) 0 r66 _ _ _ h hT (lv_sub hl [3, 2, 1, 0] rfl)
  · replace h := h.2.2.1 hz
    refine hw_tab (tgt := 191) hx hb hz dX5_readFieldTest_17 (by decide) (by decide) (off := 174) rfl (by decide) ?_
    refine lv_aload_n (x := o) hx hb dX5_readFieldTest_191 rfl (lv_at hl 4 rfl) ?_
    refine cs_callv0 (cs_runV hx hb hml hown hK hO hT 6 hk62_ (by decide) rfl (c_X5_step h) rfl rfl klX5_43 ki_X5_step ks_X5_step kn_X5 kc_X5_step 0 ⟨rfl, by decide, by decide, by decide +kernel⟩ ⟨Nat.le_of_ble_eq_true rfl, Nat.le_of_ble_eq_true rfl⟩ rfl hl.1 rfl (hw_cat8 (Nat.le_of_ble_eq_true rfl)) ⟨(Nat.zero_le _), (Nat.zero_le _)⟩ dX5_readFieldTest_192) hT (fun S67 H locs h_ hT_ => ?_)
    replace h := h_
    replace hT := hT_
    refine lv_aload_n (x := o) hx hb dX5_readFieldTest_195 rfl (lv_at hl 4 rfl) ?_
    refine lv_aload_n (x := o) hx hb dX5_readFieldTest_196 rfl (lv_at hl 4 rfl) ?_
    obtain ⟨hk68_, h⟩ := h
    refine cs_get hx hb hK hT hown 6 hk68_ (by decide) rfl 6 (by decide) kfX5_27 (v := .int (cs_i S67 606 o)) rfl dX5_readFieldTest_197 ?_
    obtain ⟨m69, n69, hu69, hv69, h⟩ := h
    refine cs_callr (cs_runV hx hb hml hown hK hO hT 6 hk68_ (by decide) rfl (c_X5_readValue h) rfl rfl klX5_149 ki_X5_readValue ks_X5_readValue kn_X5 kc_X5_readValue 1 ⟨rfl, by decide, by decide, by decide +kernel⟩ ⟨Nat.le_of_ble_eq_true rfl, Nat.le_of_ble_eq_true rfl⟩ rfl hl.1 rfl (hw_cat8 (Nat.le_of_ble_eq_true rfl)) ⟨hu69, hv69⟩ dX5_readFieldTest_200) hT (fun r69 S69 H locs h_ hT_ => ?_)
    replace h := h_
    replace hT := hT_
    refine hw_astore (lv' := [(5, _), (4, _), (3, _), (1, _), (0, _)]) (x := r69) hx hb dX5_readFieldTest_203 hl (by decide) rfl (fun ls hl_ => ?_)
    replace hl := hl_
    refine lv_goto (tgt := 227) hx hb dX5_readFieldTest_205 (by decide) ?_
    exact t_X5_readFieldTest_227 hC hin hO S69 (0 + m69) (0 + n69) r60 (cs_i S60 606 o) 0 r69 _ _ _ h hT (lv_sub hl [3, 2, 1, 0] rfl)
  · replace h := h.2.2.2.1 hz
    refine hw_tab (tgt := 208) hx hb hz dX5_readFieldTest_17 (by decide) (by decide) (off := 191) rfl (by decide) ?_
    refine lv_aload_n (x := o) hx hb dX5_readFieldTest_208 rfl (lv_at hl 4 rfl) ?_
    refine cs_callv0 (cs_runV hx hb hml hown hK hO hT 6 hk62_ (by decide) rfl (c_X5_step h) rfl rfl klX5_43 ki_X5_step ks_X5_step kn_X5 kc_X5_step 0 ⟨rfl, by decide, by decide, by decide +kernel⟩ ⟨Nat.le_of_ble_eq_true rfl, Nat.le_of_ble_eq_true rfl⟩ rfl hl.1 rfl (hw_cat8 (Nat.le_of_ble_eq_true rfl)) ⟨(Nat.zero_le _), (Nat.zero_le _)⟩ dX5_readFieldTest_209) hT (fun S70 H locs h_ hT_ => ?_)
    replace h := h_
    replace hT := hT_
    refine lv_aload_n (x := o) hx hb dX5_readFieldTest_212 rfl (lv_at hl 4 rfl) ?_
    refine lv_iconst (v := 3) hx hb dX5_readFieldTest_213 (by decide) ?_
    obtain ⟨hk72_, h⟩ := h
    obtain ⟨m71, n71, hu71, hv71, h⟩ := h
    refine cs_callr (cs_runV hx hb hml hown hK hO hT 6 hk72_ (by decide) rfl (c_X5_readValue h) rfl rfl klX5_149 ki_X5_readValue ks_X5_readValue kn_X5 kc_X5_readValue 1 ⟨rfl, by decide, by decide, by decide +kernel⟩ ⟨Nat.le_of_ble_eq_true rfl, Nat.le_of_ble_eq_true rfl⟩ rfl hl.1 rfl (hw_cat8 (Nat.le_of_ble_eq_true rfl)) ⟨hu71, hv71⟩ dX5_readFieldTest_214) hT (fun r71 S71 H locs h_ hT_ => ?_)
    replace h := h_
    replace hT := hT_
    refine hw_astore (lv' := [(5, _), (4, _), (3, _), (1, _), (0, _)]) (x := r71) hx hb dX5_readFieldTest_217 hl (by decide) rfl (fun ls hl_ => ?_)
    replace hl := hl_
    refine lv_goto (tgt := 227) hx hb dX5_readFieldTest_219 (by decide) ?_
    exact t_X5_readFieldTest_227 hC hin hO S71 (0 + m71) (0 + n71) r60 (cs_i S60 606 o) 0 r71 _ _ _ h hT (lv_sub hl [3, 2, 1, 0] rfl)
  · replace h := h.2.2.2.2.1 hz
    refine hw_tab (tgt := 208) hx hb hz dX5_readFieldTest_17 (by decide) (by decide) (off := 191) rfl (by decide) ?_
    refine lv_aload_n (x := o) hx hb dX5_readFieldTest_208 rfl (lv_at hl 4 rfl) ?_
    refine cs_callv0 (cs_runV hx hb hml hown hK hO hT 6 hk62_ (by decide) rfl (c_X5_step h) rfl rfl klX5_43 ki_X5_step ks_X5_step kn_X5 kc_X5_step 0 ⟨rfl, by decide, by decide, by decide +kernel⟩ ⟨Nat.le_of_ble_eq_true rfl, Nat.le_of_ble_eq_true rfl⟩ rfl hl.1 rfl (hw_cat8 (Nat.le_of_ble_eq_true rfl)) ⟨(Nat.zero_le _), (Nat.zero_le _)⟩ dX5_readFieldTest_209) hT (fun S73 H locs h_ hT_ => ?_)
    replace h := h_
    replace hT := hT_
    refine lv_aload_n (x := o) hx hb dX5_readFieldTest_212 rfl (lv_at hl 4 rfl) ?_
    refine lv_iconst (v := 3) hx hb dX5_readFieldTest_213 (by decide) ?_
    obtain ⟨hk75_, h⟩ := h
    obtain ⟨m74, n74, hu74, hv74, h⟩ := h
    refine cs_callr (cs_runV hx hb hml hown hK hO hT 6 hk75_ (by decide) rfl (c_X5_readValue h) rfl rfl klX5_149 ki_X5_readValue ks_X5_readValue kn_X5 kc_X5_readValue 1 ⟨rfl, by decide, by decide, by decide +kernel⟩ ⟨Nat.le_of_ble_eq_true rfl, Nat.le_of_ble_eq_true rfl⟩ rfl hl.1 rfl (hw_cat8 (Nat.le_of_ble_eq_true rfl)) ⟨hu74, hv74⟩ dX5_readFieldTest_214) hT (fun r74 S74 H locs h_ hT_ => ?_)
    replace h := h_
    replace hT := hT_
    refine hw_astore (lv' := [(5, _), (4, _), (3, _), (1, _), (0, _)]) (x := r74) hx hb dX5_readFieldTest_217 hl (by decide) rfl (fun ls hl_ => ?_)
    replace hl := hl_
    refine lv_goto (tgt := 227) hx hb dX5_readFieldTest_219 (by decide) ?_
    exact t_X5_readFieldTest_227 hC hin hO S74 (0 + m74) (0 + n74) r60 (cs_i S60 606 o) 0 r74 _ _ _ h hT (lv_sub hl [3, 2, 1, 0] rfl)
  · replace h := h.2.2.2.2.2.1 hz
    refine hw_tab (tgt := 208) hx hb hz dX5_readFieldTest_17 (by decide) (by decide) (off := 191) rfl (by decide) ?_
    refine lv_aload_n (x := o) hx hb dX5_readFieldTest_208 rfl (lv_at hl 4 rfl) ?_
    refine cs_callv0 (cs_runV hx hb hml hown hK hO hT 6 hk62_ (by decide) rfl (c_X5_step h) rfl rfl klX5_43 ki_X5_step ks_X5_step kn_X5 kc_X5_step 0 ⟨rfl, by decide, by decide, by decide +kernel⟩ ⟨Nat.le_of_ble_eq_true rfl, Nat.le_of_ble_eq_true rfl⟩ rfl hl.1 rfl (hw_cat8 (Nat.le_of_ble_eq_true rfl)) ⟨(Nat.zero_le _), (Nat.zero_le _)⟩ dX5_readFieldTest_209) hT (fun S76 H locs h_ hT_ => ?_)
    replace h := h_
    replace hT := hT_
    refine lv_aload_n (x := o) hx hb dX5_readFieldTest_212 rfl (lv_at hl 4 rfl) ?_
    refine lv_iconst (v := 3) hx hb dX5_readFieldTest_213 (by decide) ?_
    obtain ⟨hk78_, h⟩ := h
    obtain ⟨m77, n77, hu77, hv77, h⟩ := h
    refine cs_callr (cs_runV hx hb hml hown hK hO hT 6 hk78_ (by decide) rfl (c_X5_readValue h) rfl rfl klX5_149 ki_X5_readValue ks_X5_readValue kn_X5 kc_X5_readValue 1 ⟨rfl, by decide, by decide, by decide +kernel⟩ ⟨Nat.le_of_ble_eq_true rfl, Nat.le_of_ble_eq_true rfl⟩ rfl hl.1 rfl (hw_cat8 (Nat.le_of_ble_eq_true rfl)) ⟨hu77, hv77⟩ dX5_readFieldTest_214) hT (fun r77 S77 H locs h_ hT_ => ?_)
    replace h := h_
    replace hT := hT_
    refine hw_astore (lv' := [(5, _), (4, _), (3, _), (1, _), (0, _)]) (x := r77) hx hb dX5_readFieldTest_217 hl (by decide) rfl (fun ls hl_ => ?_)
    replace hl := hl_
    refine lv_goto (tgt := 227) hx hb dX5_readFieldTest_219 (by decide) ?_
    exact t_X5_readFieldTest_227 hC hin hO S77 (0 + m77) (0 + n77) r60 (cs_i S60 606 o) 0 r77 _ _ _ h hT (lv_sub hl [3, 2, 1, 0] rfl)
  · replace h := h.2.2.2.2.2.2.1 hz
    refine hw_tab (tgt := 208) hx hb hz dX5_readFieldTest_17 (by decide) (by decide) (off := 191) rfl (by decide) ?_
    refine lv_aload_n (x := o) hx hb dX5_readFieldTest_208 rfl (lv_at hl 4 rfl) ?_
    refine cs_callv0 (cs_runV hx hb hml hown hK hO hT 6 hk62_ (by decide) rfl (c_X5_step h) rfl rfl klX5_43 ki_X5_step ks_X5_step kn_X5 kc_X5_step 0 ⟨rfl, by decide, by decide, by decide +kernel⟩ ⟨Nat.le_of_ble_eq_true rfl, Nat.le_of_ble_eq_true rfl⟩ rfl hl.1 rfl (hw_cat8 (Nat.le_of_ble_eq_true rfl)) ⟨(Nat.zero_le _), (Nat.zero_le _)⟩ dX5_readFieldTest_209) hT (fun S79 H locs h_ hT_ => ?_)
    replace h := h_
    replace hT := hT_
    refine lv_aload_n (x := o) hx hb dX5_readFieldTest_212 rfl (lv_at hl 4 rfl) ?_
    refine lv_iconst (v := 3) hx hb dX5_readFieldTest_213 (by decide) ?_
    obtain ⟨hk81_, h⟩ := h
    obtain ⟨m80, n80, hu80, hv80, h⟩ := h
    refine cs_callr (cs_runV hx hb hml hown hK hO hT 6 hk81_ (by decide) rfl (c_X5_readValue h) rfl rfl klX5_149 ki_X5_readValue ks_X5_readValue kn_X5 kc_X5_readValue 1 ⟨rfl, by decide, by decide, by decide +kernel⟩ ⟨Nat.le_of_ble_eq_true rfl, Nat.le_of_ble_eq_true rfl⟩ rfl hl.1 rfl (hw_cat8 (Nat.le_of_ble_eq_true rfl)) ⟨hu80, hv80⟩ dX5_readFieldTest_214) hT (fun r80 S80 H locs h_ hT_ => ?_)
    replace h := h_
    replace hT := hT_
    refine hw_astore (lv' := [(5, _), (4, _), (3, _), (1, _), (0, _)]) (x := r80) hx hb dX5_readFieldTest_217 hl (by decide) rfl (fun ls hl_ => ?_)
    replace hl := hl_
    refine lv_goto (tgt := 227) hx hb dX5_readFieldTest_219 (by decide) ?_
    exact t_X5_readFieldTest_227 hC hin hO S80 (0 + m80) (0 + n80) r60 (cs_i S60 606 o) 0 r80 _ _ _ h hT (lv_sub hl [3, 2, 1, 0] rfl)
  · replace h := h.2.2.2.2.2.2.2.1 hz
    refine hw_tab (tgt := 222) hx hb hz dX5_readFieldTest_17 (by decide) (by decide) (off := 205) rfl (by decide) ?_
    refine lv_aload_n (x := o) hx hb dX5_readFieldTest_222 rfl (lv_at hl 4 rfl) ?_
    refine lv_iconst (v := 2) hx hb dX5_readFieldTest_223 (by decide) ?_
    refine cs_callv0 (cs_runV hx hb hml hown hK hO hT 6 hk62_ (by decide) rfl (c_X5_fail h) rfl rfl klX5_46 ki_X5_fail ks_X5_fail kn_X5 kc_X5_fail 1 ⟨rfl, by decide, by decide, by decide +kernel⟩ ⟨Nat.le_of_ble_eq_true rfl, Nat.le_of_ble_eq_true rfl⟩ rfl hl.1 rfl (hw_cat8 (Nat.le_of_ble_eq_true rfl)) ⟨(Nat.zero_le _), (Nat.zero_le _)⟩ dX5_readFieldTest_224) hT (fun S82 H locs h_ hT_ => ?_)
    replace h := h_
    replace hT := hT_
    exact t_X5_readFieldTest_227 hC hin hO S82 0 0 r60 (cs_i S60 606 o) 0 none _ _ _ h hT (lv_sub hl [3, 2, 1, 0] rfl)
  · replace h := h.2.2.2.2.2.2.2.2.1 hz
    refine hw_tab (tgt := 222) hx hb hz dX5_readFieldTest_17 (by decide) (by decide) (off := 205) rfl (by decide) ?_
    refine lv_aload_n (x := o) hx hb dX5_readFieldTest_222 rfl (lv_at hl 4 rfl) ?_
    refine lv_iconst (v := 2) hx hb dX5_readFieldTest_223 (by decide) ?_
    refine cs_callv0 (cs_runV hx hb hml hown hK hO hT 6 hk62_ (by decide) rfl (c_X5_fail h) rfl rfl klX5_46 ki_X5_fail ks_X5_fail kn_X5 kc_X5_fail 1 ⟨rfl, by decide, by decide, by decide +kernel⟩ ⟨Nat.le_of_ble_eq_true rfl, Nat.le_of_ble_eq_true rfl⟩ rfl hl.1 rfl (hw_cat8 (Nat.le_of_ble_eq_true rfl)) ⟨(Nat.zero_le _), (Nat.zero_le _)⟩ dX5_readFieldTest_224) hT (fun S83 H locs h_ hT_ => ?_)
    replace h := h_
    replace hT := hT_
    exact t_X5_readFieldTest_227 hC hin hO S83 0 0 r60 (cs_i S60 606 o) 0 none _ _ _ h hT (lv_sub hl [3, 2, 1, 0] rfl)
  · replace h := h.2.2.2.2.2.2.2.2.2.1 hz
    refine hw_tab (tgt := 222) hx hb hz dX5_readFieldTest_17 (by decide) (by decide) (off := 205) rfl (by decide) ?_
    refine lv_aload_n (x := o) hx hb dX5_readFieldTest_222 rfl (lv_at hl 4 rfl) ?_
    refine lv_iconst (v := 2) hx hb dX5_readFieldTest_223 (by decide) ?_
    refine cs_callv0 (cs_runV hx hb hml hown hK hO hT 6 hk62_ (by decide) rfl (c_X5_fail h) rfl rfl klX5_46 ki_X5_fail ks_X5_fail kn_X5 kc_X5_fail 1 ⟨rfl, by decide, by decide, by decide +kernel⟩ ⟨Nat.le_of_ble_eq_true rfl, Nat.le_of_ble_eq_true rfl⟩ rfl hl.1 rfl (hw_cat8 (Nat.le_of_ble_eq_true rfl)) ⟨(Nat.zero_le _), (Nat.zero_le _)⟩ dX5_readFieldTest_224) hT (fun S84 H locs h_ hT_ => ?_)
    replace h := h_
    replace hT := hT_
    exact t_X5_readFieldTest_227 hC hin hO S84 0 0 r60 (cs_i S60 606 o) 0 none _ _ _ h hT (lv_sub hl [3, 2, 1, 0] rfl)
  · replace h := h.2.2.2.2.2.2.2.2.2.2.1 hz
    refine hw_tab (tgt := 222) hx hb hz dX5_readFieldTest_17 (by decide) (by decide) (off := 205) rfl (by decide) ?_
    refine lv_aload_n (x := o) hx hb dX5_readFieldTest_222 rfl (lv_at hl 4 rfl) ?_
    refine lv_iconst (v := 2) hx hb dX5_readFieldTest_223 (by decide) ?_
    refine cs_callv0 (cs_runV hx hb hml hown hK hO hT 6 hk62_ (by decide) rfl (c_X5_fail h) rfl rfl klX5_46 ki_X5_fail ks_X5_fail kn_X5 kc_X5_fail 1 ⟨rfl, by decide, by decide, by decide +kernel⟩ ⟨Nat.le_of_ble_eq_true rfl, Nat.le_of_ble_eq_true rfl⟩ rfl hl.1 rfl (hw_cat8 (Nat.le_of_ble_eq_true rfl)) ⟨(Nat.zero_le _), (Nat.zero_le _)⟩ dX5_readFieldTest_224) hT (fun S85 H locs h_ hT_ => ?_)
    replace h := h_
    replace hT := hT_
    exact t_X5_readFieldTest_227 hC hin hO S85 0 0 r60 (cs_i S60 606 o) 0 none _ _ _ h hT (lv_sub hl [3, 2, 1, 0] rfl)
  · replace h := h.2.2.2.2.2.2.2.2.2.2.2.1 hz
    refine hw_tab (tgt := 222) hx hb hz dX5_readFieldTest_17 (by decide) (by decide) (off := 205) rfl (by decide) ?_
    refine lv_aload_n (x := o) hx hb dX5_readFieldTest_222 rfl (lv_at hl 4 rfl) ?_
    refine lv_iconst (v := 2) hx hb dX5_readFieldTest_223 (by decide) ?_
    refine cs_callv0 (cs_runV hx hb hml hown hK hO hT 6 hk62_ (by decide) rfl (c_X5_fail h) rfl rfl klX5_46 ki_X5_fail ks_X5_fail kn_X5 kc_X5_fail 1 ⟨rfl, by decide, by decide, by decide +kernel⟩ ⟨Nat.le_of_ble_eq_true rfl, Nat.le_of_ble_eq_true rfl⟩ rfl hl.1 rfl (hw_cat8 (Nat.le_of_ble_eq_true rfl)) ⟨(Nat.zero_le _), (Nat.zero_le _)⟩ dX5_readFieldTest_224) hT (fun S86 H locs h_ hT_ => ?_)
    replace h := h_
    replace hT := hT_
    exact t_X5_readFieldTest_227 hC hin hO S86 0 0 r60 (cs_i S60 606 o) 0 none _ _ _ h hT (lv_sub hl [3, 2, 1, 0] rfl)
  · replace h := h.2.2.2.2.2.2.2.2.2.2.2.2.1 hz
    refine hw_tab (tgt := 222) hx hb hz dX5_readFieldTest_17 (by decide) (by decide) (off := 205) rfl (by decide) ?_
    refine lv_aload_n (x := o) hx hb dX5_readFieldTest_222 rfl (lv_at hl 4 rfl) ?_
    refine lv_iconst (v := 2) hx hb dX5_readFieldTest_223 (by decide) ?_
    refine cs_callv0 (cs_runV hx hb hml hown hK hO hT 6 hk62_ (by decide) rfl (c_X5_fail h) rfl rfl klX5_46 ki_X5_fail ks_X5_fail kn_X5 kc_X5_fail 1 ⟨rfl, by decide, by decide, by decide +kernel⟩ ⟨Nat.le_of_ble_eq_true rfl, Nat.le_of_ble_eq_true rfl⟩ rfl hl.1 rfl (hw_cat8 (Nat.le_of_ble_eq_true rfl)) ⟨(Nat.zero_le _), (Nat.zero_le _)⟩ dX5_readFieldTest_224) hT (fun S87 H locs h_ hT_ => ?_)
    replace h := h_
    replace hT := hT_
    exact t_X5_readFieldTest_227 hC hin hO S87 0 0 r60 (cs_i S60 606 o) 0 none _ _ _ h hT (lv_sub hl [3, 2, 1, 0] rfl)
  · replace h := h.2.2.2.2.2.2.2.2.2.2.2.2.2.1 hz
    refine hw_tab (tgt := 222) hx hb hz dX5_readFieldTest_17 (by decide) (by decide) (off := 205) rfl (by decide) ?_
    refine lv_aload_n (x := o) hx hb dX5_readFieldTest_222 rfl (lv_at hl 4 rfl) ?_
    refine lv_iconst (v := 2) hx hb dX5_readFieldTest_223 (by decide) ?_
    refine cs_callv0 (cs_runV hx hb hml hown hK hO hT 6 hk62_ (by decide) rfl (c_X5_fail h) rfl rfl klX5_46 ki_X5_fail ks_X5_fail kn_X5 kc_X5_fail 1 ⟨rfl, by decide, by decide, by decide +kernel⟩ ⟨Nat.le_of_ble_eq_true rfl, Nat.le_of_ble_eq_true rfl⟩ rfl hl.1 rfl (hw_cat8 (Nat.le_of_ble_eq_true rfl)) ⟨(Nat.zero_le _), (Nat.zero_le _)⟩ dX5_readFieldTest_224) hT (fun S88 H locs h_ hT_ => ?_)
    replace h := h_
    replace hT := hT_
    exact t_X5_readFieldTest_227 hC hin hO S88 0 0 r60 (cs_i S60 606 o) 0 none _ _ _ h hT (lv_sub hl [3, 2, 1, 0] rfl)
  · replace h := h.2.2.2.2.2.2.2.2.2.2.2.2.2.2.1 hz
    refine hw_tab (tgt := 222) hx hb hz dX5_readFieldTest_17 (by decide) (by decide) (off := 205) rfl (by decide) ?_
    refine lv_aload_n (x := o) hx hb dX5_readFieldTest_222 rfl (lv_at hl 4 rfl) ?_
    refine lv_iconst (v := 2) hx hb dX5_readFieldTest_223 (by decide) ?_
    refine cs_callv0 (cs_runV hx hb hml hown hK hO hT 6 hk62_ (by decide) rfl (c_X5_fail h) rfl rfl klX5_46 ki_X5_fail ks_X5_fail kn_X5 kc_X5_fail 1 ⟨rfl, by decide, by decide, by decide +kernel⟩ ⟨Nat.le_of_ble_eq_true rfl, Nat.le_of_ble_eq_true rfl⟩ rfl hl.1 rfl (hw_cat8 (Nat.le_of_ble_eq_true rfl)) ⟨(Nat.zero_le _), (Nat.zero_le _)⟩ dX5_readFieldTest_224) hT (fun S89 H locs h_ hT_ => ?_)
    replace h := h_
    replace hT := hT_
    exact t_X5_readFieldTest_227 hC hin hO S89 0 0 r60 (cs_i S60 606 o) 0 none _ _ _ h hT (lv_sub hl [3, 2, 1, 0] rfl)
  · replace h := h.2.2.2.2.2.2.2.2.2.2.2.2.2.2.2.1 hz
    refine hw_tab (tgt := 222) hx hb hz dX5_readFieldTest_17 (by decide) (by decide) (off := 205) rfl (by decide) ?_
    refine lv_aload_n (x := o) hx hb dX5_readFieldTest_222 rfl (lv_at hl 4 rfl) ?_
    refine lv_iconst (v := 2) hx hb dX5_readFieldTest_223 (by decide) ?_
    refine cs_callv0 (cs_runV hx hb hml hown hK hO hT 6 hk62_ (by decide) rfl (c_X5_fail h) rfl rfl klX5_46 ki_X5_fail ks_X5_fail kn_X5 kc_X5_fail 1 ⟨rfl, by decide, by decide, by decide +kernel⟩ ⟨Nat.le_of_ble_eq_true rfl, Nat.le_of_ble_eq_true rfl⟩ rfl hl.1 rfl (hw_cat8 (Nat.le_of_ble_eq_true rfl)) ⟨(Nat.zero_le _), (Nat.zero_le _)⟩ dX5_readFieldTest_224) hT (fun S90 H locs h_ hT_ => ?_)
    replace h := h_
    replace hT := hT_
    exact t_X5_readFieldTest_227 hC hin hO S90 0 0 r60 (cs_i S60 606 o) 0 none _ _ _ h hT (lv_sub hl [3, 2, 1, 0] rfl)
  · replace h := h.2.2.2.2.2.2.2.2.2.2.2.2.2.2.2.2.1 hz
    refine hw_tab (tgt := 222) hx hb hz dX5_readFieldTest_17 (by decide) (by decide) (off := 205) rfl (by decide) ?_
    refine lv_aload_n (x := o) hx hb dX5_readFieldTest_222 rfl (lv_at hl 4 rfl) ?_
    refine lv_iconst (v := 2) hx hb dX5_readFieldTest_223 (by decide) ?_
    refine cs_callv0 (cs_runV hx hb hml hown hK hO hT 6 hk62_ (by decide) rfl (c_X5_fail h) rfl rfl klX5_46 ki_X5_fail ks_X5_fail kn_X5 kc_X5_fail 1 ⟨rfl, by decide, by decide, by decide +kernel⟩ ⟨Nat.le_of_ble_eq_true rfl, Nat.le_of_ble_eq_true rfl⟩ rfl hl.1 rfl (hw_cat8 (Nat.le_of_ble_eq_true rfl)) ⟨(Nat.zero_le _), (Nat.zero_le _)⟩ dX5_readFieldTest_224) hT (fun S91 H locs h_ hT_ => ?_)
    replace h := h_
    replace hT := hT_
    exact t_X5_readFieldTest_227 hC hin hO S91 0 0 r60 (cs_i S60 606 o) 0 none _ _ _ h hT (lv_sub hl [3, 2, 1, 0] rfl)
  · replace h := h.2.2.2.2.2.2.2.2.2.2.2.2.2.2.2.2.2.1 hz
    refine hw_tab (tgt := 222) hx hb hz dX5_readFieldTest_17 (by decide) (by decide) (off := 205) rfl (by decide) ?_
    refine lv_aload_n (x := o) hx hb dX5_readFieldTest_222 rfl (lv_at hl 4 rfl) ?_
    refine lv_iconst (v := 2) hx hb dX5_readFieldTest_223 (by decide) ?_
    refine cs_callv0 (cs_runV hx hb hml hown hK hO hT 6 hk62_ (by decide) rfl (c_X5_fail h) rfl rfl klX5_46 ki_X5_fail ks_X5_fail kn_X5 kc_X5_fail 1 ⟨rfl, by decide, by decide, by decide +kernel⟩ ⟨Nat.le_of_ble_eq_true rfl, Nat.le_of_ble_eq_true rfl⟩ rfl hl.1 rfl (hw_cat8 (Nat.le_of_ble_eq_true rfl)) ⟨(Nat.zero_le _), (Nat.zero_le _)⟩ dX5_readFieldTest_224) hT (fun S92 H locs h_ hT_ => ?_)
    replace h := h_
    replace hT := hT_
    exact t_X5_readFieldTest_227 hC hin hO S92 0 0 r60 (cs_i S60 606 o) 0 none _ _ _ h hT (lv_sub hl [3, 2, 1, 0] rfl)
  · replace h := h.2.2.2.2.2.2.2.2.2.2.2.2.2.2.2.2.2.2.1 hz
    refine hw_tab (tgt := 222) hx hb hz dX5_readFieldTest_17 (by decide) (by decide) (off := 205) rfl (by decide) ?_
    refine lv_aload_n (x := o) hx hb dX5_readFieldTest_222 rfl (lv_at hl 4 rfl) ?_
    refine lv_iconst (v := 2) hx hb dX5_readFieldTest_223 (by decide) ?_
    refine cs_callv0 (cs_runV hx hb hml hown hK hO hT 6 hk62_ (by decide) rfl (c_X5_fail h) rfl rfl klX5_46 ki_X5_fail ks_X5_fail kn_X5 kc_X5_fail 1 ⟨rfl, by decide, by decide, by decide +kernel⟩ ⟨Nat.le_of_ble_eq_true rfl, Nat.le_of_ble_eq_true rfl⟩ rfl hl.1 rfl (hw_cat8 (Nat.le_of_ble_eq_true rfl)) ⟨(Nat.zero_le _), (Nat.zero_le _)⟩ dX5_readFieldTest_224) hT (fun S93 H locs h_ hT_ => ?_)
    replace h := h_
    replace hT := hT_
    exact t_X5_readFieldTest_227 hC hin hO S93 0 0 r60 (cs_i S60 606 o) 0 none _ _ _ h hT (lv_sub hl [3, 2, 1, 0] rfl)
  · replace h := h.2.2.2.2.2.2.2.2.2.2.2.2.2.2.2.2.2.2.2.1 hz
    refine hw_tab (tgt := 222) hx hb hz dX5_readFieldTest_17 (by decide) (by decide) (off := 205) rfl (by decide) ?_
    refine lv_aload_n (x := o) hx hb dX5_readFieldTest_222 rfl (lv_at hl 4 rfl) ?_
    refine lv_iconst (v := 2) hx hb dX5_readFieldTest_223 (by decide) ?_
    refine cs_callv0 (cs_runV hx hb hml hown hK hO hT 6 hk62_ (by decide) rfl (c_X5_fail h) rfl rfl klX5_46 ki_X5_fail ks_X5_fail kn_X5 kc_X5_fail 1 ⟨rfl, by decide, by decide, by decide +kernel⟩ ⟨Nat.le_of_ble_eq_true rfl, Nat.le_of_ble_eq_true rfl⟩ rfl hl.1 rfl (hw_cat8 (Nat.le_of_ble_eq_true rfl)) ⟨(Nat.zero_le _), (Nat.zero_le _)⟩ dX5_readFieldTest_224) hT (fun S94 H locs h_ hT_ => ?_)
    replace h := h_
    replace hT := hT_
    exact t_X5_readFieldTest_227 hC hin hO S94 0 0 r60 (cs_i S60 606 o) 0 none _ _ _ h hT (lv_sub hl [3, 2, 1, 0] rfl)
  · replace h := h.2.2.2.2.2.2.2.2.2.2.2.2.2.2.2.2.2.2.2.2.1 hz
    refine hw_tab (tgt := 222) hx hb hz dX5_readFieldTest_17 (by decide) (by decide) (off := 205) rfl (by decide) ?_
    refine lv_aload_n (x := o) hx hb dX5_readFieldTest_222 rfl (lv_at hl 4 rfl) ?_
    refine lv_iconst (v := 2) hx hb dX5_readFieldTest_223 (by decide) ?_
    refine cs_callv0 (cs_runV hx hb hml hown hK hO hT 6 hk62_ (by decide) rfl (c_X5_fail h) rfl rfl klX5_46 ki_X5_fail ks_X5_fail kn_X5 kc_X5_fail 1 ⟨rfl, by decide, by decide, by decide +kernel⟩ ⟨Nat.le_of_ble_eq_true rfl, Nat.le_of_ble_eq_true rfl⟩ rfl hl.1 rfl (hw_cat8 (Nat.le_of_ble_eq_true rfl)) ⟨(Nat.zero_le _), (Nat.zero_le _)⟩ dX5_readFieldTest_224) hT (fun S95 H locs h_ hT_ => ?_)
    replace h := h_
    replace hT := hT_
    exact t_X5_readFieldTest_227 hC hin hO S95 0 0 r60 (cs_i S60 606 o) 0 none _ _ _ h hT (lv_sub hl [3, 2, 1, 0] rfl)
  · replace h := h.2.2.2.2.2.2.2.2.2.2.2.2.2.2.2.2.2.2.2.2.2.1 hz
    refine hw_tab (tgt := 222) hx hb hz dX5_readFieldTest_17 (by decide) (by decide) (off := 205) rfl (by decide) ?_
    refine lv_aload_n (x := o) hx hb dX5_readFieldTest_222 rfl (lv_at hl 4 rfl) ?_
    refine lv_iconst (v := 2) hx hb dX5_readFieldTest_223 (by decide) ?_
    refine cs_callv0 (cs_runV hx hb hml hown hK hO hT 6 hk62_ (by decide) rfl (c_X5_fail h) rfl rfl klX5_46 ki_X5_fail ks_X5_fail kn_X5 kc_X5_fail 1 ⟨rfl, by decide, by decide, by decide +kernel⟩ ⟨Nat.le_of_ble_eq_true rfl, Nat.le_of_ble_eq_true rfl⟩ rfl hl.1 rfl (hw_cat8 (Nat.le_of_ble_eq_true rfl)) ⟨(Nat.zero_le _), (Nat.zero_le _)⟩ dX5_readFieldTest_224) hT (fun S96 H locs h_ hT_ => ?_)
    replace h := h_
    replace hT := hT_
    exact t_X5_readFieldTest_227 hC hin hO S96 0 0 r60 (cs_i S60 606 o) 0 none _ _ _ h hT (lv_sub hl [3, 2, 1, 0] rfl)
  · replace h := h.2.2.2.2.2.2.2.2.2.2.2.2.2.2.2.2.2.2.2.2.2.2.1 hz
    refine hw_tab (tgt := 222) hx hb hz dX5_readFieldTest_17 (by decide) (by decide) (off := 205) rfl (by decide) ?_
    refine lv_aload_n (x := o) hx hb dX5_readFieldTest_222 rfl (lv_at hl 4 rfl) ?_
    refine lv_iconst (v := 2) hx hb dX5_readFieldTest_223 (by decide) ?_
    refine cs_callv0 (cs_runV hx hb hml hown hK hO hT 6 hk62_ (by decide) rfl (c_X5_fail h) rfl rfl klX5_46 ki_X5_fail ks_X5_fail kn_X5 kc_X5_fail 1 ⟨rfl, by decide, by decide, by decide +kernel⟩ ⟨Nat.le_of_ble_eq_true rfl, Nat.le_of_ble_eq_true rfl⟩ rfl hl.1 rfl (hw_cat8 (Nat.le_of_ble_eq_true rfl)) ⟨(Nat.zero_le _), (Nat.zero_le _)⟩ dX5_readFieldTest_224) hT (fun S97 H locs h_ hT_ => ?_)
    replace h := h_
    replace hT := hT_
    exact t_X5_readFieldTest_227 hC hin hO S97 0 0 r60 (cs_i S60 606 o) 0 none _ _ _ h hT (lv_sub hl [3, 2, 1, 0] rfl)
  · replace h := h.2.2.2.2.2.2.2.2.2.2.2.2.2.2.2.2.2.2.2.2.2.2.2.1 hz
    refine hw_tab (tgt := 222) hx hb hz dX5_readFieldTest_17 (by decide) (by decide) (off := 205) rfl (by decide) ?_
    refine lv_aload_n (x := o) hx hb dX5_readFieldTest_222 rfl (lv_at hl 4 rfl) ?_
    refine lv_iconst (v := 2) hx hb dX5_readFieldTest_223 (by decide) ?_
    refine cs_callv0 (cs_runV hx hb hml hown hK hO hT 6 hk62_ (by decide) rfl (c_X5_fail h) rfl rfl klX5_46 ki_X5_fail ks_X5_fail kn_X5 kc_X5_fail 1 ⟨rfl, by decide, by decide, by decide +kernel⟩ ⟨Nat.le_of_ble_eq_true rfl, Nat.le_of_ble_eq_true rfl⟩ rfl hl.1 rfl (hw_cat8 (Nat.le_of_ble_eq_true rfl)) ⟨(Nat.zero_le _), (Nat.zero_le _)⟩ dX5_readFieldTest_224) hT (fun S98 H locs h_ hT_ => ?_)
    replace h := h_
    replace hT := hT_
    exact t_X5_readFieldTest_227 hC hin hO S98 0 0 r60 (cs_i S60 606 o) 0 none _ _ _ h hT (lv_sub hl [3, 2, 1, 0] rfl)
  · replace h := h.2.2.2.2.2.2.2.2.2.2.2.2.2.2.2.2.2.2.2.2.2.2.2.2.1 hz
    refine hw_tab (tgt := 222) hx hb hz dX5_readFieldTest_17 (by decide) (by decide) (off := 205) rfl (by decide) ?_
    refine lv_aload_n (x := o) hx hb dX5_readFieldTest_222 rfl (lv_at hl 4 rfl) ?_
    refine lv_iconst (v := 2) hx hb dX5_readFieldTest_223 (by decide) ?_
    refine cs_callv0 (cs_runV hx hb hml hown hK hO hT 6 hk62_ (by decide) rfl (c_X5_fail h) rfl rfl klX5_46 ki_X5_fail ks_X5_fail kn_X5 kc_X5_fail 1 ⟨rfl, by decide, by decide, by decide +kernel⟩ ⟨Nat.le_of_ble_eq_true rfl, Nat.le_of_ble_eq_true rfl⟩ rfl hl.1 rfl (hw_cat8 (Nat.le_of_ble_eq_true rfl)) ⟨(Nat.zero_le _), (Nat.zero_le _)⟩ dX5_readFieldTest_224) hT (fun S99 H locs h_ hT_ => ?_)
    replace h := h_
    replace hT := hT_
    exact t_X5_readFieldTest_227 hC hin hO S99 0 0 r60 (cs_i S60 606 o) 0 none _ _ _ h hT (lv_sub hl [3, 2, 1, 0] rfl)
  · replace h := h.2.2.2.2.2.2.2.2.2.2.2.2.2.2.2.2.2.2.2.2.2.2.2.2.2.1 hz
    refine hw_tab (tgt := 222) hx hb hz dX5_readFieldTest_17 (by decide) (by decide) (off := 205) rfl (by decide) ?_
    refine lv_aload_n (x := o) hx hb dX5_readFieldTest_222 rfl (lv_at hl 4 rfl) ?_
    refine lv_iconst (v := 2) hx hb dX5_readFieldTest_223 (by decide) ?_
    refine cs_callv0 (cs_runV hx hb hml hown hK hO hT 6 hk62_ (by decide) rfl (c_X5_fail h) rfl rfl klX5_46 ki_X5_fail ks_X5_fail kn_X5 kc_X5_fail 1 ⟨rfl, by decide, by decide, by decide +kernel⟩ ⟨Nat.le_of_ble_eq_true rfl, Nat.le_of_ble_eq_true rfl⟩ rfl hl.1 rfl (hw_cat8 (Nat.le_of_ble_eq_true rfl)) ⟨(Nat.zero_le _), (Nat.zero_le _)⟩ dX5_readFieldTest_224) hT (fun S100 H locs h_ hT_ => ?_)
    replace h := h_
    replace hT := hT_
    exact t_X5_readFieldTest_227 hC hin hO S100 0 0 r60 (cs_i S60 606 o) 0 none _ _ _ h hT (lv_sub hl [3, 2, 1, 0] rfl)
  · replace h := h.2.2.2.2.2.2.2.2.2.2.2.2.2.2.2.2.2.2.2.2.2.2.2.2.2.2.1 hz
    refine hw_tab (tgt := 222) hx hb hz dX5_readFieldTest_17 (by decide) (by decide) (off := 205) rfl (by decide) ?_
    refine lv_aload_n (x := o) hx hb dX5_readFieldTest_222 rfl (lv_at hl 4 rfl) ?_
    refine lv_iconst (v := 2) hx hb dX5_readFieldTest_223 (by decide) ?_
    refine cs_callv0 (cs_runV hx hb hml hown hK hO hT 6 hk62_ (by decide) rfl (c_X5_fail h) rfl rfl klX5_46 ki_X5_fail ks_X5_fail kn_X5 kc_X5_fail 1 ⟨rfl, by decide, by decide, by decide +kernel⟩ ⟨Nat.le_of_ble_eq_true rfl, Nat.le_of_ble_eq_true rfl⟩ rfl hl.1 rfl (hw_cat8 (Nat.le_of_ble_eq_true rfl)) ⟨(Nat.zero_le _), (Nat.zero_le _)⟩ dX5_readFieldTest_224) hT (fun S101 H locs h_ hT_ => ?_)
    replace h := h_
    replace hT := hT_
    exact t_X5_readFieldTest_227 hC hin hO S101 0 0 r60 (cs_i S60 606 o) 0 none _ _ _ h hT (lv_sub hl [3, 2, 1, 0] rfl)
  · replace h := h.2.2.2.2.2.2.2.2.2.2.2.2.2.2.2.2.2.2.2.2.2.2.2.2.2.2.2.1 hz
    refine hw_tab (tgt := 222) hx hb hz dX5_readFieldTest_17 (by decide) (by decide) (off := 205) rfl (by decide) ?_
    refine lv_aload_n (x := o) hx hb dX5_readFieldTest_222 rfl (lv_at hl 4 rfl) ?_
    refine lv_iconst (v := 2) hx hb dX5_readFieldTest_223 (by decide) ?_
    refine cs_callv0 (cs_runV hx hb hml hown hK hO hT 6 hk62_ (by decide) rfl (c_X5_fail h) rfl rfl klX5_46 ki_X5_fail ks_X5_fail kn_X5 kc_X5_fail 1 ⟨rfl, by decide, by decide, by decide +kernel⟩ ⟨Nat.le_of_ble_eq_true rfl, Nat.le_of_ble_eq_true rfl⟩ rfl hl.1 rfl (hw_cat8 (Nat.le_of_ble_eq_true rfl)) ⟨(Nat.zero_le _), (Nat.zero_le _)⟩ dX5_readFieldTest_224) hT (fun S102 H locs h_ hT_ => ?_)
    replace h := h_
    replace hT := hT_
    exact t_X5_readFieldTest_227 hC hin hO S102 0 0 r60 (cs_i S60 606 o) 0 none _ _ _ h hT (lv_sub hl [3, 2, 1, 0] rfl)
  · replace h := h.2.2.2.2.2.2.2.2.2.2.2.2.2.2.2.2.2.2.2.2.2.2.2.2.2.2.2.2.1 hz
    refine hw_tab (tgt := 148) hx hb hz dX5_readFieldTest_17 (by decide) (by decide) (off := 131) rfl (by decide) ?_
    refine lv_aload_n (x := o) hx hb dX5_readFieldTest_148 rfl (lv_at hl 4 rfl) ?_
    refine cs_callv0 (cs_runV hx hb hml hown hK hO hT 6 hk62_ (by decide) rfl (c_X5_step h) rfl rfl klX5_43 ki_X5_step ks_X5_step kn_X5 kc_X5_step 0 ⟨rfl, by decide, by decide, by decide +kernel⟩ ⟨Nat.le_of_ble_eq_true rfl, Nat.le_of_ble_eq_true rfl⟩ rfl hl.1 rfl (hw_cat8 (Nat.le_of_ble_eq_true rfl)) ⟨(Nat.zero_le _), (Nat.zero_le _)⟩ dX5_readFieldTest_149) hT (fun S103 H locs h_ hT_ => ?_)
    replace h := h_
    replace hT := hT_
    refine lv_aload_n (x := o) hx hb dX5_readFieldTest_152 rfl (lv_at hl 4 rfl) ?_
    refine lv_iconst (v := 4) hx hb dX5_readFieldTest_153 (by decide) ?_
    obtain ⟨hk105_, h⟩ := h
    obtain ⟨m104, n104, hu104, hv104, h⟩ := h
    refine cs_callr (cs_runV hx hb hml hown hK hO hT 6 hk105_ (by decide) rfl (c_X5_readValue h) rfl rfl klX5_149 ki_X5_readValue ks_X5_readValue kn_X5 kc_X5_readValue 1 ⟨rfl, by decide, by decide, by decide +kernel⟩ ⟨Nat.le_of_ble_eq_true rfl, Nat.le_of_ble_eq_true rfl⟩ rfl hl.1 rfl (hw_cat8 (Nat.le_of_ble_eq_true rfl)) ⟨hu104, hv104⟩ dX5_readFieldTest_154) hT (fun r104 S104 H locs h_ hT_ => ?_)
    replace h := h_
    replace hT := hT_
    refine hw_astore (lv' := [(5, _), (4, _), (3, _), (1, _), (0, _)]) (x := r104) hx hb dX5_readFieldTest_157 hl (by decide) rfl (fun ls hl_ => ?_)
    replace hl := hl_
    refine lv_goto (tgt := 227) hx hb dX5_readFieldTest_159 (by decide) ?_
    exact t_X5_readFieldTest_227 hC hin hO S104 (0 + m104) (0 + n104) r60 (cs_i S60 606 o) 0 r104 _ _ _ h hT (lv_sub hl [3, 2, 1, 0] rfl)
  · replace h := h.2.2.2.2.2.2.2.2.2.2.2.2.2.2.2.2.2.2.2.2.2.2.2.2.2.2.2.2.2 hz
    refine hw_tab (tgt := 162) hx hb hz dX5_readFieldTest_17 (by decide) (by decide) (off := 145) rfl (by decide) ?_
    refine lv_aload_n (x := o) hx hb dX5_readFieldTest_162 rfl (lv_at hl 4 rfl) ?_
    refine cs_callv0 (cs_runV hx hb hml hown hK hO hT 6 hk62_ (by decide) rfl (c_X5_step h) rfl rfl klX5_43 ki_X5_step ks_X5_step kn_X5 kc_X5_step 0 ⟨rfl, by decide, by decide, by decide +kernel⟩ ⟨Nat.le_of_ble_eq_true rfl, Nat.le_of_ble_eq_true rfl⟩ rfl hl.1 rfl (hw_cat8 (Nat.le_of_ble_eq_true rfl)) ⟨(Nat.zero_le _), (Nat.zero_le _)⟩ dX5_readFieldTest_163) hT (fun S106 H locs h_ hT_ => ?_)
    replace h := h_
    replace hT := hT_
    refine lv_aload_n (x := o) hx hb dX5_readFieldTest_166 rfl (lv_at hl 4 rfl) ?_
    refine lv_iconst (v := 5) hx hb dX5_readFieldTest_167 (by decide) ?_
    obtain ⟨hk108_, h⟩ := h
    obtain ⟨m107, n107, hu107, hv107, h⟩ := h
    refine cs_callr (cs_runV hx hb hml hown hK hO hT 6 hk108_ (by decide) rfl (c_X5_readValue h) rfl rfl klX5_149 ki_X5_readValue ks_X5_readValue kn_X5 kc_X5_readValue 1 ⟨rfl, by decide, by decide, by decide +kernel⟩ ⟨Nat.le_of_ble_eq_true rfl, Nat.le_of_ble_eq_true rfl⟩ rfl hl.1 rfl (hw_cat8 (Nat.le_of_ble_eq_true rfl)) ⟨hu107, hv107⟩ dX5_readFieldTest_168) hT (fun r107 S107 H locs h_ hT_ => ?_)
    replace h := h_
    replace hT := hT_
    refine hw_astore (lv' := [(5, _), (4, _), (3, _), (1, _), (0, _)]) (x := r107) hx hb dX5_readFieldTest_171 hl (by decide) rfl (fun ls hl_ => ?_)
    replace hl := hl_
    refine lv_aload_n (x := o) hx hb dX5_readFieldTest_173 rfl (lv_at hl 4 rfl) ?_
    refine lv_bipush (v := 10) hx hb dX5_readFieldTest_174 (by decide) ?_
    obtain ⟨hk110_, h⟩ := h
    refine cs_callv0 (cs_runV hx hb hml hown hK hO hT 6 hk110_ (by decide) rfl (c_X5_skip h) rfl rfl klX5_70 ki_X5_skip ks_X5_skip kn_X5 kc_X5_skip 1 ⟨rfl, by decide, by decide, by decide +kernel⟩ ⟨Nat.le_of_ble_eq_true rfl, Nat.le_of_ble_eq_true rfl⟩ rfl hl.1 rfl (hw_cat8 (Nat.le_of_ble_eq_true rfl)) ⟨hu107, hv107⟩ dX5_readFieldTest_176) hT (fun S109 H locs h_ hT_ => ?_)
    replace h := h_
    replace hT := hT_
    refine lv_aload_n (x := o) hx hb dX5_readFieldTest_179 rfl (lv_at hl 4 rfl) ?_
    refine lv_iconst (v := 0) hx hb dX5_readFieldTest_180 (by decide) ?_
    refine lv_bipush (v := 32) hx hb dX5_readFieldTest_181 (by decide) ?_
    obtain ⟨hk112_, h⟩ := h
    refine cs_calli0 (cs_runV hx hb hml hown hK hO hT 6 hk112_ (by decide) rfl (c_X5_readNumber h) rfl rfl klX5_74 ki_X5_readNumber ks_X5_readNumber kn_X5 kc_X5_readNumber 2 ⟨rfl, by decide, by decide, by decide +kernel⟩ ⟨Nat.le_of_ble_eq_true rfl, Nat.le_of_ble_eq_true rfl⟩ rfl hl.1 rfl (hw_cat8 (Nat.le_of_ble_eq_true rfl)) ⟨hu107, hv107⟩ dX5_readFieldTest_183) hT (fun r111 S111 H locs h_ hT_ => ?_)
    replace h := h_
    replace hT := hT_
    refine lv_istore (lv' := [(4, _), (5, _), (3, _), (1, _), (0, _)]) hx hb dX5_readFieldTest_186 hl (by decide) rfl (fun ls hl_ => ?_)
    replace hl := hl_
    refine lv_goto (tgt := 227) hx hb dX5_readFieldTest_188 (by decide) ?_
    exact t_X5_readFieldTest_227 hC hin hO S111 (0 + m107) (0 + n107) r60 (cs_i S60 606 o) r111 r107 _ _ _ h hT (lv_sub hl [3, 2, 0, 1] rfl)
