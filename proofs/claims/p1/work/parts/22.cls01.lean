/-! X5_fail -/
abbrev rm_X5_fail : Room := { frames := 0, cells := 0, slots := 0, locals := 0 }
def w_X5_fail_44 (post : cs_S → Prop) (G : Nat → Nat) (S : cs_S)  : Prop := post S
section
variable {p : Program} {l : Launch} {e : Env} {s : State} {m : MethodId} {args : Array Value} {below : List Frame} {meth : Method} {c : Code} {P : hw_G} {G : Nat → Nat} {A : Nat → Prop}
set_option maxRecDepth 100000 in
set_option maxHeartbeats 4000000 in
theorem t_X5_fail_44 {post : cs_S → Prop} (hC : rf_C P RX5 p s m meth c cX5_fail 2 none) (hin : meth.name = yX5_fail.name) (hO : cs_O G A s s.heap) (S : cs_S)  (H : Heap) (locs : List Loc) (ls : Array Slot) (h : w_X5_fail_44 post G S ) (hT : cs_T P s A S H locs) (hl : lv_has ls 2 []) : W p l e rm_X5_fail s m args below meth c H locs 0 0 (MQ below (cs_Qv P A post) args s 0 0 A) (F0 m 44 ls []) := by
  obtain ⟨hx, hb, hml, hown, hK, -, -⟩ := id hC
  exact cs_vret hC hT h dX5_fail_44 (Nat.le_refl _) (Nat.le_refl _)
end
def w_X5_fail_20 (post : cs_S → Prop) (G : Nat → Nat) (S : cs_S) (x0 : Nat) (y0 : Option Nat) (y1 : Int32) : Prop := ∃ b13, y0 = some b13 ∧ cs_k S b13 = 7 ∧ ∀ S15, S15 = cs_ui S 602 b13 y1 → cs_k S15 x0 = 7 ∧ ∀ r17, r17 = cs_r S15 604 x0 → ∃ b18, r17 = some b18 ∧ cs_k S15 b18 = 10 ∧ ∀ r20, r20 = cs_r S15 901 b18 → ∃ b21, r20 = some b21 ∧ cs_k S15 b21 = 20 ∧ vp_in (cs_i S15 605 x0) (cs_n S15 b21) ∧ ∀ S23, S23 = cs_ui S15 603 x0 (cs_ai S15 b21 (cs_i S15 605 x0).toNatClampNeg) → cs_k S23 x0 = 7 ∧ ∀ S25, S25 = cs_ui S23 606 x0 0 → w_X5_fail_44 post G S25
section
variable {p : Program} {l : Launch} {e : Env} {s : State} {m : MethodId} {args : Array Value} {below : List Frame} {meth : Method} {c : Code} {P : hw_G} {G : Nat → Nat} {A : Nat → Prop}
set_option maxRecDepth 100000 in
set_option maxHeartbeats 4000000 in
theorem t_X5_fail_20 {post : cs_S → Prop} (hC : rf_C P RX5 p s m meth c cX5_fail 2 none) (hin : meth.name = yX5_fail.name) (hO : cs_O G A s s.heap) (S : cs_S) (x0 : Nat) (y0 : Option Nat) (y1 : Int32) (H : Heap) (locs : List Loc) (ls : Array Slot) (h : w_X5_fail_20 post G S x0 y0 y1) (hT : cs_T P s A S H locs) (hl : lv_has ls 2 [(0, .ref x0)]) : W p l e rm_X5_fail s m args below meth c H locs 0 0 (MQ below (cs_Qv P A post) args s 0 0 A) (F0 m 20 ls [.int y1, va_rf y0]) := by
  obtain ⟨hx, hb, hml, hown, hK, -, -⟩ := id hC
  obtain ⟨b13, rfl, h⟩ := h
  obtain ⟨hk14_, h⟩ := h
  refine cs_puti (x := y1) hx hb hK hT hown 6 hk14_ (by decide) rfl 2 (by decide) kfX5_31 rfl (tyX5_ok 2 (by decide)) rfl 602 rfl dX5_fail_20 (fun H locs hT_ => ?_)
  replace hT := hT_
  obtain ⟨S15, eS15⟩ : ∃ z, z = cs_ui S 602 b13 y1 := ⟨_, rfl⟩
  rw [← eS15] at hT
  replace h := h S15 eS15
  refine lv_aload_n (x := x0) hx hb dX5_fail_23 rfl (lv_at hl 0 rfl) ?_
  refine lv_aload_n (x := x0) hx hb dX5_fail_24 rfl (lv_at hl 0 rfl) ?_
  obtain ⟨hk16_, h⟩ := h
  refine cs_get hx hb hK hT hown 6 hk16_ (by decide) rfl 4 (by decide) kfX5_9 (v := va_rf (cs_r S15 604 x0)) rfl dX5_fail_25 ?_
  refine hw_topr (fun r17 er17 => ?_)
  replace h := h r17 er17
  obtain ⟨b18, rfl, h⟩ := h
  obtain ⟨hk19_, h⟩ := h
  refine cs_get hx hb hK hT hown 9 hk19_ (by decide) rfl 1 (by decide) kfX5_37 (v := va_rf (cs_r S15 901 b18)) rfl dX5_fail_28 ?_
  refine hw_topr (fun r20 er20 => ?_)
  replace h := h r20 er20
  refine lv_aload_n (x := x0) hx hb dX5_fail_31 rfl (lv_at hl 0 rfl) ?_
  refine cs_get hx hb hK hT hown 6 hk16_ (by decide) rfl 5 (by decide) kfX5_34 (v := .int (cs_i S15 605 x0)) rfl dX5_fail_32 ?_
  obtain ⟨b21, rfl, h⟩ := h
  obtain ⟨hk22_, h⟩ := h
  obtain ⟨hi, h⟩ := h
  refine cs_iald hx hb hK hT hk22_ hi dX5_fail_35 ?_
  refine cs_puti (x := (cs_ai S15 b21 (cs_i S15 605 x0).toNatClampNeg)) hx hb hK hT hown 6 hk16_ (by decide) rfl 3 (by decide) kfX5_40 rfl (tyX5_ok 3 (by decide)) rfl 603 rfl dX5_fail_36 (fun H locs hT_ => ?_)
  replace hT := hT_
  obtain ⟨S23, eS23⟩ : ∃ z, z = cs_ui S15 603 x0 (cs_ai S15 b21 (cs_i S15 605 x0).toNatClampNeg) := ⟨_, rfl⟩
  rw [← eS23] at hT
  replace h := h S23 eS23
  refine lv_aload_n (x := x0) hx hb dX5_fail_39 rfl (lv_at hl 0 rfl) ?_
  refine lv_iconst (v := 0) hx hb dX5_fail_40 (by decide) ?_
  obtain ⟨hk24_, h⟩ := h
  refine cs_puti (x := 0) hx hb hK hT hown 6 hk24_ (by decide) rfl 6 (by decide) kfX5_27 rfl (tyX5_ok 6 (by decide)) rfl 606 rfl dX5_fail_41 (fun H locs hT_ => ?_)
  replace hT := hT_
  obtain ⟨S25, eS25⟩ : ∃ z, z = cs_ui S23 606 x0 0 := ⟨_, rfl⟩
  rw [← eS25] at hT
  replace h := h S25 eS25
  exact t_X5_fail_44 hC hin hO S25 _ _ _ h hT (lv_sub hl [] rfl)
end
def wp_X5_fail (post : cs_S → Prop) (G : Nat → Nat) (S : cs_S) (o : Nat) (p1 : Int32) : Prop := cs_k S o = 7 ∧ (¬ (cs_i S 602 o) = 0 → w_X5_fail_44 post G S) ∧ ((cs_i S 602 o) = 0 → (¬ (cs_i S 606 o) = 0 → w_X5_fail_20 post G S o (some o) p1) ∧ ((cs_i S 606 o) = 0 → w_X5_fail_20 post G S o (some o) 1))
set_option maxRecDepth 100000 in
set_option maxHeartbeats 4000000 in
theorem c_X5_fail {l : Launch} {P : hw_G} {G : Nat → Nat} {S : cs_S} {sz : Nat} {o : Nat} {p1 : Int32} {post : cs_S → Prop} (h : wp_X5_fail post G S o p1) : Met l yX5_fail [Cond.code yX5_fail cX5_fail 2 none] rm_X5_fail (cs_Pc P G S sz [.ref o, .int p1]) (cs_Qv P (cs_A S sz) post) 0 0 (cs_A S sz) := by
  refine cs_met (by decide) rfl (Nat.le_of_ble_eq_true rfl) ?_
  intro p e s m below meth c ls hC hin hO hT hl
  obtain ⟨hx, hb, hml, hown, hK, -, -⟩ := id hC
  replace hl : lv_has ls 2 [(0, .ref o), (1, .int p1)] := hl
  refine lv_aload_n (x := o) hx hb dX5_fail_0 rfl (lv_at hl 0 rfl) ?_
  obtain ⟨hk26_, h⟩ := h
  refine cs_get hx hb hK hT hown 6 hk26_ (by decide) rfl 2 (by decide) kfX5_31 (v := .int (cs_i S 602 o)) rfl dX5_fail_1 ?_
  refine lv_if_ne (tgt := 44) hx hb dX5_fail_4 (by decide) (fun hc => ?_) (fun hc => ?_)
  · replace h := h.1 hc
    exact t_X5_fail_44 hC hin hO S _ _ _ h hT (lv_sub hl [] rfl)
  · replace h := h.2 hc
    refine lv_aload_n (x := o) hx hb dX5_fail_7 rfl (lv_at hl 0 rfl) ?_
    refine lv_aload_n (x := o) hx hb dX5_fail_8 rfl (lv_at hl 0 rfl) ?_
    refine cs_get hx hb hK hT hown 6 hk26_ (by decide) rfl 6 (by decide) kfX5_27 (v := .int (cs_i S 606 o)) rfl dX5_fail_9 ?_
    refine lv_if_ne (tgt := 19) hx hb dX5_fail_12 (by decide) (fun hc => ?_) (fun hc => ?_)
    · replace h := h.1 hc
      refine lv_iload_n hx hb dX5_fail_19 rfl (lv_at hl 1 rfl) ?_
      exact t_X5_fail_20 hC hin hO S o (some o) p1 _ _ _ h hT (lv_sub hl [0] rfl)
    · replace h := h.2 hc
      refine lv_iconst (v := 1) hx hb dX5_fail_15 (by decide) ?_
      refine lv_goto (tgt := 20) hx hb dX5_fail_16 (by decide) ?_
      exact t_X5_fail_20 hC hin hO S o (some o) 1 _ _ _ h hT (lv_sub hl [0] rfl)
/-! X5_skip -/
abbrev rm_X5_skip : Room := { frames := 1, cells := 0, slots := 0, locals := 21 }
def w_X5_skip_20 (post : cs_S → Prop) (G : Nat → Nat) (S : cs_S)  : Prop := post S
section
variable {p : Program} {l : Launch} {e : Env} {s : State} {m : MethodId} {args : Array Value} {below : List Frame} {meth : Method} {c : Code} {P : hw_G} {G : Nat → Nat} {A : Nat → Prop}
set_option maxRecDepth 100000 in
set_option maxHeartbeats 4000000 in
theorem t_X5_skip_20 {post : cs_S → Prop} (hC : rf_C P RX5 p s m meth c cX5_skip 2 none) (hin : meth.name = yX5_skip.name) (hO : cs_O G A s s.heap) (S : cs_S)  (H : Heap) (locs : List Loc) (ls : Array Slot) (h : w_X5_skip_20 post G S ) (hT : cs_T P s A S H locs) (hl : lv_has ls 2 []) : W p l e rm_X5_skip s m args below meth c H locs 0 0 (MQ below (cs_Qv P A post) args s 0 0 A) (F0 m 20 ls []) := by
  obtain ⟨hx, hb, hml, hown, hK, -, -⟩ := id hC
  exact cs_vret hC hT h dX5_skip_20 (Nat.le_refl _) (Nat.le_refl _)
end
def wp_X5_skip (post : cs_S → Prop) (G : Nat → Nat) (S : cs_S) (o : Nat) (p1 : Int32) : Prop := cs_k S o = 7 ∧ (¬ (cs_i S 606 o) = p1 → wp_X5_fail (fun S5 => w_X5_skip_20 post G S5) G S o 2) ∧ ((cs_i S 606 o) = p1 → wp_X5_step (fun S6 => w_X5_skip_20 post G S6) G S o)
set_option maxRecDepth 100000 in
set_option maxHeartbeats 4000000 in
theorem c_X5_skip {l : Launch} {P : hw_G} {G : Nat → Nat} {S : cs_S} {sz : Nat} {o : Nat} {p1 : Int32} {post : cs_S → Prop} (h : wp_X5_skip post G S o p1) : Met l yX5_skip [Cond.code yX5_skip cX5_skip 2 none] rm_X5_skip (cs_Pc P G S sz [.ref o, .int p1]) (cs_Qv P (cs_A S sz) post) 0 0 (cs_A S sz) := by
  refine cs_met (by decide) rfl (Nat.le_of_ble_eq_true rfl) ?_
  intro p e s m below meth c ls hC hin hO hT hl
  obtain ⟨hx, hb, hml, hown, hK, -, -⟩ := id hC
  replace hl : lv_has ls 2 [(0, .ref o), (1, .int p1)] := hl
  refine lv_aload_n (x := o) hx hb dX5_skip_0 rfl (lv_at hl 0 rfl) ?_
  obtain ⟨hk4_, h⟩ := h
  refine cs_get hx hb hK hT hown 6 hk4_ (by decide) rfl 6 (by decide) kfX5_27 (v := .int (cs_i S 606 o)) rfl dX5_skip_1 ?_
  refine lv_iload_n hx hb dX5_skip_4 rfl (lv_at hl 1 rfl) ?_
  refine lv_icmp_ne (tgt := 15) hx hb dX5_skip_5 (by decide) (fun hc => ?_) (fun hc => ?_)
  · replace h := h.1 hc
    refine lv_aload_n (x := o) hx hb dX5_skip_15 rfl (lv_at hl 0 rfl) ?_
    refine lv_iconst (v := 2) hx hb dX5_skip_16 (by decide) ?_
    refine cs_callv0 (cs_runV hx hb hml hown hK hO hT 6 hk4_ (by decide) rfl (c_X5_fail h) rfl rfl klX5_46 ki_X5_fail ks_X5_fail kn_X5 kc_X5_fail 1 ⟨rfl, by decide, by decide, by decide +kernel⟩ ⟨by decide, by decide⟩ rfl hl.1 rfl (hw_cat8 (Nat.le_of_ble_eq_true rfl)) ⟨(Nat.le_refl _), (Nat.le_refl _)⟩ dX5_skip_17) hT (fun S5 H locs h_ hT_ => ?_)
    replace h := h_
    replace hT := hT_
    exact t_X5_skip_20 hC hin hO S5 _ _ _ h hT (lv_sub hl [] rfl)
  · replace h := h.2 hc
    refine lv_aload_n (x := o) hx hb dX5_skip_8 rfl (lv_at hl 0 rfl) ?_
    refine cs_callv0 (cs_runV hx hb hml hown hK hO hT 6 hk4_ (by decide) rfl (c_X5_step h) rfl rfl klX5_43 ki_X5_step ks_X5_step kn_X5 kc_X5_step 0 ⟨rfl, by decide, by decide, by decide +kernel⟩ ⟨by decide, by decide⟩ rfl hl.1 rfl (hw_cat8 (Nat.le_of_ble_eq_true rfl)) ⟨(Nat.le_refl _), (Nat.le_refl _)⟩ dX5_skip_9) hT (fun S6 H locs h_ hT_ => ?_)
    replace h := h_
    replace hT := hT_
    refine lv_goto (tgt := 20) hx hb dX5_skip_12 (by decide) ?_
    exact t_X5_skip_20 hC hin hO S6 _ _ _ h hT (lv_sub hl [] rfl)
/-! X7_init -/
abbrev rm_X7_init (mc ms : Nat) : Room := { frames := 1, cells := mc, slots := ms, locals := 24 }
def wp_X7_init (post : cs_S → Prop) (G : Nat → Nat) (mc ms : Nat) (S : cs_S) (o : Nat) (p1 : Int32) : Prop := cs_k S o = 9 ∧ ∀ S20, S20 = cs_ui S 800 o p1 → ¬ (5 : Int32) < 0 ∧ (5 : Int32).toNatClampNeg * 4 ≤ 536870912 ∧ 0 + 1 ≤ mc ∧ 0 + (5 : Int32).toNatClampNeg ≤ ms ∧ ∀ q21, cs_k S20 q21 = 0 → ∀ S22, S22 = cs_newA S20 q21 24 (5 : Int32).toNatClampNeg → cs_k S22 o = 9 ∧ ∀ S24, S24 = cs_ur S22 805 o (some q21) → ¬ (3 : Int32) < 0 ∧ (3 : Int32).toNatClampNeg * componentBytes (cs_aty 21) ≤ 536870912 ∧ 0 + 1 + 1 ≤ mc ∧ 0 + (5 : Int32).toNatClampNeg + (3 : Int32).toNatClampNeg ≤ ms ∧ ∀ q25, cs_k S24 q25 = 0 → ∀ S26, S26 = cs_newA S24 q25 21 (3 : Int32).toNatClampNeg → cs_k S26 o = 9 ∧ ∀ S28, S28 = cs_ur S26 808 o (some q25) → ¬ (4 : Int32) < 0 ∧ (4 : Int32).toNatClampNeg * 4 ≤ 536870912 ∧ 0 + 1 + 1 + 1 ≤ mc ∧ 0 + (5 : Int32).toNatClampNeg + (3 : Int32).toNatClampNeg + (4 : Int32).toNatClampNeg ≤ ms ∧ ∀ q29, cs_k S28 q29 = 0 → ∀ S30, S30 = cs_newA S28 q29 26 (4 : Int32).toNatClampNeg → cs_k S30 o = 9 ∧ ∀ S32, S32 = cs_ur S30 817 o (some q29) → ¬ (0 : Int32) < 0 ∧ (0 : Int32).toNatClampNeg * 4 ≤ 536870912 ∧ 0 + 1 + 1 + 1 + 1 ≤ mc ∧ 0 + (5 : Int32).toNatClampNeg + (3 : Int32).toNatClampNeg + (4 : Int32).toNatClampNeg + (0 : Int32).toNatClampNeg ≤ ms ∧ ∀ q33, cs_k S32 q33 = 0 → ∀ S34, S34 = cs_newA S32 q33 25 (0 : Int32).toNatClampNeg → cs_k S34 o = 9 ∧ ∀ S36, S36 = cs_ur S34 816 o (some q33) → post S36
set_option maxRecDepth 100000 in
set_option maxHeartbeats 4000000 in
theorem c_X7_init {l : Launch} {P : hw_G} {G : Nat → Nat} {S : cs_S} {sz : Nat} {mc ms : Nat} {o : Nat} {p1 : Int32} {post : cs_S → Prop} (h : wp_X7_init post G mc ms S o p1) : Met l yX7_init [Cond.code yX7_init cX7_init 2 none] (rm_X7_init mc ms) (cs_Pc P G S sz [.ref o, .int p1]) (cs_Qv P (cs_A S sz) post) mc ms (cs_A S sz) := by
  refine cs_met (by decide) rfl (Nat.le_of_ble_eq_true rfl) ?_
  intro p e s m below meth c ls hC hin hO hT hl
  obtain ⟨hx, hb, hml, hown, hK, -, -⟩ := id hC
  replace hl : lv_has ls 2 [(0, .ref o), (1, .int p1)] := hl
  refine lv_aload_n (x := o) hx hb dX7_init_0 rfl (lv_at hl 0 rfl) ?_
  refine cs_objInit hx hb hml hown hK hl.1 klX7_3 ki_obj kc_obj dX7_init_1 (Nat.le_of_ble_eq_true rfl) (hw_catN (Nat.le_of_ble_eq_true rfl) (Nat.le_of_ble_eq_true rfl)) ?_
  refine lv_aload_n (x := o) hx hb dX7_init_4 rfl (lv_at hl 0 rfl) ?_
  refine lv_iload_n hx hb dX7_init_5 rfl (lv_at hl 1 rfl) ?_
  obtain ⟨hk19_, h⟩ := h
  refine cs_putFi (x := p1) hx hb hK hT hown hin 8 hk19_ (by decide) rfl 0 (by decide) kfX7_9 rfl rfl (tyX7_ok 0 (by decide)) rfl 800 rfl dX7_init_6 (fun H locs hT_ => ?_)
  replace hT := hT_
  obtain ⟨S20, eS20⟩ : ∃ z, z = cs_ui S 800 o p1 := ⟨_, rfl⟩
  rw [← eS20] at hT
  replace h := h S20 eS20
  refine lv_aload_n (x := o) hx hb dX7_init_9 rfl (lv_at hl 0 rfl) ?_
  refine lv_iconst (v := 5) hx hb dX7_init_10 (by decide) ?_
  obtain ⟨hn1, hn2, hu21, hv21, h⟩ := h
  refine cs_anew hx hb hK hT hown 24 rfl kxX7_15 (by decide) (by decide) (by decide) hn1 hn2 hu21 hv21 dX7_init_11 (fun q21 H hq21 hT_ => ?_)
  replace h := h q21 hq21
  replace hT := hT_
  obtain ⟨S22, eS22⟩ : ∃ z, z = cs_newA S20 q21 24 (5 : Int32).toNatClampNeg := ⟨_, rfl⟩
  rw [← eS22] at hT
  replace h := h S22 eS22
  obtain ⟨hk23_, h⟩ := h
  refine cs_putFr (x := (some q21)) hx hb hK hT hown hin 8 hk23_ (by decide) rfl 5 (by decide) kfX7_17 rfl rfl (tyX7_ok 5 (by decide)) rfl 805 rfl dX7_init_14 (fun H locs hT_ => ?_)
  replace hT := hT_
  obtain ⟨S24, eS24⟩ : ∃ z, z = cs_ur S22 805 o (some q21) := ⟨_, rfl⟩
  rw [← eS24] at hT
  replace h := h S24 eS24
  refine lv_aload_n (x := o) hx hb dX7_init_17 rfl (lv_at hl 0 rfl) ?_
  refine lv_iconst (v := 3) hx hb dX7_init_18 (by decide) ?_
  obtain ⟨hn1, hn2, hu25, hv25, h⟩ := h
  refine cs_newa hx hb hK hT 21 rfl ka_long (by decide) (by decide) rfl hn1 hn2 hu25 hv25 dX7_init_19 (fun q25 H hq25 hT_ => ?_)
  replace h := h q25 hq25
  replace hT := hT_
  obtain ⟨S26, eS26⟩ : ∃ z, z = cs_newA S24 q25 21 (3 : Int32).toNatClampNeg := ⟨_, rfl⟩
  rw [← eS26] at hT
  replace h := h S26 eS26
  obtain ⟨hk27_, h⟩ := h
  refine cs_putFr (x := (some q25)) hx hb hK hT hown hin 8 hk27_ (by decide) rfl 8 (by decide) kfX7_21 rfl rfl (tyX7_ok 8 (by decide)) rfl 808 rfl dX7_init_21 (fun H locs hT_ => ?_)
  replace hT := hT_
  obtain ⟨S28, eS28⟩ : ∃ z, z = cs_ur S26 808 o (some q25) := ⟨_, rfl⟩
  rw [← eS28] at hT
  replace h := h S28 eS28
  refine lv_aload_n (x := o) hx hb dX7_init_24 rfl (lv_at hl 0 rfl) ?_
  refine lv_iconst (v := 4) hx hb dX7_init_25 (by decide) ?_
  obtain ⟨hn1, hn2, hu29, hv29, h⟩ := h
  refine cs_anew hx hb hK hT hown 26 rfl kxX7_25 (by decide) (by decide) (by decide) hn1 hn2 hu29 hv29 dX7_init_26 (fun q29 H hq29 hT_ => ?_)
  replace h := h q29 hq29
  replace hT := hT_
  obtain ⟨S30, eS30⟩ : ∃ z, z = cs_newA S28 q29 26 (4 : Int32).toNatClampNeg := ⟨_, rfl⟩
  rw [← eS30] at hT
  replace h := h S30 eS30
  obtain ⟨hk31_, h⟩ := h
  refine cs_putFr (x := (some q29)) hx hb hK hT hown hin 8 hk31_ (by decide) rfl 17 (by decide) kfX7_27 rfl rfl (tyX7_ok 17 (by decide)) rfl 817 rfl dX7_init_29 (fun H locs hT_ => ?_)
  replace hT := hT_
  obtain ⟨S32, eS32⟩ : ∃ z, z = cs_ur S30 817 o (some q29) := ⟨_, rfl⟩
  rw [← eS32] at hT
  replace h := h S32 eS32
  refine lv_aload_n (x := o) hx hb dX7_init_32 rfl (lv_at hl 0 rfl) ?_
  refine lv_iconst (v := 0) hx hb dX7_init_33 (by decide) ?_
  obtain ⟨hn1, hn2, hu33, hv33, h⟩ := h
  refine cs_anew hx hb hK hT hown 25 rfl kxX7_31 (by decide) (by decide) (by decide) hn1 hn2 hu33 hv33 dX7_init_34 (fun q33 H hq33 hT_ => ?_)
  replace h := h q33 hq33
  replace hT := hT_
  obtain ⟨S34, eS34⟩ : ∃ z, z = cs_newA S32 q33 25 (0 : Int32).toNatClampNeg := ⟨_, rfl⟩
  rw [← eS34] at hT
  replace h := h S34 eS34
  obtain ⟨hk35_, h⟩ := h
  refine cs_putr (x := (some q33)) hx hb hK hT hown 8 hk35_ (by decide) rfl 16 (by decide) kfX7_33 rfl (tyX7_ok 16 (by decide)) rfl 816 rfl dX7_init_37 (fun H locs hT_ => ?_)
  replace hT := hT_
  obtain ⟨S36, eS36⟩ : ∃ z, z = cs_ur S34 816 o (some q33) := ⟨_, rfl⟩
  rw [← eS36] at hT
  replace h := h S36 eS36
  exact cs_vret hC hT h dX7_init_40 hu33 hv33
/-! X5_ruleNamed -/
abbrev rm_X5_ruleNamed : Room := { frames := 0, cells := 0, slots := 0, locals := 0 }
def w_X5_ruleNamed_41 (post : Int32 → cs_S → Prop) (G : Nat → Nat) (S : cs_S)  : Prop := post ((-1)) S
section
variable {p : Program} {l : Launch} {e : Env} {s : State} {m : MethodId} {args : Array Value} {below : List Frame} {meth : Method} {c : Code} {P : hw_G} {G : Nat → Nat} {A : Nat → Prop}
set_option maxRecDepth 100000 in
set_option maxHeartbeats 4000000 in
theorem t_X5_ruleNamed_41 {post : Int32 → cs_S → Prop} (hC : rf_C P RX5 p s m meth c cX5_ruleNamed 4 (some .int)) (hin : meth.name = yX5_ruleNamed.name) (hO : cs_O G A s s.heap) (S : cs_S)  (H : Heap) (locs : List Loc) (ls : Array Slot) (h : w_X5_ruleNamed_41 post G S ) (hT : cs_T P s A S H locs) (hl : lv_has ls 4 []) : W p l e rm_X5_ruleNamed s m args below meth c H locs 0 0 (MQ below (cs_Qi P A post) args s 0 0 A) (F0 m 41 ls []) := by
  obtain ⟨hx, hb, hml, hown, hK, -, -⟩ := id hC
  refine lv_iconst (v := (-1)) hx hb dX5_ruleNamed_41 (by decide) ?_
  exact cs_iret hC hT h dX5_ruleNamed_42 (Nat.le_refl _) (Nat.le_refl _)
end
def w_X5_ruleNamed_2 (post : Int32 → cs_S → Prop) (G : Nat → Nat) : Nat → cs_S → Nat → Int64 → Int32 → Prop
  | 0, _, _, _, _ => False
  | n + 1, S, x0, x1, x3 => cs_k S x0 = 7 ∧ ((cs_i S 601 x0) ≤ x3 → w_X5_ruleNamed_41 post G S) ∧ (¬ (cs_i S 601 x0) ≤ x3 → ∀ r12, r12 = cs_r S 600 x0 → ∃ b13, r12 = some b13 ∧ cs_k S b13 = 22 ∧ ((Int32.ofNat (cs_n S b13)) ≤ x3 → w_X5_ruleNamed_41 post G S) ∧ (¬ (Int32.ofNat (cs_n S b13)) ≤ x3 → ∀ r15, r15 = cs_r S 600 x0 → ∃ b16, r15 = some b16 ∧ cs_k S b16 = 22 ∧ vp_in x3 (cs_n S b16) ∧ ∀ r18, r18 = cs_ar S b16 x3.toNatClampNeg → ∃ b19, r18 = some b19 ∧ cs_k S b19 = 9 ∧ (¬ (lg_cmp (cs_l S 801 b19) x1) = 0 → w_X5_ruleNamed_2 post G n S x0 x1 (x3 + 1)) ∧ ((lg_cmp (cs_l S 801 b19) x1) = 0 → post x3 S)))
section
variable {p : Program} {l : Launch} {e : Env} {s : State} {m : MethodId} {args : Array Value} {below : List Frame} {meth : Method} {c : Code} {P : hw_G} {G : Nat → Nat} {A : Nat → Prop}
set_option maxRecDepth 100000 in
set_option maxHeartbeats 4000000 in
theorem t_X5_ruleNamed_2 {post : Int32 → cs_S → Prop} (hC : rf_C P RX5 p s m meth c cX5_ruleNamed 4 (some .int)) (hin : meth.name = yX5_ruleNamed.name) (hO : cs_O G A s s.heap) : ∀ (n : Nat) (S : cs_S) (x0 : Nat) (x1 : Int64) (x3 : Int32) (H : Heap) (locs : List Loc) (ls : Array Slot), w_X5_ruleNamed_2 post G n S x0 x1 x3 → cs_T P s A S H locs → lv_has ls 4 [(0, .ref x0), (1, .long x1), (3, .int x3)] → W p l e rm_X5_ruleNamed s m args below meth c H locs 0 0 (MQ below (cs_Qi P A post) args s 0 0 A) (F0 m 2 ls []) := by
  obtain ⟨hx, hb, hml, hown, hK, -, -⟩ := id hC
  intro n
  induction n with
  | zero => intro S x0 x1 x3 H locs ls h; exact False.elim h
  | succ n ih =>
    intro S x0 x1 x3 H locs ls h hT hl
    refine lv_iload_n hx hb dX5_ruleNamed_2 rfl (lv_at hl 2 rfl) ?_
    refine lv_aload_n (x := x0) hx hb dX5_ruleNamed_3 rfl (lv_at hl 0 rfl) ?_
    obtain ⟨hk11_, h⟩ := h
    refine cs_get hx hb hK hT hown 6 hk11_ (by decide) rfl 1 (by decide) kfX5_50 (v := .int (cs_i S 601 x0)) rfl dX5_ruleNamed_4 ?_
    refine lv_icmp_ge (tgt := 41) hx hb dX5_ruleNamed_7 (by decide) (fun hc => ?_) (fun hc => ?_)
    · replace h := h.1 hc
      exact t_X5_ruleNamed_41 hC hin hO S _ _ _ h hT (lv_sub hl [] rfl)
    · replace h := h.2 hc
      refine lv_iload_n hx hb dX5_ruleNamed_10 rfl (lv_at hl 2 rfl) ?_
      refine lv_aload_n (x := x0) hx hb dX5_ruleNamed_11 rfl (lv_at hl 0 rfl) ?_
      refine cs_get hx hb hK hT hown 6 hk11_ (by decide) rfl 0 (by decide) kfX5_17 (v := va_rf (cs_r S 600 x0)) rfl dX5_ruleNamed_12 ?_
      refine hw_topr (fun r12 er12 => ?_)
      replace h := h r12 er12
      obtain ⟨b13, rfl, h⟩ := h
      obtain ⟨hk14_, h⟩ := h
      refine cs_alen hx hb hK hT 22 hk14_ (by decide) (by decide) dX5_ruleNamed_15 ?_
      refine lv_icmp_ge (tgt := 41) hx hb dX5_ruleNamed_16 (by decide) (fun hc => ?_) (fun hc => ?_)
      · replace h := h.1 hc
        exact t_X5_ruleNamed_41 hC hin hO S _ _ _ h hT (lv_sub hl [] rfl)
      · replace h := h.2 hc
        refine lv_aload_n (x := x0) hx hb dX5_ruleNamed_19 rfl (lv_at hl 0 rfl) ?_
        refine cs_get hx hb hK hT hown 6 hk11_ (by decide) rfl 0 (by decide) kfX5_17 (v := va_rf (cs_r S 600 x0)) rfl dX5_ruleNamed_20 ?_
        refine hw_topr (fun r15 er15 => ?_)
        replace h := h r15 er15
        refine lv_iload_n hx hb dX5_ruleNamed_23 rfl (lv_at hl 2 rfl) ?_
        obtain ⟨b16, rfl, h⟩ := h
        obtain ⟨hk17_, h⟩ := h
        obtain ⟨hi, h⟩ := h
        refine cs_aald hx hb hK hT 22 hk17_ (by decide) rfl (by decide) hi dX5_ruleNamed_24 ?_
        refine hw_topr (fun r18 er18 => ?_)
        replace h := h r18 er18
        obtain ⟨b19, rfl, h⟩ := h
        obtain ⟨hk20_, h⟩ := h
        refine cs_get hx hb hK hT hown 8 hk20_ (by decide) rfl 1 (by decide) kfX5_59 (v := .long (cs_l S 801 b19)) rfl dX5_ruleNamed_25 ?_
        refine lv_lload_n hx hb dX5_ruleNamed_28 rfl (lv_at hl 1 rfl) ?_
        refine W.lcmp hx hb dX5_ruleNamed_29 ?_
        refine lv_if_ne (tgt := 35) hx hb dX5_ruleNamed_30 (by decide) (fun hc => ?_) (fun hc => ?_)
        · replace h := h.1 hc
          refine lv_iinc (v := x3 + 1) (lv' := [(3, _), (0, _), (1, _)]) hx hb dX5_ruleNamed_35 hl (k := 2) rfl rfl (by decide) rfl (fun ls hl_ => ?_)
          replace hl := hl_
          refine lv_goto (tgt := 2) hx hb dX5_ruleNamed_38 (by decide) ?_
          exact ih S x0 x1 (x3 + 1) _ _ _ h hT (lv_sub hl [1, 2, 0] rfl)
        · replace h := h.2 hc
          refine lv_iload_n hx hb dX5_ruleNamed_33 rfl (lv_at hl 2 rfl) ?_
          exact cs_iret hC hT h dX5_ruleNamed_34 (Nat.le_refl _) (Nat.le_refl _)
end
def wp_X5_ruleNamed (post : Int32 → cs_S → Prop) (G : Nat → Nat) (S : cs_S) (o : Nat) (p1 : Int64) : Prop := ∃ n9, w_X5_ruleNamed_2 post G n9 S o p1 0
set_option maxRecDepth 100000 in
set_option maxHeartbeats 4000000 in
theorem c_X5_ruleNamed {l : Launch} {P : hw_G} {G : Nat → Nat} {S : cs_S} {sz : Nat} {o : Nat} {p1 : Int64} {post : Int32 → cs_S → Prop} (h : wp_X5_ruleNamed post G S o p1) : Met l yX5_ruleNamed [Cond.code yX5_ruleNamed cX5_ruleNamed 4 (some .int)] rm_X5_ruleNamed (cs_Pc P G S sz [.ref o, .long p1]) (cs_Qi P (cs_A S sz) post) 0 0 (cs_A S sz) := by
  refine cs_met (by decide) rfl (Nat.le_of_ble_eq_true rfl) ?_
  intro p e s m below meth c ls hC hin hO hT hl
  obtain ⟨hx, hb, hml, hown, hK, -, -⟩ := id hC
  replace hl : lv_has ls 4 [(0, .ref o), (1, .long p1)] := hl
  refine lv_iconst (v := 0) hx hb dX5_ruleNamed_0 (by decide) ?_
  refine lv_istore_n (lv' := [(3, _), (0, _), (1, _)]) hx hb dX5_ruleNamed_1 rfl hl (by decide) rfl (fun ls hl_ => ?_)
  replace hl := hl_
  obtain ⟨n9, h⟩ := h
  exact t_X5_ruleNamed_2 hC hin hO n9 S o p1 0 _ _ _ h hT (lv_sub hl [1, 2, 0] rfl)
/-! X5_readName -/
abbrev rm_X5_readName : Room := { frames := 1, cells := 0, slots := 0, locals := 21 }
def wp_X5_readName (post : Int64 → cs_S → Prop) (G : Nat → Nat) (S : cs_S) (o : Nat) : Prop := cs_k S o = 7 ∧ ((cs_i S 606 o) = 2 → ∀ r11, r11 = cs_r S 604 o → ∃ b12, r11 = some b12 ∧ cs_k S b12 = 10 ∧ ∀ r14, r14 = cs_r S 902 b12 → ∃ b15, r14 = some b15 ∧ cs_k S b15 = 21 ∧ vp_in (cs_i S 605 o) (cs_n S b15) ∧ wp_X5_step (fun S17 => post (cs_al S b15 (cs_i S 605 o).toNatClampNeg) S17) G S o) ∧ (¬ (cs_i S 606 o) = 2 → wp_X5_fail (fun S18 => post 0 S18) G S o 2)
set_option maxRecDepth 100000 in
set_option maxHeartbeats 4000000 in
theorem c_X5_readName {l : Launch} {P : hw_G} {G : Nat → Nat} {S : cs_S} {sz : Nat} {o : Nat} {post : Int64 → cs_S → Prop} (h : wp_X5_readName post G S o) : Met l yX5_readName [Cond.code yX5_readName cX5_readName 3 (some .long)] rm_X5_readName (cs_Pc P G S sz [.ref o]) (cs_Ql P (cs_A S sz) post) 0 0 (cs_A S sz) := by
  refine cs_met (by decide) rfl (Nat.le_of_ble_eq_true rfl) ?_
  intro p e s m below meth c ls hC hin hO hT hl
  obtain ⟨hx, hb, hml, hown, hK, -, -⟩ := id hC
  replace hl : lv_has ls 3 [(0, .ref o)] := hl
  refine lv_aload_n (x := o) hx hb dX5_readName_0 rfl (lv_at hl 0 rfl) ?_
  obtain ⟨hk10_, h⟩ := h
  refine cs_get hx hb hK hT hown 6 hk10_ (by decide) rfl 6 (by decide) kfX5_27 (v := .int (cs_i S 606 o)) rfl dX5_readName_1 ?_
  refine lv_iconst (v := 2) hx hb dX5_readName_4 (by decide) ?_
  refine lv_icmp_eq (tgt := 15) hx hb dX5_readName_5 (by decide) (fun hc => ?_) (fun hc => ?_)
  · replace h := h.1 hc
    refine lv_aload_n (x := o) hx hb dX5_readName_15 rfl (lv_at hl 0 rfl) ?_
    refine cs_get hx hb hK hT hown 6 hk10_ (by decide) rfl 4 (by decide) kfX5_9 (v := va_rf (cs_r S 604 o)) rfl dX5_readName_16 ?_
    refine hw_topr (fun r11 er11 => ?_)
    replace h := h r11 er11
    obtain ⟨b12, rfl, h⟩ := h
    obtain ⟨hk13_, h⟩ := h
    refine cs_get hx hb hK hT hown 9 hk13_ (by decide) rfl 2 (by decide) kfX5_87 (v := va_rf (cs_r S 902 b12)) rfl dX5_readName_19 ?_
    refine hw_topr (fun r14 er14 => ?_)
    replace h := h r14 er14
    refine lv_aload_n (x := o) hx hb dX5_readName_22 rfl (lv_at hl 0 rfl) ?_
    refine cs_get hx hb hK hT hown 6 hk10_ (by decide) rfl 5 (by decide) kfX5_34 (v := .int (cs_i S 605 o)) rfl dX5_readName_23 ?_
    obtain ⟨b15, rfl, h⟩ := h
    obtain ⟨hk16_, h⟩ := h
    obtain ⟨hi, h⟩ := h
    refine cs_lald hx hb hK hT hk16_ hi dX5_readName_26 ?_
    refine lv_lstore_n (lv' := [(1, _), (0, _)]) hx hb dX5_readName_27 rfl hl (by decide) rfl (fun ls hl_ => ?_)
    replace hl := hl_
    refine lv_aload_n (x := o) hx hb dX5_readName_28 rfl (lv_at hl 1 rfl) ?_
    refine cs_callv0 (cs_runV hx hb hml hown hK hO hT 6 hk10_ (by decide) rfl (c_X5_step h) rfl rfl klX5_43 ki_X5_step ks_X5_step kn_X5 kc_X5_step 0 ⟨rfl, by decide, by decide, by decide +kernel⟩ ⟨by decide, by decide⟩ rfl hl.1 rfl (hw_cat8 (Nat.le_of_ble_eq_true rfl)) ⟨(Nat.le_refl _), (Nat.le_refl _)⟩ dX5_readName_29) hT (fun S17 H locs h_ hT_ => ?_)
    replace h := h_
    replace hT := hT_
    refine lv_lload_n hx hb dX5_readName_32 rfl (lv_at hl 0 rfl) ?_
    exact cs_lret hC hT h dX5_readName_33 (Nat.le_refl _) (Nat.le_refl _)
  · replace h := h.2 hc
    refine lv_aload_n (x := o) hx hb dX5_readName_8 rfl (lv_at hl 0 rfl) ?_
    refine lv_iconst (v := 2) hx hb dX5_readName_9 (by decide) ?_
    refine cs_callv0 (cs_runV hx hb hml hown hK hO hT 6 hk10_ (by decide) rfl (c_X5_fail h) rfl rfl klX5_46 ki_X5_fail ks_X5_fail kn_X5 kc_X5_fail 1 ⟨rfl, by decide, by decide, by decide +kernel⟩ ⟨by decide, by decide⟩ rfl hl.1 rfl (hw_cat8 (Nat.le_of_ble_eq_true rfl)) ⟨(Nat.le_refl _), (Nat.le_refl _)⟩ dX5_readName_10) hT (fun S18 H locs h_ hT_ => ?_)
    replace h := h_
    replace hT := hT_
    refine lv_lconst (v := 0) hx hb dX5_readName_13 (by decide) ?_
    exact cs_lret hC hT h dX5_readName_14 (Nat.le_refl _) (Nat.le_refl _)
/-! X5_readNewName -/
abbrev rm_X5_readNewName : Room := { frames := 2, cells := 0, slots := 0, locals := 43 }
def w_X5_readNewName_35 (post : Int64 → cs_S → Prop) (G : Nat → Nat) (S : cs_S) (x0 : Nat) : Prop := cs_k S x0 = 7 ∧ wp_X5_readName (fun r12 S12 => post r12 S12) G S x0
section
variable {p : Program} {l : Launch} {e : Env} {s : State} {m : MethodId} {args : Array Value} {below : List Frame} {meth : Method} {c : Code} {P : hw_G} {G : Nat → Nat} {A : Nat → Prop}
set_option maxRecDepth 100000 in
set_option maxHeartbeats 4000000 in
theorem t_X5_readNewName_35 {post : Int64 → cs_S → Prop} (hC : rf_C P RX5 p s m meth c cX5_readNewName 1 (some .long)) (hin : meth.name = yX5_readNewName.name) (hO : cs_O G A s s.heap) (S : cs_S) (x0 : Nat) (H : Heap) (locs : List Loc) (ls : Array Slot) (h : w_X5_readNewName_35 post G S x0) (hT : cs_T P s A S H locs) (hl : lv_has ls 1 [(0, .ref x0)]) : W p l e rm_X5_readNewName s m args below meth c H locs 0 0 (MQ below (cs_Ql P A post) args s 0 0 A) (F0 m 35 ls []) := by
  obtain ⟨hx, hb, hml, hown, hK, -, -⟩ := id hC
  refine lv_aload_n (x := x0) hx hb dX5_readNewName_35 rfl (lv_at hl 0 rfl) ?_
  obtain ⟨hk13_, h⟩ := h
  refine cs_calll0 (cs_runV hx hb hml hown hK hO hT 6 hk13_ (by decide) rfl (c_X5_readName h) rfl rfl klX5_95 ki_X5_readName ks_X5_readName kn_X5 kc_X5_readName 0 ⟨rfl, by decide, by decide, by decide +kernel⟩ ⟨by decide, by decide⟩ rfl hl.1 rfl (hw_cat8 (Nat.le_of_ble_eq_true rfl)) ⟨(Nat.le_refl _), (Nat.le_refl _)⟩ dX5_readNewName_36) hT (fun r12 S12 H locs h_ hT_ => ?_)
  replace h := h_
  replace hT := hT_
  exact cs_lret hC hT h dX5_readNewName_39 (Nat.le_refl _) (Nat.le_refl _)
end
def wp_X5_readNewName (post : Int64 → cs_S → Prop) (G : Nat → Nat) (S : cs_S) (o : Nat) : Prop := cs_k S o = 7 ∧ (¬ (cs_i S 606 o) = 2 → w_X5_readNewName_35 post G S o) ∧ ((cs_i S 606 o) = 2 → ∀ r15, r15 = cs_r S 604 o → ∃ b16, r15 = some b16 ∧ cs_k S b16 = 10 ∧ ∀ r18, r18 = cs_r S 902 b16 → ∃ b19, r18 = some b19 ∧ cs_k S b19 = 21 ∧ vp_in (cs_i S 605 o) (cs_n S b19) ∧ wp_X5_ruleNamed (fun r21 S21 => (r21 = ((-1)) → w_X5_readNewName_35 post G S21 o) ∧ (¬ r21 = ((-1)) → cs_k S21 o = 7 ∧ wp_X5_fail (fun S22 => post 0 S22) G S21 o 5)) G S o (cs_al S b19 (cs_i S 605 o).toNatClampNeg))
set_option maxRecDepth 100000 in
set_option maxHeartbeats 4000000 in
theorem c_X5_readNewName {l : Launch} {P : hw_G} {G : Nat → Nat} {S : cs_S} {sz : Nat} {o : Nat} {post : Int64 → cs_S → Prop} (h : wp_X5_readNewName post G S o) : Met l yX5_readNewName [Cond.code yX5_readNewName cX5_readNewName 1 (some .long)] rm_X5_readNewName (cs_Pc P G S sz [.ref o]) (cs_Ql P (cs_A S sz) post) 0 0 (cs_A S sz) := by
  refine cs_met (by decide) rfl (Nat.le_of_ble_eq_true rfl) ?_
  intro p e s m below meth c ls hC hin hO hT hl
  obtain ⟨hx, hb, hml, hown, hK, -, -⟩ := id hC
  replace hl : lv_has ls 1 [(0, .ref o)] := hl
  refine lv_aload_n (x := o) hx hb dX5_readNewName_0 rfl (lv_at hl 0 rfl) ?_
  obtain ⟨hk14_, h⟩ := h
  refine cs_get hx hb hK hT hown 6 hk14_ (by decide) rfl 6 (by decide) kfX5_27 (v := .int (cs_i S 606 o)) rfl dX5_readNewName_1 ?_
  refine lv_iconst (v := 2) hx hb dX5_readNewName_4 (by decide) ?_
  refine lv_icmp_ne (tgt := 35) hx hb dX5_readNewName_5 (by decide) (fun hc => ?_) (fun hc => ?_)
  · replace h := h.1 hc
    exact t_X5_readNewName_35 hC hin hO S o _ _ _ h hT (lv_sub hl [0] rfl)
  · replace h := h.2 hc
    refine lv_aload_n (x := o) hx hb dX5_readNewName_8 rfl (lv_at hl 0 rfl) ?_
    refine lv_aload_n (x := o) hx hb dX5_readNewName_9 rfl (lv_at hl 0 rfl) ?_
    refine cs_get hx hb hK hT hown 6 hk14_ (by decide) rfl 4 (by decide) kfX5_9 (v := va_rf (cs_r S 604 o)) rfl dX5_readNewName_10 ?_
    refine hw_topr (fun r15 er15 => ?_)
    replace h := h r15 er15
    obtain ⟨b16, rfl, h⟩ := h
    obtain ⟨hk17_, h⟩ := h
    refine cs_get hx hb hK hT hown 9 hk17_ (by decide) rfl 2 (by decide) kfX5_87 (v := va_rf (cs_r S 902 b16)) rfl dX5_readNewName_13 ?_
    refine hw_topr (fun r18 er18 => ?_)
    replace h := h r18 er18
    refine lv_aload_n (x := o) hx hb dX5_readNewName_16 rfl (lv_at hl 0 rfl) ?_
    refine cs_get hx hb hK hT hown 6 hk14_ (by decide) rfl 5 (by decide) kfX5_34 (v := .int (cs_i S 605 o)) rfl dX5_readNewName_17 ?_
    obtain ⟨b19, rfl, h⟩ := h
    obtain ⟨hk20_, h⟩ := h
    obtain ⟨hi, h⟩ := h
    refine cs_lald hx hb hK hT hk20_ hi dX5_readNewName_20 ?_
    refine cs_calli0 (cs_runV hx hb hml hown hK hO hT 6 hk14_ (by decide) rfl (c_X5_ruleNamed h) rfl rfl klX5_91 ki_X5_ruleNamed ks_X5_ruleNamed kn_X5 kc_X5_ruleNamed 1 ⟨rfl, by decide, by decide, by decide +kernel⟩ ⟨by decide, by decide⟩ rfl hl.1 rfl (hw_cat8 (Nat.le_of_ble_eq_true rfl)) ⟨(Nat.le_refl _), (Nat.le_refl _)⟩ dX5_readNewName_21) hT (fun r21 S21 H locs h_ hT_ => ?_)
    replace h := h_
    replace hT := hT_
    refine lv_iconst (v := (-1)) hx hb dX5_readNewName_24 (by decide) ?_
    refine lv_icmp_eq (tgt := 35) hx hb dX5_readNewName_25 (by decide) (fun hc => ?_) (fun hc => ?_)
    · replace h := h.1 hc
      exact t_X5_readNewName_35 hC hin hO S21 o _ _ _ h hT (lv_sub hl [0] rfl)
    · replace h := h.2 hc
      refine lv_aload_n (x := o) hx hb dX5_readNewName_28 rfl (lv_at hl 0 rfl) ?_
      refine lv_iconst (v := 5) hx hb dX5_readNewName_29 (by decide) ?_
      obtain ⟨hk23_, h⟩ := h
      refine cs_callv0 (cs_runV hx hb hml hown hK hO hT 6 hk23_ (by decide) rfl (c_X5_fail h) rfl rfl klX5_46 ki_X5_fail ks_X5_fail kn_X5 kc_X5_fail 1 ⟨rfl, by decide, by decide, by decide +kernel⟩ ⟨by decide, by decide⟩ rfl hl.1 rfl (hw_cat8 (Nat.le_of_ble_eq_true rfl)) ⟨(Nat.le_refl _), (Nat.le_refl _)⟩ dX5_readNewName_30) hT (fun S22 H locs h_ hT_ => ?_)
      replace h := h_
      replace hT := hT_
      refine lv_lconst (v := 0) hx hb dX5_readNewName_33 (by decide) ?_
      exact cs_lret hC hT h dX5_readNewName_34 (Nat.le_refl _) (Nat.le_refl _)
/-! X7_keyedBy -/
abbrev rm_X7_keyedBy : Room := { frames := 0, cells := 0, slots := 0, locals := 0 }
def w_X7_keyedBy_38 (post : Int32 → cs_S → Prop) (G : Nat → Nat) (S : cs_S)  : Prop := post 0 S
section
variable {p : Program} {l : Launch} {e : Env} {s : State} {m : MethodId} {args : Array Value} {below : List Frame} {meth : Method} {c : Code} {P : hw_G} {G : Nat → Nat} {A : Nat → Prop}
set_option maxRecDepth 100000 in
set_option maxHeartbeats 4000000 in
theorem t_X7_keyedBy_38 {post : Int32 → cs_S → Prop} (hC : rf_C P RX7 p s m meth c cX7_keyedBy 4 (some .boolean)) (hin : meth.name = yX7_keyedBy.name) (hO : cs_O G A s s.heap) (S : cs_S)  (H : Heap) (locs : List Loc) (ls : Array Slot) (h : w_X7_keyedBy_38 post G S ) (hT : cs_T P s A S H locs) (hl : lv_has ls 4 []) : W p l e rm_X7_keyedBy s m args below meth c H locs 0 0 (MQ below (cs_Qi P A post) args s 0 0 A) (F0 m 38 ls []) := by
  obtain ⟨hx, hb, hml, hown, hK, -, -⟩ := id hC
  refine lv_iconst (v := 0) hx hb dX7_keyedBy_38 (by decide) ?_
  exact cs_zret hC hT rfl h dX7_keyedBy_39 (Nat.le_refl _) (Nat.le_refl _)
end
def w_X7_keyedBy_2 (post : Int32 → cs_S → Prop) (G : Nat → Nat) : Nat → cs_S → Nat → Int64 → Int32 → Prop
  | 0, _, _, _, _ => False
  | n + 1, S, x0, x1, x3 => cs_k S x0 = 9 ∧ ((cs_i S 809 x0) ≤ x3 → w_X7_keyedBy_38 post G S) ∧ (¬ (cs_i S 809 x0) ≤ x3 → ∀ r9, r9 = cs_r S 808 x0 → ∃ b10, r9 = some b10 ∧ cs_k S b10 = 21 ∧ ((Int32.ofNat (cs_n S b10)) ≤ x3 → w_X7_keyedBy_38 post G S) ∧ (¬ (Int32.ofNat (cs_n S b10)) ≤ x3 → ∀ r12, r12 = cs_r S 808 x0 → ∃ b13, r12 = some b13 ∧ cs_k S b13 = 21 ∧ vp_in x3 (cs_n S b13) ∧ (¬ (lg_cmp (cs_al S b13 x3.toNatClampNeg) x1) = 0 → w_X7_keyedBy_2 post G n S x0 x1 (x3 + 1)) ∧ ((lg_cmp (cs_al S b13 x3.toNatClampNeg) x1) = 0 → post 1 S)))
section
variable {p : Program} {l : Launch} {e : Env} {s : State} {m : MethodId} {args : Array Value} {below : List Frame} {meth : Method} {c : Code} {P : hw_G} {G : Nat → Nat} {A : Nat → Prop}
set_option maxRecDepth 100000 in
set_option maxHeartbeats 4000000 in
theorem t_X7_keyedBy_2 {post : Int32 → cs_S → Prop} (hC : rf_C P RX7 p s m meth c cX7_keyedBy 4 (some .boolean)) (hin : meth.name = yX7_keyedBy.name) (hO : cs_O G A s s.heap) : ∀ (n : Nat) (S : cs_S) (x0 : Nat) (x1 : Int64) (x3 : Int32) (H : Heap) (locs : List Loc) (ls : Array Slot), w_X7_keyedBy_2 post G n S x0 x1 x3 → cs_T P s A S H locs → lv_has ls 4 [(0, .ref x0), (1, .long x1), (3, .int x3)] → W p l e rm_X7_keyedBy s m args below meth c H locs 0 0 (MQ below (cs_Qi P A post) args s 0 0 A) (F0 m 2 ls []) := by
  obtain ⟨hx, hb, hml, hown, hK, -, -⟩ := id hC
  intro n
  induction n with
  | zero => intro S x0 x1 x3 H locs ls h; exact False.elim h
  | succ n ih =>
    intro S x0 x1 x3 H locs ls h hT hl
    refine lv_iload_n hx hb dX7_keyedBy_2 rfl (lv_at hl 2 rfl) ?_
    refine lv_aload_n (x := x0) hx hb dX7_keyedBy_3 rfl (lv_at hl 0 rfl) ?_
    obtain ⟨hk8_, h⟩ := h
    refine cs_get hx hb hK hT hown 8 hk8_ (by decide) rfl 9 (by decide) kfX7_37 (v := .int (cs_i S 809 x0)) rfl dX7_keyedBy_4 ?_
    refine lv_icmp_ge (tgt := 38) hx hb dX7_keyedBy_7 (by decide) (fun hc => ?_) (fun hc => ?_)
    · replace h := h.1 hc
      exact t_X7_keyedBy_38 hC hin hO S _ _ _ h hT (lv_sub hl [] rfl)
    · replace h := h.2 hc
      refine lv_iload_n hx hb dX7_keyedBy_10 rfl (lv_at hl 2 rfl) ?_
      refine lv_aload_n (x := x0) hx hb dX7_keyedBy_11 rfl (lv_at hl 0 rfl) ?_
      refine cs_get hx hb hK hT hown 8 hk8_ (by decide) rfl 8 (by decide) kfX7_21 (v := va_rf (cs_r S 808 x0)) rfl dX7_keyedBy_12 ?_
      refine hw_topr (fun r9 er9 => ?_)
      replace h := h r9 er9
      obtain ⟨b10, rfl, h⟩ := h
      obtain ⟨hk11_, h⟩ := h
      refine cs_alen hx hb hK hT 21 hk11_ (by decide) (by decide) dX7_keyedBy_15 ?_
      refine lv_icmp_ge (tgt := 38) hx hb dX7_keyedBy_16 (by decide) (fun hc => ?_) (fun hc => ?_)
      · replace h := h.1 hc
        exact t_X7_keyedBy_38 hC hin hO S _ _ _ h hT (lv_sub hl [] rfl)
      · replace h := h.2 hc
        refine lv_aload_n (x := x0) hx hb dX7_keyedBy_19 rfl (lv_at hl 0 rfl) ?_
        refine cs_get hx hb hK hT hown 8 hk8_ (by decide) rfl 8 (by decide) kfX7_21 (v := va_rf (cs_r S 808 x0)) rfl dX7_keyedBy_20 ?_
        refine hw_topr (fun r12 er12 => ?_)
        replace h := h r12 er12
        refine lv_iload_n hx hb dX7_keyedBy_23 rfl (lv_at hl 2 rfl) ?_
        obtain ⟨b13, rfl, h⟩ := h
        obtain ⟨hk14_, h⟩ := h
        obtain ⟨hi, h⟩ := h
        refine cs_lald hx hb hK hT hk14_ hi dX7_keyedBy_24 ?_
        refine lv_lload_n hx hb dX7_keyedBy_25 rfl (lv_at hl 1 rfl) ?_
        refine W.lcmp hx hb dX7_keyedBy_26 ?_
        refine lv_if_ne (tgt := 32) hx hb dX7_keyedBy_27 (by decide) (fun hc => ?_) (fun hc => ?_)
        · replace h := h.1 hc
          refine lv_iinc (v := x3 + 1) (lv' := [(3, _), (0, _), (1, _)]) hx hb dX7_keyedBy_32 hl (k := 2) rfl rfl (by decide) rfl (fun ls hl_ => ?_)
          replace hl := hl_
          refine lv_goto (tgt := 2) hx hb dX7_keyedBy_35 (by decide) ?_
          exact ih S x0 x1 (x3 + 1) _ _ _ h hT (lv_sub hl [1, 2, 0] rfl)
        · replace h := h.2 hc
          refine lv_iconst (v := 1) hx hb dX7_keyedBy_30 (by decide) ?_
          exact cs_zret hC hT rfl h dX7_keyedBy_31 (Nat.le_refl _) (Nat.le_refl _)
end
def wp_X7_keyedBy (post : Int32 → cs_S → Prop) (G : Nat → Nat) (S : cs_S) (o : Nat) (p1 : Int64) : Prop := ∃ n9, w_X7_keyedBy_2 post G n9 S o p1 0
set_option maxRecDepth 100000 in
set_option maxHeartbeats 4000000 in
theorem c_X7_keyedBy {l : Launch} {P : hw_G} {G : Nat → Nat} {S : cs_S} {sz : Nat} {o : Nat} {p1 : Int64} {post : Int32 → cs_S → Prop} (h : wp_X7_keyedBy post G S o p1) : Met l yX7_keyedBy [Cond.code yX7_keyedBy cX7_keyedBy 4 (some .boolean)] rm_X7_keyedBy (cs_Pc P G S sz [.ref o, .long p1]) (cs_Qi P (cs_A S sz) post) 0 0 (cs_A S sz) := by
  refine cs_met (by decide) rfl (Nat.le_of_ble_eq_true rfl) ?_
  intro p e s m below meth c ls hC hin hO hT hl
  obtain ⟨hx, hb, hml, hown, hK, -, -⟩ := id hC
  replace hl : lv_has ls 4 [(0, .ref o), (1, .long p1)] := hl
  refine lv_iconst (v := 0) hx hb dX7_keyedBy_0 (by decide) ?_
  refine lv_istore_n (lv' := [(3, _), (0, _), (1, _)]) hx hb dX7_keyedBy_1 rfl hl (by decide) rfl (fun ls hl_ => ?_)
  replace hl := hl_
  obtain ⟨n9, h⟩ := h
  exact t_X7_keyedBy_2 hC hin hO n9 S o p1 0 _ _ _ h hT (lv_sub hl [1, 2, 0] rfl)
/-! X7_addBy -/
abbrev rm_X7_addBy : Room := { frames := 0, cells := 0, slots := 0, locals := 0 }
def w_X7_addBy_32 (post : cs_S → Prop) (G : Nat → Nat) (S : cs_S)  : Prop := post S
section
variable {p : Program} {l : Launch} {e : Env} {s : State} {m : MethodId} {args : Array Value} {below : List Frame} {meth : Method} {c : Code} {P : hw_G} {G : Nat → Nat} {A : Nat → Prop}
set_option maxRecDepth 100000 in
set_option maxHeartbeats 4000000 in
theorem t_X7_addBy_32 {post : cs_S → Prop} (hC : rf_C P RX7 p s m meth c cX7_addBy 3 none) (hin : meth.name = yX7_addBy.name) (hO : cs_O G A s s.heap) (S : cs_S)  (H : Heap) (locs : List Loc) (ls : Array Slot) (h : w_X7_addBy_32 post G S ) (hT : cs_T P s A S H locs) (hl : lv_has ls 3 []) : W p l e rm_X7_addBy s m args below meth c H locs 0 0 (MQ below (cs_Qv P A post) args s 0 0 A) (F0 m 32 ls []) := by
  obtain ⟨hx, hb, hml, hown, hK, -, -⟩ := id hC
  exact cs_vret hC hT h dX7_addBy_32 (Nat.le_refl _) (Nat.le_refl _)
end
def wp_X7_addBy (post : cs_S → Prop) (G : Nat → Nat) (S : cs_S) (o : Nat) (p1 : Int64) : Prop := cs_k S o = 9 ∧ ∀ r12, r12 = cs_r S 808 o → ∃ b13, r12 = some b13 ∧ cs_k S b13 = 21 ∧ ((Int32.ofNat (cs_n S b13)) ≤ (cs_i S 809 o) → w_X7_addBy_32 post G S) ∧ (¬ (Int32.ofNat (cs_n S b13)) ≤ (cs_i S 809 o) → ∀ r15, r15 = cs_r S 808 o → ∃ b16, r15 = some b16 ∧ cs_k S b16 = 21 ∧ vp_in (cs_i S 809 o) (cs_n S b16) ∧ ∀ S18, S18 = cs_ual S b16 (cs_i S 809 o).toNatClampNeg p1 → cs_k S18 o = 9 ∧ ∀ S20, S20 = cs_ui S18 809 o ((cs_i S18 809 o) + 1) → w_X7_addBy_32 post G S20)
set_option maxRecDepth 100000 in
set_option maxHeartbeats 4000000 in
theorem c_X7_addBy {l : Launch} {P : hw_G} {G : Nat → Nat} {S : cs_S} {sz : Nat} {o : Nat} {p1 : Int64} {post : cs_S → Prop} (h : wp_X7_addBy post G S o p1) : Met l yX7_addBy [Cond.code yX7_addBy cX7_addBy 3 none] rm_X7_addBy (cs_Pc P G S sz [.ref o, .long p1]) (cs_Qv P (cs_A S sz) post) 0 0 (cs_A S sz) := by
  refine cs_met (by decide) rfl (Nat.le_of_ble_eq_true rfl) ?_
  intro p e s m below meth c ls hC hin hO hT hl
  obtain ⟨hx, hb, hml, hown, hK, -, -⟩ := id hC
  replace hl : lv_has ls 3 [(0, .ref o), (1, .long p1)] := hl
  refine lv_aload_n (x := o) hx hb dX7_addBy_0 rfl (lv_at hl 0 rfl) ?_
  obtain ⟨hk11_, h⟩ := h
  refine cs_get hx hb hK hT hown 8 hk11_ (by decide) rfl 9 (by decide) kfX7_37 (v := .int (cs_i S 809 o)) rfl dX7_addBy_1 ?_
  refine lv_aload_n (x := o) hx hb dX7_addBy_4 rfl (lv_at hl 0 rfl) ?_
  refine cs_get hx hb hK hT hown 8 hk11_ (by decide) rfl 8 (by decide) kfX7_21 (v := va_rf (cs_r S 808 o)) rfl dX7_addBy_5 ?_
  refine hw_topr (fun r12 er12 => ?_)
  replace h := h r12 er12
  obtain ⟨b13, rfl, h⟩ := h
  obtain ⟨hk14_, h⟩ := h
  refine cs_alen hx hb hK hT 21 hk14_ (by decide) (by decide) dX7_addBy_8 ?_
  refine lv_icmp_ge (tgt := 32) hx hb dX7_addBy_9 (by decide) (fun hc => ?_) (fun hc => ?_)
  · replace h := h.1 hc
    exact t_X7_addBy_32 hC hin hO S _ _ _ h hT (lv_sub hl [] rfl)
  · replace h := h.2 hc
    refine lv_aload_n (x := o) hx hb dX7_addBy_12 rfl (lv_at hl 0 rfl) ?_
    refine cs_get hx hb hK hT hown 8 hk11_ (by decide) rfl 8 (by decide) kfX7_21 (v := va_rf (cs_r S 808 o)) rfl dX7_addBy_13 ?_
    refine hw_topr (fun r15 er15 => ?_)
    replace h := h r15 er15
    refine lv_aload_n (x := o) hx hb dX7_addBy_16 rfl (lv_at hl 0 rfl) ?_
    refine cs_get hx hb hK hT hown 8 hk11_ (by decide) rfl 9 (by decide) kfX7_37 (v := .int (cs_i S 809 o)) rfl dX7_addBy_17 ?_
    refine lv_lload_n hx hb dX7_addBy_20 rfl (lv_at hl 1 rfl) ?_
    obtain ⟨b16, rfl, h⟩ := h
    obtain ⟨hk17_, h⟩ := h
    obtain ⟨hi, h⟩ := h
    refine cs_last hx hb hK hT hk17_ hi dX7_addBy_21 (fun H locs hT_ => ?_)
    replace hT := hT_
    obtain ⟨S18, eS18⟩ : ∃ z, z = cs_ual S b16 (cs_i S 809 o).toNatClampNeg p1 := ⟨_, rfl⟩
    rw [← eS18] at hT
    replace h := h S18 eS18
    refine lv_aload_n (x := o) hx hb dX7_addBy_22 rfl (lv_at hl 0 rfl) ?_
    refine lv_dup hx hb dX7_addBy_23 rfl ?_
    obtain ⟨hk19_, h⟩ := h
    refine cs_get hx hb hK hT hown 8 hk19_ (by decide) rfl 9 (by decide) kfX7_37 (v := .int (cs_i S18 809 o)) rfl dX7_addBy_24 ?_
    refine lv_iconst (v := 1) hx hb dX7_addBy_27 (by decide) ?_
    refine lv_iadd hx hb dX7_addBy_28 ?_
    refine cs_puti (x := ((cs_i S18 809 o) + 1)) hx hb hK hT hown 8 hk19_ (by decide) rfl 9 (by decide) kfX7_37 rfl (tyX7_ok 9 (by decide)) rfl 809 rfl dX7_addBy_29 (fun H locs hT_ => ?_)
    replace hT := hT_
    obtain ⟨S20, eS20⟩ : ∃ z, z = cs_ui S18 809 o ((cs_i S18 809 o) + 1) := ⟨_, rfl⟩
    rw [← eS20] at hT
    replace h := h S20 eS20
    exact t_X7_addBy_32 hC hin hO S20 _ _ _ h hT (lv_sub hl [] rfl)
/-! X5_readBy -/
abbrev rm_X5_readBy : Room := { frames := 2, cells := 0, slots := 0, locals := 43 }
def w_X5_readBy_102 (post : cs_S → Prop) (G : Nat → Nat) (S : cs_S)  : Prop := post S
section
variable {p : Program} {l : Launch} {e : Env} {s : State} {m : MethodId} {args : Array Value} {below : List Frame} {meth : Method} {c : Code} {P : hw_G} {G : Nat → Nat} {A : Nat → Prop}
set_option maxRecDepth 100000 in
set_option maxHeartbeats 4000000 in
theorem t_X5_readBy_102 {post : cs_S → Prop} (hC : rf_C P RX5 p s m meth c cX5_readBy 4 none) (hin : meth.name = yX5_readBy.name) (hO : cs_O G A s s.heap) (S : cs_S)  (H : Heap) (locs : List Loc) (ls : Array Slot) (h : w_X5_readBy_102 post G S ) (hT : cs_T P s A S H locs) (hl : lv_has ls 4 []) : W p l e rm_X5_readBy s m args below meth c H locs 0 0 (MQ below (cs_Qv P A post) args s 0 0 A) (F0 m 102 ls []) := by
  obtain ⟨hx, hb, hml, hown, hK, -, -⟩ := id hC
  exact cs_vret hC hT h dX5_readBy_102 (Nat.le_refl _) (Nat.le_refl _)
end
def w_X5_readBy_95 (post : cs_S → Prop) (G : Nat → Nat) (k4 : cs_S → Nat → Option Nat → Int32 → Int32 → Prop) (S : cs_S) (x0 : Nat) (x1 : Option Nat) (x3 : Int32) (y0 : Int32) : Prop := k4 S x0 x1 y0 (x3 + 1)
section
variable {p : Program} {l : Launch} {e : Env} {s : State} {m : MethodId} {args : Array Value} {below : List Frame} {meth : Method} {c : Code} {P : hw_G} {G : Nat → Nat} {A : Nat → Prop}
set_option maxRecDepth 100000 in
set_option maxHeartbeats 4000000 in
theorem t_X5_readBy_95 {post : cs_S → Prop} {k4 : cs_S → Nat → Option Nat → Int32 → Int32 → Prop} (hC : rf_C P RX5 p s m meth c cX5_readBy 4 none) (hin : meth.name = yX5_readBy.name) (hO : cs_O G A s s.heap) (hk4 : ∀ (S : cs_S) (x0 : Nat) (x1 : Option Nat) (x2 : Int32) (x3 : Int32) (H : Heap) (locs : List Loc) (ls : Array Slot), k4 S x0 x1 x2 x3 → cs_T P s A S H locs → lv_has ls 4 [(0, .ref x0), (1, va_rf x1), (2, .int x2), (3, .int x3)] → W p l e rm_X5_readBy s m args below meth c H locs 0 0 (MQ below (cs_Qv P A post) args s 0 0 A) (F0 m 4 ls [])) (S : cs_S) (x0 : Nat) (x1 : Option Nat) (x3 : Int32) (y0 : Int32) (H : Heap) (locs : List Loc) (ls : Array Slot) (h : w_X5_readBy_95 post G k4 S x0 x1 x3 y0) (hT : cs_T P s A S H locs) (hl : lv_has ls 4 [(0, .ref x0), (1, va_rf x1), (3, .int x3)]) : W p l e rm_X5_readBy s m args below meth c H locs 0 0 (MQ below (cs_Qv P A post) args s 0 0 A) (F0 m 95 ls [.int y0]) := by
  obtain ⟨hx, hb, hml, hown, hK, -, -⟩ := id hC
  refine lv_istore_n (lv' := [(2, _), (0, _), (1, _), (3, _)]) hx hb dX5_readBy_95 rfl hl (by decide) (congrArg (List.cons _) ((hw_flt (fun q hq => by simp only [List.mem_cons, List.not_mem_nil, or_false] at hq; rcases hq with rfl | rfl | rfl <;> first | exact fun _ => rfl | exact fun _ => va_rf_cat _ | (intro h; simp at h))).trans rfl)) (fun ls hl_ => ?_)
  replace hl := hl_
  refine lv_iinc (v := x3 + 1) (lv' := [(3, _), (2, _), (0, _), (1, _)]) hx hb dX5_readBy_96 hl (k := 3) rfl rfl (by decide) rfl (fun ls hl_ => ?_)
  replace hl := hl_
  refine lv_goto (tgt := 4) hx hb dX5_readBy_99 (by decide) ?_
  exact hk4 S x0 x1 y0 (x3 + 1) _ _ _ h hT (lv_sub hl [2, 3, 1, 0] rfl)
end
def w_X5_readBy_73 (post : cs_S → Prop) (G : Nat → Nat) (k4 : cs_S → Nat → Option Nat → Int32 → Int32 → Prop) (S : cs_S) (x0 : Nat) (x1 : Option Nat) (x3 : Int32) : Prop := cs_k S x0 = 7 ∧ wp_X5_readName (fun r23 S23 => ∃ b25, x1 = some b25 ∧ cs_k S23 b25 = 9 ∧ wp_X7_addBy (fun S26 => cs_k S26 x0 = 7 ∧ (¬ (cs_i S26 606 x0) = 8 → w_X5_readBy_95 post G k4 S26 x0 (some b25) x3 0) ∧ ((cs_i S26 606 x0) = 8 → w_X5_readBy_95 post G k4 S26 x0 (some b25) x3 1)) G S23 b25 r23) G S x0
section
variable {p : Program} {l : Launch} {e : Env} {s : State} {m : MethodId} {args : Array Value} {below : List Frame} {meth : Method} {c : Code} {P : hw_G} {G : Nat → Nat} {A : Nat → Prop}
set_option maxRecDepth 100000 in
set_option maxHeartbeats 4000000 in
theorem t_X5_readBy_73 {post : cs_S → Prop} {k4 : cs_S → Nat → Option Nat → Int32 → Int32 → Prop} (hC : rf_C P RX5 p s m meth c cX5_readBy 4 none) (hin : meth.name = yX5_readBy.name) (hO : cs_O G A s s.heap) (hk4 : ∀ (S : cs_S) (x0 : Nat) (x1 : Option Nat) (x2 : Int32) (x3 : Int32) (H : Heap) (locs : List Loc) (ls : Array Slot), k4 S x0 x1 x2 x3 → cs_T P s A S H locs → lv_has ls 4 [(0, .ref x0), (1, va_rf x1), (2, .int x2), (3, .int x3)] → W p l e rm_X5_readBy s m args below meth c H locs 0 0 (MQ below (cs_Qv P A post) args s 0 0 A) (F0 m 4 ls [])) (S : cs_S) (x0 : Nat) (x1 : Option Nat) (x3 : Int32) (H : Heap) (locs : List Loc) (ls : Array Slot) (h : w_X5_readBy_73 post G k4 S x0 x1 x3) (hT : cs_T P s A S H locs) (hl : lv_has ls 4 [(0, .ref x0), (1, va_rf x1), (3, .int x3)]) : W p l e rm_X5_readBy s m args below meth c H locs 0 0 (MQ below (cs_Qv P A post) args s 0 0 A) (F0 m 73 ls []) := by
  obtain ⟨hx, hb, hml, hown, hK, -, -⟩ := id hC
  refine hw_aload_n (x := x1) hx hb dX5_readBy_73 rfl (lv_at hl 1 rfl) ?_
  refine lv_aload_n (x := x0) hx hb dX5_readBy_74 rfl (lv_at hl 0 rfl) ?_
  obtain ⟨hk24_, h⟩ := h
  refine cs_calll0 (cs_runV hx hb hml hown hK hO hT 6 hk24_ (by decide) rfl (c_X5_readName h) rfl rfl klX5_95 ki_X5_readName ks_X5_readName kn_X5 kc_X5_readName 0 ⟨rfl, by decide, by decide, by decide +kernel⟩ ⟨by decide, by decide⟩ rfl hl.1 rfl (hw_cat8 (Nat.le_of_ble_eq_true rfl)) ⟨(Nat.le_refl _), (Nat.le_refl _)⟩ dX5_readBy_75) hT (fun r23 S23 H locs h_ hT_ => ?_)
  replace h := h_
  replace hT := hT_
  obtain ⟨b25, rfl, h⟩ := h
  obtain ⟨hk27_, h⟩ := h
  refine cs_callv0 (cs_runV hx hb hml hown hK hO hT 8 hk27_ (by decide) rfl (c_X7_addBy h) rfl rfl klX5_105 ki_X7_addBy ks_X7_addBy kn_X7 kc_X7_addBy 1 ⟨rfl, by decide, by decide, by decide +kernel⟩ ⟨by decide, by decide⟩ rfl hl.1 rfl (hw_cat8 (Nat.le_of_ble_eq_true rfl)) ⟨(Nat.le_refl _), (Nat.le_refl _)⟩ dX5_readBy_78) hT (fun S26 H locs h_ hT_ => ?_)
  replace h := h_
  replace hT := hT_
  refine lv_aload_n (x := x0) hx hb dX5_readBy_81 rfl (lv_at hl 0 rfl) ?_
  obtain ⟨hk28_, h⟩ := h
  refine cs_get hx hb hK hT hown 6 hk28_ (by decide) rfl 6 (by decide) kfX5_27 (v := .int (cs_i S26 606 x0)) rfl dX5_readBy_82 ?_
  refine lv_bipush (v := 8) hx hb dX5_readBy_85 (by decide) ?_
  refine lv_icmp_ne (tgt := 94) hx hb dX5_readBy_87 (by decide) (fun hc => ?_) (fun hc => ?_)
  · replace h := h.1 hc
    refine lv_iconst (v := 0) hx hb dX5_readBy_94 (by decide) ?_
    exact t_X5_readBy_95 hC hin hO hk4 S26 x0 (some b25) x3 0 _ _ _ h hT (lv_sub hl [0, 1, 2] rfl)
  · replace h := h.2 hc
    refine lv_iconst (v := 1) hx hb dX5_readBy_90 (by decide) ?_
    refine lv_goto (tgt := 95) hx hb dX5_readBy_91 (by decide) ?_
    exact t_X5_readBy_95 hC hin hO hk4 S26 x0 (some b25) x3 1 _ _ _ h hT (lv_sub hl [0, 1, 2] rfl)
end
def w_X5_readBy_41 (post : cs_S → Prop) (G : Nat → Nat) (k4 : cs_S → Nat → Option Nat → Int32 → Int32 → Prop) (S : cs_S) (x0 : Nat) (x1 : Option Nat) (x3 : Int32) : Prop := cs_k S x0 = 7 ∧ (¬ (cs_i S 606 x0) = 2 → w_X5_readBy_73 post G k4 S x0 x1 x3) ∧ ((cs_i S 606 x0) = 2 → ∀ r30, r30 = cs_r S 604 x0 → ∃ b31, r30 = some b31 ∧ cs_k S b31 = 10 ∧ ∀ r33, r33 = cs_r S 902 b31 → ∃ b34, r33 = some b34 ∧ cs_k S b34 = 21 ∧ vp_in (cs_i S 605 x0) (cs_n S b34) ∧ ∃ b36, x1 = some b36 ∧ cs_k S b36 = 9 ∧ wp_X7_keyedBy (fun r37 S37 => (r37 = 0 → w_X5_readBy_73 post G k4 S37 x0 (some b36) x3) ∧ (¬ r37 = 0 → cs_k S37 x0 = 7 ∧ wp_X5_fail (fun S39 => w_X5_readBy_73 post G k4 S39 x0 (some b36) x3) G S37 x0 5)) G S b36 (cs_al S b34 (cs_i S 605 x0).toNatClampNeg))
section
variable {p : Program} {l : Launch} {e : Env} {s : State} {m : MethodId} {args : Array Value} {below : List Frame} {meth : Method} {c : Code} {P : hw_G} {G : Nat → Nat} {A : Nat → Prop}
set_option maxRecDepth 100000 in
set_option maxHeartbeats 4000000 in
theorem t_X5_readBy_41 {post : cs_S → Prop} {k4 : cs_S → Nat → Option Nat → Int32 → Int32 → Prop} (hC : rf_C P RX5 p s m meth c cX5_readBy 4 none) (hin : meth.name = yX5_readBy.name) (hO : cs_O G A s s.heap) (hk4 : ∀ (S : cs_S) (x0 : Nat) (x1 : Option Nat) (x2 : Int32) (x3 : Int32) (H : Heap) (locs : List Loc) (ls : Array Slot), k4 S x0 x1 x2 x3 → cs_T P s A S H locs → lv_has ls 4 [(0, .ref x0), (1, va_rf x1), (2, .int x2), (3, .int x3)] → W p l e rm_X5_readBy s m args below meth c H locs 0 0 (MQ below (cs_Qv P A post) args s 0 0 A) (F0 m 4 ls [])) (S : cs_S) (x0 : Nat) (x1 : Option Nat) (x3 : Int32) (H : Heap) (locs : List Loc) (ls : Array Slot) (h : w_X5_readBy_41 post G k4 S x0 x1 x3) (hT : cs_T P s A S H locs) (hl : lv_has ls 4 [(0, .ref x0), (1, va_rf x1), (3, .int x3)]) : W p l e rm_X5_readBy s m args below meth c H locs 0 0 (MQ below (cs_Qv P A post) args s 0 0 A) (F0 m 41 ls []) := by
  obtain ⟨hx, hb, hml, hown, hK, -, -⟩ := id hC
  refine lv_aload_n (x := x0) hx hb dX5_readBy_41 rfl (lv_at hl 0 rfl) ?_
  obtain ⟨hk29_, h⟩ := h
  refine cs_get hx hb hK hT hown 6 hk29_ (by decide) rfl 6 (by decide) kfX5_27 (v := .int (cs_i S 606 x0)) rfl dX5_readBy_42 ?_
  refine lv_iconst (v := 2) hx hb dX5_readBy_45 (by decide) ?_
  refine lv_icmp_ne (tgt := 73) hx hb dX5_readBy_46 (by decide) (fun hc => ?_) (fun hc => ?_)
  · replace h := h.1 hc
    exact t_X5_readBy_73 hC hin hO hk4 S x0 x1 x3 _ _ _ h hT (lv_sub hl [0, 1, 2] rfl)
  · replace h := h.2 hc
    refine hw_aload_n (x := x1) hx hb dX5_readBy_49 rfl (lv_at hl 1 rfl) ?_
    refine lv_aload_n (x := x0) hx hb dX5_readBy_50 rfl (lv_at hl 0 rfl) ?_
    refine cs_get hx hb hK hT hown 6 hk29_ (by decide) rfl 4 (by decide) kfX5_9 (v := va_rf (cs_r S 604 x0)) rfl dX5_readBy_51 ?_
    refine hw_topr (fun r30 er30 => ?_)
    replace h := h r30 er30
    obtain ⟨b31, rfl, h⟩ := h
    obtain ⟨hk32_, h⟩ := h
    refine cs_get hx hb hK hT hown 9 hk32_ (by decide) rfl 2 (by decide) kfX5_87 (v := va_rf (cs_r S 902 b31)) rfl dX5_readBy_54 ?_
    refine hw_topr (fun r33 er33 => ?_)
    replace h := h r33 er33
    refine lv_aload_n (x := x0) hx hb dX5_readBy_57 rfl (lv_at hl 0 rfl) ?_
    refine cs_get hx hb hK hT hown 6 hk29_ (by decide) rfl 5 (by decide) kfX5_34 (v := .int (cs_i S 605 x0)) rfl dX5_readBy_58 ?_
    obtain ⟨b34, rfl, h⟩ := h
    obtain ⟨hk35_, h⟩ := h
    obtain ⟨hi, h⟩ := h
    refine cs_lald hx hb hK hT hk35_ hi dX5_readBy_61 ?_
    obtain ⟨b36, rfl, h⟩ := h
    obtain ⟨hk38_, h⟩ := h
    refine cs_calli0 (cs_runV hx hb hml hown hK hO hT 8 hk38_ (by decide) rfl (c_X7_keyedBy h) rfl rfl klX5_101 ki_X7_keyedBy ks_X7_keyedBy kn_X7 kc_X7_keyedBy 1 ⟨rfl, by decide, by decide, by decide +kernel⟩ ⟨by decide, by decide⟩ rfl hl.1 rfl (hw_cat8 (Nat.le_of_ble_eq_true rfl)) ⟨(Nat.le_refl _), (Nat.le_refl _)⟩ dX5_readBy_62) hT (fun r37 S37 H locs h_ hT_ => ?_)
    replace h := h_
    replace hT := hT_
    refine lv_if_eq (tgt := 73) hx hb dX5_readBy_65 (by decide) (fun hc => ?_) (fun hc => ?_)
    · replace h := h.1 hc
      exact t_X5_readBy_73 hC hin hO hk4 S37 x0 (some b36) x3 _ _ _ h hT (lv_sub hl [0, 1, 2] rfl)
    · replace h := h.2 hc
      refine lv_aload_n (x := x0) hx hb dX5_readBy_68 rfl (lv_at hl 0 rfl) ?_
      refine lv_iconst (v := 5) hx hb dX5_readBy_69 (by decide) ?_
      obtain ⟨hk40_, h⟩ := h
      refine cs_callv0 (cs_runV hx hb hml hown hK hO hT 6 hk40_ (by decide) rfl (c_X5_fail h) rfl rfl klX5_46 ki_X5_fail ks_X5_fail kn_X5 kc_X5_fail 1 ⟨rfl, by decide, by decide, by decide +kernel⟩ ⟨by decide, by decide⟩ rfl hl.1 rfl (hw_cat8 (Nat.le_of_ble_eq_true rfl)) ⟨(Nat.le_refl _), (Nat.le_refl _)⟩ dX5_readBy_70) hT (fun S39 H locs h_ hT_ => ?_)
      replace h := h_
      replace hT := hT_
      exact t_X5_readBy_73 hC hin hO hk4 S39 x0 (some b36) x3 _ _ _ h hT (lv_sub hl [0, 1, 2] rfl)
end
def w_X5_readBy_4 (post : cs_S → Prop) (G : Nat → Nat) : Nat → cs_S → Nat → Option Nat → Int32 → Int32 → Prop
  | 0, _, _, _, _, _ => False
  | n + 1, S, x0, x1, x2, x3 => (x2 = 0 → w_X5_readBy_102 post G S) ∧ (¬ x2 = 0 → (3 < x3 → w_X5_readBy_102 post G S) ∧ (¬ 3 < x3 → cs_k S x0 = 7 ∧ wp_X5_step (fun S41 => cs_k S41 x0 = 7 ∧ (¬ (cs_i S41 606 x0) = 2 → w_X5_readBy_41 post G (w_X5_readBy_4 post G n) S41 x0 x1 x3) ∧ ((cs_i S41 606 x0) = 2 → ∃ b44, x1 = some b44 ∧ cs_k S41 b44 = 9 ∧ ((cs_i S41 809 b44) < 3 → w_X5_readBy_41 post G (w_X5_readBy_4 post G n) S41 x0 (some b44) x3) ∧ (¬ (cs_i S41 809 b44) < 3 → wp_X5_fail (fun S46 => w_X5_readBy_73 post G (w_X5_readBy_4 post G n) S46 x0 (some b44) x3) G S41 x0 4))) G S x0))
section
variable {p : Program} {l : Launch} {e : Env} {s : State} {m : MethodId} {args : Array Value} {below : List Frame} {meth : Method} {c : Code} {P : hw_G} {G : Nat → Nat} {A : Nat → Prop}
set_option maxRecDepth 100000 in
set_option maxHeartbeats 4000000 in
theorem t_X5_readBy_4 {post : cs_S → Prop} (hC : rf_C P RX5 p s m meth c cX5_readBy 4 none) (hin : meth.name = yX5_readBy.name) (hO : cs_O G A s s.heap) : ∀ (n : Nat) (S : cs_S) (x0 : Nat) (x1 : Option Nat) (x2 : Int32) (x3 : Int32) (H : Heap) (locs : List Loc) (ls : Array Slot), w_X5_readBy_4 post G n S x0 x1 x2 x3 → cs_T P s A S H locs → lv_has ls 4 [(0, .ref x0), (1, va_rf x1), (2, .int x2), (3, .int x3)] → W p l e rm_X5_readBy s m args below meth c H locs 0 0 (MQ below (cs_Qv P A post) args s 0 0 A) (F0 m 4 ls []) := by
  obtain ⟨hx, hb, hml, hown, hK, -, -⟩ := id hC
  intro n
  induction n with
  | zero => intro S x0 x1 x2 x3 H locs ls h; exact False.elim h
  | succ n ih =>
    intro S x0 x1 x2 x3 H locs ls h hT hl
    refine lv_iload_n hx hb dX5_readBy_4 rfl (lv_at hl 2 rfl) ?_
    refine lv_if_eq (tgt := 102) hx hb dX5_readBy_5 (by decide) (fun hc => ?_) (fun hc => ?_)
    · replace h := h.1 hc
      exact t_X5_readBy_102 hC hin hO S _ _ _ h hT (lv_sub hl [] rfl)
    · replace h := h.2 hc
      refine lv_iload_n hx hb dX5_readBy_8 rfl (lv_at hl 3 rfl) ?_
      refine lv_iconst (v := 3) hx hb dX5_readBy_9 (by decide) ?_
      refine lv_icmp_gt (tgt := 102) hx hb dX5_readBy_10 (by decide) (fun hc => ?_) (fun hc => ?_)
      · replace h := h.1 hc
        exact t_X5_readBy_102 hC hin hO S _ _ _ h hT (lv_sub hl [] rfl)
      · replace h := h.2 hc
        refine lv_aload_n (x := x0) hx hb dX5_readBy_13 rfl (lv_at hl 0 rfl) ?_
        obtain ⟨hk42_, h⟩ := h
        refine cs_callv0 (cs_runV hx hb hml hown hK hO hT 6 hk42_ (by decide) rfl (c_X5_step h) rfl rfl klX5_43 ki_X5_step ks_X5_step kn_X5 kc_X5_step 0 ⟨rfl, by decide, by decide, by decide +kernel⟩ ⟨by decide, by decide⟩ rfl hl.1 rfl (hw_cat8 (Nat.le_of_ble_eq_true rfl)) ⟨(Nat.le_refl _), (Nat.le_refl _)⟩ dX5_readBy_14) hT (fun S41 H locs h_ hT_ => ?_)
        replace h := h_
        replace hT := hT_
        refine lv_aload_n (x := x0) hx hb dX5_readBy_17 rfl (lv_at hl 0 rfl) ?_
        obtain ⟨hk43_, h⟩ := h
        refine cs_get hx hb hK hT hown 6 hk43_ (by decide) rfl 6 (by decide) kfX5_27 (v := .int (cs_i S41 606 x0)) rfl dX5_readBy_18 ?_
        refine lv_iconst (v := 2) hx hb dX5_readBy_21 (by decide) ?_
        refine lv_icmp_ne (tgt := 41) hx hb dX5_readBy_22 (by decide) (fun hc => ?_) (fun hc => ?_)
        · replace h := h.1 hc
          exact t_X5_readBy_41 hC hin hO ih S41 x0 x1 x3 _ _ _ h hT (lv_sub hl [0, 1, 3] rfl)
        · replace h := h.2 hc
          refine hw_aload_n (x := x1) hx hb dX5_readBy_25 rfl (lv_at hl 1 rfl) ?_
          obtain ⟨b44, rfl, h⟩ := h
          obtain ⟨hk45_, h⟩ := h
          refine cs_get hx hb hK hT hown 8 hk45_ (by decide) rfl 9 (by decide) kfX5_98 (v := .int (cs_i S41 809 b44)) rfl dX5_readBy_26 ?_
          refine lv_iconst (v := 3) hx hb dX5_readBy_29 (by decide) ?_
          refine lv_icmp_lt (tgt := 41) hx hb dX5_readBy_30 (by decide) (fun hc => ?_) (fun hc => ?_)
          · replace h := h.1 hc
            exact t_X5_readBy_41 hC hin hO ih S41 x0 (some b44) x3 _ _ _ h hT (lv_sub hl [0, 1, 3] rfl)
          · replace h := h.2 hc
            refine lv_aload_n (x := x0) hx hb dX5_readBy_33 rfl (lv_at hl 0 rfl) ?_
            refine lv_iconst (v := 4) hx hb dX5_readBy_34 (by decide) ?_
            refine cs_callv0 (cs_runV hx hb hml hown hK hO hT 6 hk43_ (by decide) rfl (c_X5_fail h) rfl rfl klX5_46 ki_X5_fail ks_X5_fail kn_X5 kc_X5_fail 1 ⟨rfl, by decide, by decide, by decide +kernel⟩ ⟨by decide, by decide⟩ rfl hl.1 rfl (hw_cat8 (Nat.le_of_ble_eq_true rfl)) ⟨(Nat.le_refl _), (Nat.le_refl _)⟩ dX5_readBy_35) hT (fun S46 H locs h_ hT_ => ?_)
            replace h := h_
            replace hT := hT_
            refine lv_goto (tgt := 73) hx hb dX5_readBy_38 (by decide) ?_
            exact t_X5_readBy_73 hC hin hO ih S46 x0 (some b44) x3 _ _ _ h hT (lv_sub hl [0, 1, 3] rfl)
end
def wp_X5_readBy (post : cs_S → Prop) (G : Nat → Nat) (S : cs_S) (o : Nat) (p1 : Option Nat) : Prop := ∃ n9, w_X5_readBy_4 post G n9 S o p1 1 0
set_option maxRecDepth 100000 in
set_option maxHeartbeats 4000000 in
theorem c_X5_readBy {l : Launch} {P : hw_G} {G : Nat → Nat} {S : cs_S} {sz : Nat} {o : Nat} {p1 : Option Nat} {post : cs_S → Prop} (h : wp_X5_readBy post G S o p1) : Met l yX5_readBy [Cond.code yX5_readBy cX5_readBy 4 none] rm_X5_readBy (cs_Pc P G S sz [.ref o, va_rf p1]) (cs_Qv P (cs_A S sz) post) 0 0 (cs_A S sz) := by
  refine cs_met (by decide) rfl (by cases p1 <;> exact Nat.le_of_ble_eq_true rfl) ?_
  intro p e s m below meth c ls hC hin hO hT hl
  obtain ⟨hx, hb, hml, hown, hK, -, -⟩ := id hC
  replace hl : lv_has ls 4 [(0, .ref o), (1, va_rf p1)] := by cases p1 <;> exact hl
  refine lv_iconst (v := 1) hx hb dX5_readBy_0 (by decide) ?_
  refine lv_istore_n (lv' := [(2, _), (0, _), (1, _)]) hx hb dX5_readBy_1 rfl hl (by decide) (congrArg (List.cons _) ((hw_flt (fun q hq => by simp only [List.mem_cons, List.not_mem_nil, or_false] at hq; rcases hq with rfl | rfl <;> first | exact fun _ => rfl | exact fun _ => va_rf_cat _ | (intro h; simp at h))).trans rfl)) (fun ls hl_ => ?_)
  replace hl := hl_
  refine lv_iconst (v := 0) hx hb dX5_readBy_2 (by decide) ?_
  refine lv_istore_n (lv' := [(3, _), (2, _), (0, _), (1, _)]) hx hb dX5_readBy_3 rfl hl (by decide) rfl (fun ls hl_ => ?_)
  replace hl := hl_
  obtain ⟨n9, h⟩ := h
  exact t_X5_readBy_4 hC hin hO n9 S o p1 1 0 _ _ _ h hT (lv_sub hl [2, 3, 1, 0] rfl)
/-! X5_readNumber -/
abbrev rm_X5_readNumber : Room := { frames := 1, cells := 0, slots := 0, locals := 21 }
def w_X5_readNumber_39 (post : Int32 → cs_S → Prop) (G : Nat → Nat) (S : cs_S) (x0 : Nat) : Prop := cs_k S x0 = 7 ∧ wp_X5_fail (fun S11 => post 0 S11) G S x0 3
section
variable {p : Program} {l : Launch} {e : Env} {s : State} {m : MethodId} {args : Array Value} {below : List Frame} {meth : Method} {c : Code} {P : hw_G} {G : Nat → Nat} {A : Nat → Prop}
set_option maxRecDepth 100000 in
set_option maxHeartbeats 4000000 in
theorem t_X5_readNumber_39 {post : Int32 → cs_S → Prop} (hC : rf_C P RX5 p s m meth c cX5_readNumber 4 (some .int)) (hin : meth.name = yX5_readNumber.name) (hO : cs_O G A s s.heap) (S : cs_S) (x0 : Nat) (H : Heap) (locs : List Loc) (ls : Array Slot) (h : w_X5_readNumber_39 post G S x0) (hT : cs_T P s A S H locs) (hl : lv_has ls 4 [(0, .ref x0)]) : W p l e rm_X5_readNumber s m args below meth c H locs 0 0 (MQ below (cs_Qi P A post) args s 0 0 A) (F0 m 39 ls []) := by
  obtain ⟨hx, hb, hml, hown, hK, -, -⟩ := id hC
  refine lv_aload_n (x := x0) hx hb dX5_readNumber_39 rfl (lv_at hl 0 rfl) ?_
  refine lv_iconst (v := 3) hx hb dX5_readNumber_40 (by decide) ?_
  obtain ⟨hk12_, h⟩ := h
  refine cs_callv0 (cs_runV hx hb hml hown hK hO hT 6 hk12_ (by decide) rfl (c_X5_fail h) rfl rfl klX5_46 ki_X5_fail ks_X5_fail kn_X5 kc_X5_fail 1 ⟨rfl, by decide, by decide, by decide +kernel⟩ ⟨by decide, by decide⟩ rfl hl.1 rfl (hw_cat8 (Nat.le_of_ble_eq_true rfl)) ⟨(Nat.le_refl _), (Nat.le_refl _)⟩ dX5_readNumber_41) hT (fun S11 H locs h_ hT_ => ?_)
  replace h := h_
  replace hT := hT_
  refine lv_iconst (v := 0) hx hb dX5_readNumber_44 (by decide) ?_
  exact cs_iret hC hT h dX5_readNumber_45 (Nat.le_refl _) (Nat.le_refl _)
end
def wp_X5_readNumber (post : Int32 → cs_S → Prop) (G : Nat → Nat) (S : cs_S) (o : Nat) (p1 : Int32) (p2 : Int32) : Prop := cs_k S o = 7 ∧ ((cs_i S 606 o) = 3 → ∀ r14, r14 = cs_r S 604 o → ∃ b15, r14 = some b15 ∧ cs_k S b15 = 10 ∧ ∀ r17, r17 = cs_r S 902 b15 → ∃ b18, r17 = some b18 ∧ cs_k S b18 = 21 ∧ vp_in (cs_i S 605 o) (cs_n S b18) ∧ (((cs_al S b18 (cs_i S 605 o).toNatClampNeg).toInt32) < p1 → w_X5_readNumber_39 post G S o) ∧ (¬ ((cs_al S b18 (cs_i S 605 o).toNatClampNeg).toInt32) < p1 → (((cs_al S b18 (cs_i S 605 o).toNatClampNeg).toInt32) ≤ p2 → wp_X5_step (fun S20 => post ((cs_al S b18 (cs_i S 605 o).toNatClampNeg).toInt32) S20) G S o) ∧ (¬ ((cs_al S b18 (cs_i S 605 o).toNatClampNeg).toInt32) ≤ p2 → w_X5_readNumber_39 post G S o))) ∧ (¬ (cs_i S 606 o) = 3 → wp_X5_fail (fun S21 => post 0 S21) G S o 2)
set_option maxRecDepth 100000 in
set_option maxHeartbeats 4000000 in
theorem c_X5_readNumber {l : Launch} {P : hw_G} {G : Nat → Nat} {S : cs_S} {sz : Nat} {o : Nat} {p1 : Int32} {p2 : Int32} {post : Int32 → cs_S → Prop} (h : wp_X5_readNumber post G S o p1 p2) : Met l yX5_readNumber [Cond.code yX5_readNumber cX5_readNumber 4 (some .int)] rm_X5_readNumber (cs_Pc P G S sz [.ref o, .int p1, .int p2]) (cs_Qi P (cs_A S sz) post) 0 0 (cs_A S sz) := by
  refine cs_met (by decide) rfl (Nat.le_of_ble_eq_true rfl) ?_
  intro p e s m below meth c ls hC hin hO hT hl
  obtain ⟨hx, hb, hml, hown, hK, -, -⟩ := id hC
  replace hl : lv_has ls 4 [(0, .ref o), (1, .int p1), (2, .int p2)] := hl
  refine lv_aload_n (x := o) hx hb dX5_readNumber_0 rfl (lv_at hl 0 rfl) ?_
  obtain ⟨hk13_, h⟩ := h
  refine cs_get hx hb hK hT hown 6 hk13_ (by decide) rfl 6 (by decide) kfX5_27 (v := .int (cs_i S 606 o)) rfl dX5_readNumber_1 ?_
  refine lv_iconst (v := 3) hx hb dX5_readNumber_4 (by decide) ?_
  refine lv_icmp_eq (tgt := 15) hx hb dX5_readNumber_5 (by decide) (fun hc => ?_) (fun hc => ?_)
  · replace h := h.1 hc
    refine lv_aload_n (x := o) hx hb dX5_readNumber_15 rfl (lv_at hl 0 rfl) ?_
    refine cs_get hx hb hK hT hown 6 hk13_ (by decide) rfl 4 (by decide) kfX5_9 (v := va_rf (cs_r S 604 o)) rfl dX5_readNumber_16 ?_
    refine hw_topr (fun r14 er14 => ?_)
    replace h := h r14 er14
    obtain ⟨b15, rfl, h⟩ := h
    obtain ⟨hk16_, h⟩ := h
    refine cs_get hx hb hK hT hown 9 hk16_ (by decide) rfl 2 (by decide) kfX5_87 (v := va_rf (cs_r S 902 b15)) rfl dX5_readNumber_19 ?_
    refine hw_topr (fun r17 er17 => ?_)
    replace h := h r17 er17
    refine lv_aload_n (x := o) hx hb dX5_readNumber_22 rfl (lv_at hl 0 rfl) ?_
    refine cs_get hx hb hK hT hown 6 hk13_ (by decide) rfl 5 (by decide) kfX5_34 (v := .int (cs_i S 605 o)) rfl dX5_readNumber_23 ?_
    obtain ⟨b18, rfl, h⟩ := h
    obtain ⟨hk19_, h⟩ := h
    obtain ⟨hi, h⟩ := h
    refine cs_lald hx hb hK hT hk19_ hi dX5_readNumber_26 ?_
    refine lv_l2i (v := (cs_al S b18 (cs_i S 605 o).toNatClampNeg).toInt32) hx hb dX5_readNumber_27 rfl ?_
    refine lv_istore_n (lv' := [(3, _), (0, _), (1, _), (2, _)]) hx hb dX5_readNumber_28 rfl hl (by decide) rfl (fun ls hl_ => ?_)
    replace hl := hl_
    refine lv_iload_n hx hb dX5_readNumber_29 rfl (lv_at hl 0 rfl) ?_
    refine lv_iload_n hx hb dX5_readNumber_30 rfl (lv_at hl 2 rfl) ?_
    refine lv_icmp_lt (tgt := 39) hx hb dX5_readNumber_31 (by decide) (fun hc => ?_) (fun hc => ?_)
    · replace h := h.1 hc
      exact t_X5_readNumber_39 hC hin hO S o _ _ _ h hT (lv_sub hl [1] rfl)
    · replace h := h.2 hc
      refine lv_iload_n hx hb dX5_readNumber_34 rfl (lv_at hl 0 rfl) ?_
      refine lv_iload_n hx hb dX5_readNumber_35 rfl (lv_at hl 3 rfl) ?_
      refine lv_icmp_le (tgt := 46) hx hb dX5_readNumber_36 (by decide) (fun hc => ?_) (fun hc => ?_)
      · replace h := h.1 hc
        refine lv_aload_n (x := o) hx hb dX5_readNumber_46 rfl (lv_at hl 1 rfl) ?_
        refine cs_callv0 (cs_runV hx hb hml hown hK hO hT 6 hk13_ (by decide) rfl (c_X5_step h) rfl rfl klX5_43 ki_X5_step ks_X5_step kn_X5 kc_X5_step 0 ⟨rfl, by decide, by decide, by decide +kernel⟩ ⟨by decide, by decide⟩ rfl hl.1 rfl (hw_cat8 (Nat.le_of_ble_eq_true rfl)) ⟨(Nat.le_refl _), (Nat.le_refl _)⟩ dX5_readNumber_47) hT (fun S20 H locs h_ hT_ => ?_)
        replace h := h_
        replace hT := hT_
        refine lv_iload_n hx hb dX5_readNumber_50 rfl (lv_at hl 0 rfl) ?_
        exact cs_iret hC hT h dX5_readNumber_51 (Nat.le_refl _) (Nat.le_refl _)
      · replace h := h.2 hc
        exact t_X5_readNumber_39 hC hin hO S o _ _ _ h hT (lv_sub hl [1] rfl)
  · replace h := h.2 hc
    refine lv_aload_n (x := o) hx hb dX5_readNumber_8 rfl (lv_at hl 0 rfl) ?_
    refine lv_iconst (v := 2) hx hb dX5_readNumber_9 (by decide) ?_
    refine cs_callv0 (cs_runV hx hb hml hown hK hO hT 6 hk13_ (by decide) rfl (c_X5_fail h) rfl rfl klX5_46 ki_X5_fail ks_X5_fail kn_X5 kc_X5_fail 1 ⟨rfl, by decide, by decide, by decide +kernel⟩ ⟨by decide, by decide⟩ rfl hl.1 rfl (hw_cat8 (Nat.le_of_ble_eq_true rfl)) ⟨(Nat.le_refl _), (Nat.le_refl _)⟩ dX5_readNumber_10) hT (fun S21 H locs h_ hT_ => ?_)
    replace h := h_
    replace hT := hT_
    refine lv_iconst (v := 0) hx hb dX5_readNumber_13 (by decide) ?_
    exact cs_iret hC hT h dX5_readNumber_14 (Nat.le_refl _) (Nat.le_refl _)
/-! X7_makeBuckets -/
abbrev rm_X7_makeBuckets (mc ms : Nat) : Room := { frames := 0, cells := mc, slots := ms, locals := 0 }
def w_X7_makeBuckets_24 (post : cs_S → Prop) (G : Nat → Nat) (mc ms : Nat) (S : cs_S) (u v : Nat) (y0 : Option Nat) (y1 : Int32) : Prop := u ≤ mc ∧ v ≤ ms ∧ ¬ y1 < 0 ∧ y1.toNatClampNeg * 4 ≤ 536870912 ∧ u + 1 ≤ mc ∧ v + y1.toNatClampNeg ≤ ms ∧ ∀ q6, cs_k S q6 = 0 → ∀ S7, S7 = cs_newA S q6 25 y1.toNatClampNeg → ∃ b8, y0 = some b8 ∧ cs_k S7 b8 = 9 ∧ ∀ S10, S10 = cs_ur S7 816 b8 (some q6) → post S10
section
variable {p : Program} {l : Launch} {e : Env} {s : State} {m : MethodId} {args : Array Value} {below : List Frame} {meth : Method} {c : Code} {P : hw_G} {G : Nat → Nat} {A : Nat → Prop}
set_option maxRecDepth 100000 in
set_option maxHeartbeats 4000000 in
theorem t_X7_makeBuckets_24 {post : cs_S → Prop} {mc ms : Nat} (hC : rf_C P RX7 p s m meth c cX7_makeBuckets 1 none) (hin : meth.name = yX7_makeBuckets.name) (hO : cs_O G A s s.heap) (S : cs_S) (u v : Nat) (y0 : Option Nat) (y1 : Int32) (H : Heap) (locs : List Loc) (ls : Array Slot) (h : w_X7_makeBuckets_24 post G mc ms S u v y0 y1) (hT : cs_T P s A S H locs) (hl : lv_has ls 1 []) : W p l e (rm_X7_makeBuckets mc ms) s m args below meth c H locs u v (MQ below (cs_Qv P A post) args s mc ms A) (F0 m 24 ls [.int y1, va_rf y0]) := by
  obtain ⟨hx, hb, hml, hown, hK, -, -⟩ := id hC
  obtain ⟨hu, hv, h⟩ := h
  obtain ⟨hn1, hn2, hu6, hv6, h⟩ := h
  refine cs_anew hx hb hK hT hown 25 rfl kxX7_31 (by decide) (by decide) (by decide) hn1 hn2 hu6 hv6 dX7_makeBuckets_24 (fun q6 H hq6 hT_ => ?_)
  replace h := h q6 hq6
  replace hT := hT_
  obtain ⟨S7, eS7⟩ : ∃ z, z = cs_newA S q6 25 y1.toNatClampNeg := ⟨_, rfl⟩
  rw [← eS7] at hT
  replace h := h S7 eS7
  obtain ⟨b8, rfl, h⟩ := h
  obtain ⟨hk9_, h⟩ := h
  refine cs_putr (x := (some q6)) hx hb hK hT hown 8 hk9_ (by decide) rfl 16 (by decide) kfX7_33 rfl (tyX7_ok 16 (by decide)) rfl 816 rfl dX7_makeBuckets_27 (fun H locs hT_ => ?_)
  replace hT := hT_
  obtain ⟨S10, eS10⟩ : ∃ z, z = cs_ur S7 816 b8 (some q6) := ⟨_, rfl⟩
  rw [← eS10] at hT
  replace h := h S10 eS10
  exact cs_vret hC hT h dX7_makeBuckets_30 hu6 hv6
end
def w_X7_makeBuckets_21 (post : cs_S → Prop) (G : Nat → Nat) (mc ms : Nat) (S : cs_S) (u v : Nat) (y0 : Option Nat) : Prop := u ≤ mc ∧ v ≤ ms ∧ w_X7_makeBuckets_24 post G mc ms S u v y0 128
section
variable {p : Program} {l : Launch} {e : Env} {s : State} {m : MethodId} {args : Array Value} {below : List Frame} {meth : Method} {c : Code} {P : hw_G} {G : Nat → Nat} {A : Nat → Prop}
set_option maxRecDepth 100000 in
set_option maxHeartbeats 4000000 in
theorem t_X7_makeBuckets_21 {post : cs_S → Prop} {mc ms : Nat} (hC : rf_C P RX7 p s m meth c cX7_makeBuckets 1 none) (hin : meth.name = yX7_makeBuckets.name) (hO : cs_O G A s s.heap) (S : cs_S) (u v : Nat) (y0 : Option Nat) (H : Heap) (locs : List Loc) (ls : Array Slot) (h : w_X7_makeBuckets_21 post G mc ms S u v y0) (hT : cs_T P s A S H locs) (hl : lv_has ls 1 []) : W p l e (rm_X7_makeBuckets mc ms) s m args below meth c H locs u v (MQ below (cs_Qv P A post) args s mc ms A) (F0 m 21 ls [va_rf y0]) := by
  obtain ⟨hx, hb, hml, hown, hK, -, -⟩ := id hC
  obtain ⟨hu, hv, h⟩ := h
  refine lv_sipush (v := 128) hx hb dX7_makeBuckets_21 (by decide) ?_
  exact t_X7_makeBuckets_24 hC hin hO S u v y0 128 _ _ _ h hT (lv_sub hl [] rfl)
end
def wp_X7_makeBuckets (post : cs_S → Prop) (G : Nat → Nat) (mc ms : Nat) (S : cs_S) (o : Nat) : Prop := cs_k S o = 9 ∧ (¬ (cs_i S 809 o) = 0 → w_X7_makeBuckets_21 post G mc ms S 0 0 (some o)) ∧ ((cs_i S 809 o) = 0 → ((cs_i S 802 o) = 26 → w_X7_makeBuckets_21 post G mc ms S 0 0 (some o)) ∧ (¬ (cs_i S 802 o) = 26 → w_X7_makeBuckets_24 post G mc ms S 0 0 (some o) 1))
set_option maxRecDepth 100000 in
set_option maxHeartbeats 4000000 in
theorem c_X7_makeBuckets {l : Launch} {P : hw_G} {G : Nat → Nat} {S : cs_S} {sz : Nat} {mc ms : Nat} {o : Nat} {post : cs_S → Prop} (h : wp_X7_makeBuckets post G mc ms S o) : Met l yX7_makeBuckets [Cond.code yX7_makeBuckets cX7_makeBuckets 1 none] (rm_X7_makeBuckets mc ms) (cs_Pc P G S sz [.ref o]) (cs_Qv P (cs_A S sz) post) mc ms (cs_A S sz) := by
  refine cs_met (by decide) rfl (Nat.le_of_ble_eq_true rfl) ?_
  intro p e s m below meth c ls hC hin hO hT hl
  obtain ⟨hx, hb, hml, hown, hK, -, -⟩ := id hC
  replace hl : lv_has ls 1 [(0, .ref o)] := hl
  refine lv_aload_n (x := o) hx hb dX7_makeBuckets_0 rfl (lv_at hl 0 rfl) ?_
  refine lv_aload_n (x := o) hx hb dX7_makeBuckets_1 rfl (lv_at hl 0 rfl) ?_
  obtain ⟨hk11_, h⟩ := h
  refine cs_get hx hb hK hT hown 8 hk11_ (by decide) rfl 9 (by decide) kfX7_37 (v := .int (cs_i S 809 o)) rfl dX7_makeBuckets_2 ?_
  refine lv_if_ne (tgt := 21) hx hb dX7_makeBuckets_5 (by decide) (fun hc => ?_) (fun hc => ?_)
  · replace h := h.1 hc
    exact t_X7_makeBuckets_21 hC hin hO S 0 0 (some o) _ _ _ h hT (lv_sub hl [] rfl)
  · replace h := h.2 hc
    refine lv_aload_n (x := o) hx hb dX7_makeBuckets_8 rfl (lv_at hl 0 rfl) ?_
    refine cs_get hx hb hK hT hown 8 hk11_ (by decide) rfl 2 (by decide) kfX7_43 (v := .int (cs_i S 802 o)) rfl dX7_makeBuckets_9 ?_
    refine lv_bipush (v := 26) hx hb dX7_makeBuckets_12 (by decide) ?_
    refine lv_icmp_eq (tgt := 21) hx hb dX7_makeBuckets_14 (by decide) (fun hc => ?_) (fun hc => ?_)
    · replace h := h.1 hc
      exact t_X7_makeBuckets_21 hC hin hO S 0 0 (some o) _ _ _ h hT (lv_sub hl [] rfl)
    · replace h := h.2 hc
      refine lv_iconst (v := 1) hx hb dX7_makeBuckets_17 (by decide) ?_
      refine lv_goto (tgt := 24) hx hb dX7_makeBuckets_18 (by decide) ?_
      exact t_X7_makeBuckets_24 hC hin hO S 0 0 (some o) 1 _ _ _ h hT (lv_sub hl [] rfl)
/-! X5_readRule -/
abbrev rm_X5_readRule (mc ms : Nat) : Room := { frames := 3, cells := mc, slots := ms, locals := 63 }
def wp_X5_readRule (post : cs_S → Prop) (G : Nat → Nat) (mc ms : Nat) (S : cs_S) (o : Nat) : Prop := cs_k S o = 7 ∧ ((cs_i S 606 o) = 20 → ∀ r17, r17 = cs_r S 600 o → ∃ b18, r17 = some b18 ∧ cs_k S b18 = 22 ∧ ((cs_i S 601 o) < (Int32.ofNat (cs_n S b18)) → wp_X5_step (fun S20 => 0 + 1 ≤ mc ∧ 0 + 18 ≤ ms ∧ ∀ q21, cs_k S20 q21 = 0 → ∀ S22, S22 = cs_new S20 q21 8 → cs_k S22 o = 7 ∧ ∃ m24 n24, 0 + 1 + m24 ≤ mc ∧ 0 + 18 + n24 ≤ ms ∧ wp_X7_init (fun S24 => cs_k S24 o = 7 ∧ wp_X5_readNewName (fun r25 S25 => cs_k S25 q21 = 9 ∧ ∀ S28, S28 = cs_ul S25 801 q21 r25 → False) G S24 o) G m24 n24 S22 q21 (cs_i S22 601 o)) G S o) ∧ (¬ (cs_i S 601 o) < (Int32.ofNat (cs_n S b18)) → wp_X5_fail (fun S29 => post S29) G S o 4)) ∧ (¬ (cs_i S 606 o) = 20 → wp_X5_fail (fun S30 => post S30) G S o 2)
set_option maxRecDepth 100000 in
set_option maxHeartbeats 4000000 in
theorem c_X5_readRule {l : Launch} {P : hw_G} {G : Nat → Nat} {S : cs_S} {sz : Nat} {mc ms : Nat} {o : Nat} {post : cs_S → Prop} (h : wp_X5_readRule post G mc ms S o) : Met l yX5_readRule [Cond.code yX5_readRule cX5_readRule 2 none] (rm_X5_readRule mc ms) (cs_Pc P G S sz [.ref o]) (cs_Qv P (cs_A S sz) post) mc ms (cs_A S sz) := by
  refine cs_met (by decide) rfl (Nat.le_of_ble_eq_true rfl) ?_
  intro p e s m below meth c ls hC hin hO hT hl
  obtain ⟨hx, hb, hml, hown, hK, -, -⟩ := id hC
  replace hl : lv_has ls 2 [(0, .ref o)] := hl
  refine lv_aload_n (x := o) hx hb dX5_readRule_0 rfl (lv_at hl 0 rfl) ?_
  obtain ⟨hk16_, h⟩ := h
  refine cs_get hx hb hK hT hown 6 hk16_ (by decide) rfl 6 (by decide) kfX5_27 (v := .int (cs_i S 606 o)) rfl dX5_readRule_1 ?_
  refine lv_bipush (v := 20) hx hb dX5_readRule_4 (by decide) ?_
  refine lv_icmp_eq (tgt := 15) hx hb dX5_readRule_6 (by decide) (fun hc => ?_) (fun hc => ?_)
  · replace h := h.1 hc
    refine lv_aload_n (x := o) hx hb dX5_readRule_15 rfl (lv_at hl 0 rfl) ?_
    refine cs_get hx hb hK hT hown 6 hk16_ (by decide) rfl 1 (by decide) kfX5_50 (v := .int (cs_i S 601 o)) rfl dX5_readRule_16 ?_
    refine lv_aload_n (x := o) hx hb dX5_readRule_19 rfl (lv_at hl 0 rfl) ?_
    refine cs_get hx hb hK hT hown 6 hk16_ (by decide) rfl 0 (by decide) kfX5_17 (v := va_rf (cs_r S 600 o)) rfl dX5_readRule_20 ?_
    refine hw_topr (fun r17 er17 => ?_)
    replace h := h r17 er17
    obtain ⟨b18, rfl, h⟩ := h
    obtain ⟨hk19_, h⟩ := h
    refine cs_alen hx hb hK hT 22 hk19_ (by decide) (by decide) dX5_readRule_23 ?_
    refine lv_icmp_lt (tgt := 33) hx hb dX5_readRule_24 (by decide) (fun hc => ?_) (fun hc => ?_)
    · replace h := h.1 hc
      refine lv_aload_n (x := o) hx hb dX5_readRule_33 rfl (lv_at hl 0 rfl) ?_
      refine cs_callv0 (cs_runV hx hb hml hown hK hO hT 6 hk16_ (by decide) rfl (c_X5_step h) rfl rfl klX5_43 ki_X5_step ks_X5_step kn_X5 kc_X5_step 0 ⟨rfl, by decide, by decide, by decide +kernel⟩ ⟨Nat.le_of_ble_eq_true rfl, Nat.le_of_ble_eq_true rfl⟩ rfl hl.1 rfl (hw_cat8 (Nat.le_of_ble_eq_true rfl)) ⟨(Nat.zero_le _), (Nat.zero_le _)⟩ dX5_readRule_34) hT (fun S20 H locs h_ hT_ => ?_)
      replace h := h_
      replace hT := hT_
      obtain ⟨hu21, hv21, h⟩ := h
      refine cs_newo hx hb hK hT hown 8 (by decide) rfl tyX7_ok cs_df8 kxX5_15 kj_X7 kn_X7 hu21 hv21 dX5_readRule_37 (fun q21 H hq21 hT_ => ?_)
      replace h := h q21 hq21
      replace hT := hT_
      obtain ⟨S22, eS22⟩ : ∃ z, z = cs_new S20 q21 8 := ⟨_, rfl⟩
      rw [← eS22] at hT
      replace h := h S22 eS22
      refine lv_dup hx hb dX5_readRule_40 rfl ?_
      refine lv_aload_n (x := o) hx hb dX5_readRule_41 rfl (lv_at hl 0 rfl) ?_
      obtain ⟨hk23_, h⟩ := h
      refine cs_get hx hb hK hT hown 6 hk23_ (by decide) rfl 1 (by decide) kfX5_50 (v := .int (cs_i S22 601 o)) rfl dX5_readRule_42 ?_
      obtain ⟨m24, n24, hu24, hv24, h⟩ := h
      refine cs_callv (cs_runI hx hb hml hown hK hO hT (c_X7_init h) rfl rfl klX5_53 ki_X7_init kn_X7 kc_X7_init rfl 1 ⟨by decide, by decide, by decide +kernel⟩ ⟨Nat.le_of_ble_eq_true rfl, Nat.le_of_ble_eq_true rfl⟩ rfl hl.1 rfl (hw_cat8 (Nat.le_of_ble_eq_true rfl)) ⟨hu24, hv24⟩ dX5_readRule_45) hT (fun S24 H locs h_ hT_ => ?_)
      replace h := h_
      replace hT := hT_
      refine lv_astore_n (lv' := [(1, _), (0, _)]) (x := q21) hx hb dX5_readRule_48 rfl hl (by decide) rfl (fun ls hl_ => ?_)
      replace hl := hl_
      refine lv_aload_n (x := q21) hx hb dX5_readRule_49 rfl (lv_at hl 0 rfl) ?_
      refine lv_aload_n (x := o) hx hb dX5_readRule_50 rfl (lv_at hl 1 rfl) ?_
      obtain ⟨hk26_, h⟩ := h
      refine cs_calll0 (cs_runV hx hb hml hown hK hO hT 6 hk26_ (by decide) rfl (c_X5_readNewName h) rfl rfl klX5_55 ki_X5_readNewName ks_X5_readNewName kn_X5 kc_X5_readNewName 0 ⟨rfl, by decide, by decide, by decide +kernel⟩ ⟨Nat.le_of_ble_eq_true rfl, Nat.le_of_ble_eq_true rfl⟩ rfl hl.1 rfl (hw_cat8 (Nat.le_of_ble_eq_true rfl)) ⟨hu24, hv24⟩ dX5_readRule_51) hT (fun r25 S25 H locs h_ hT_ => ?_)
      replace h := h_
      replace hT := hT_
      obtain ⟨hk27_, h⟩ := h
      refine cs_putl (x := r25) hx hb hK hT hown 8 hk27_ (by decide) rfl 1 (by decide) kfX5_59 rfl (tyX7_ok 1 (by decide)) rfl 801 rfl dX5_readRule_54 (fun H locs hT_ => ?_)
      replace hT := hT_
      obtain ⟨S28, eS28⟩ : ∃ z, z = cs_ul S25 801 q21 r25 := ⟨_, rfl⟩
      rw [← eS28] at hT
      replace h := h S28 eS28
      refine lv_aload_n (x := o) hx hb dX5_readRule_57 rfl (lv_at hl 1 rfl) ?_
      refine lv_aload_n (x := q21) hx hb dX5_readRule_58 rfl (lv_at hl 0 rfl) ?_
      exact h.elim
    · replace h := h.2 hc
      refine lv_aload_n (x := o) hx hb dX5_readRule_27 rfl (lv_at hl 0 rfl) ?_
      refine lv_iconst (v := 4) hx hb dX5_readRule_28 (by decide) ?_
      refine cs_callv0 (cs_runV hx hb hml hown hK hO hT 6 hk16_ (by decide) rfl (c_X5_fail h) rfl rfl klX5_46 ki_X5_fail ks_X5_fail kn_X5 kc_X5_fail 1 ⟨rfl, by decide, by decide, by decide +kernel⟩ ⟨Nat.le_of_ble_eq_true rfl, Nat.le_of_ble_eq_true rfl⟩ rfl hl.1 rfl (hw_cat8 (Nat.le_of_ble_eq_true rfl)) ⟨(Nat.zero_le _), (Nat.zero_le _)⟩ dX5_readRule_29) hT (fun S29 H locs h_ hT_ => ?_)
      replace h := h_
      replace hT := hT_
      exact cs_vret hC hT h dX5_readRule_32 (Nat.zero_le _) (Nat.zero_le _)
  · replace h := h.2 hc
    refine lv_aload_n (x := o) hx hb dX5_readRule_9 rfl (lv_at hl 0 rfl) ?_
    refine lv_iconst (v := 2) hx hb dX5_readRule_10 (by decide) ?_
    refine cs_callv0 (cs_runV hx hb hml hown hK hO hT 6 hk16_ (by decide) rfl (c_X5_fail h) rfl rfl klX5_46 ki_X5_fail ks_X5_fail kn_X5 kc_X5_fail 1 ⟨rfl, by decide, by decide, by decide +kernel⟩ ⟨Nat.le_of_ble_eq_true rfl, Nat.le_of_ble_eq_true rfl⟩ rfl hl.1 rfl (hw_cat8 (Nat.le_of_ble_eq_true rfl)) ⟨(Nat.zero_le _), (Nat.zero_le _)⟩ dX5_readRule_11) hT (fun S30 H locs h_ hT_ => ?_)
    replace h := h_
    replace hT := hT_
    exact cs_vret hC hT h dX5_readRule_14 (Nat.zero_le _) (Nat.zero_le _)
/-! X5_readWordTest -/
abbrev rm_X5_readWordTest (mc ms : Nat) : Room := { frames := 2, cells := mc, slots := ms, locals := 49 }
def w_X5_readWordTest_101 (post : Option Nat → cs_S → Prop) (G : Nat → Nat) (mc ms : Nat) (S : cs_S) (u v : Nat) (x0 : Nat) (x1 : Int32) (x2 : Int64) (x4 : Int32) : Prop := u ≤ mc ∧ v ≤ ms ∧ cs_k S x0 = 7 ∧ wp_X5_readName (fun r23 S23 => u + 1 ≤ mc ∧ v + 7 ≤ ms ∧ ∀ q25, cs_k S23 q25 = 0 → ∀ S26, S26 = cs_new S23 q25 2 → wp_X1_init (fun S27 => post (some q25) S27) G S26 q25 x1 x2 x4 none) G S x0
section
variable {p : Program} {l : Launch} {e : Env} {s : State} {m : MethodId} {args : Array Value} {below : List Frame} {meth : Method} {c : Code} {P : hw_G} {G : Nat → Nat} {A : Nat → Prop}
set_option maxRecDepth 100000 in
set_option maxHeartbeats 4000000 in
theorem t_X5_readWordTest_101 {post : Option Nat → cs_S → Prop} {mc ms : Nat} (hC : rf_C P RX5 p s m meth c cX5_readWordTest 5 (some (.object "WatchHouse$Cond"))) (hin : meth.name = yX5_readWordTest.name) (hO : cs_O G A s s.heap) (S : cs_S) (u v : Nat) (x0 : Nat) (x1 : Int32) (x2 : Int64) (x4 : Int32) (H : Heap) (locs : List Loc) (ls : Array Slot) (h : w_X5_readWordTest_101 post G mc ms S u v x0 x1 x2 x4) (hT : cs_T P s A S H locs) (hl : lv_has ls 5 [(0, .ref x0), (1, .int x1), (2, .long x2), (4, .int x4)]) : W p l e (rm_X5_readWordTest mc ms) s m args below meth c H locs u v (MQ below (cs_Qr P A post) args s mc ms A) (F0 m 101 ls []) := by
  obtain ⟨hx, hb, hml, hown, hK, -, -⟩ := id hC
  obtain ⟨hu, hv, h⟩ := h
  refine lv_aload_n (x := x0) hx hb dX5_readWordTest_101 rfl (lv_at hl 0 rfl) ?_
  obtain ⟨hk24_, h⟩ := h
  refine cs_calll0 (cs_runV hx hb hml hown hK hO hT 6 hk24_ (by decide) rfl (c_X5_readName h) rfl rfl klX5_95 ki_X5_readName ks_X5_readName kn_X5 kc_X5_readName 0 ⟨rfl, by decide, by decide, by decide +kernel⟩ ⟨Nat.le_of_ble_eq_true rfl, Nat.le_of_ble_eq_true rfl⟩ rfl hl.1 rfl (hw_cat8 (Nat.le_of_ble_eq_true rfl)) ⟨hu, hv⟩ dX5_readWordTest_102) hT (fun r23 S23 H locs h_ hT_ => ?_)
  replace h := h_
  replace hT := hT_
  refine lv_pop2_2 hx hb dX5_readWordTest_105 rfl ?_
  obtain ⟨hu25, hv25, h⟩ := h
  refine cs_newo hx hb hK hT hown 2 (by decide) rfl tyX1_ok cs_df2 kxX5_131 kj_X1 kn_X1 hu25 hv25 dX5_readWordTest_106 (fun q25 H hq25 hT_ => ?_)
  replace h := h q25 hq25
  replace hT := hT_
  obtain ⟨S26, eS26⟩ : ∃ z, z = cs_new S23 q25 2 := ⟨_, rfl⟩
  rw [← eS26] at hT
  replace h := h S26 eS26
  refine lv_dup hx hb dX5_readWordTest_109 rfl ?_
  refine lv_iload_n hx hb dX5_readWordTest_110 rfl (lv_at hl 1 rfl) ?_
  refine lv_lload_n hx hb dX5_readWordTest_111 rfl (lv_at hl 2 rfl) ?_
  refine lv_iload hx hb dX5_readWordTest_112 (lv_at hl 3 rfl) ?_
  refine hw_null hx hb dX5_readWordTest_114 ?_
  refine cs_callv0 (cs_runI hx hb hml hown hK hO hT (c_X1_init h) rfl rfl klX5_133 ki_X1_init kn_X1 kc_X1_init rfl 4 ⟨by decide, by decide, by decide +kernel⟩ ⟨Nat.le_of_ble_eq_true rfl, Nat.le_of_ble_eq_true rfl⟩ rfl hl.1 rfl (hw_cat8 (Nat.le_of_ble_eq_true rfl)) ⟨hu25, hv25⟩ dX5_readWordTest_115) hT (fun S27 H locs h_ hT_ => ?_)
  replace h := h_
  replace hT := hT_
  exact cs_aret (v := (some q25)) hC (Or.inl ⟨_, rfl⟩) hT h dX5_readWordTest_118 hu25 hv25
end
def w_X5_readWordTest_69 (post : Option Nat → cs_S → Prop) (G : Nat → Nat) (mc ms : Nat) (S : cs_S) (u v : Nat) (x0 : Nat) (x1 : Int32) (x2 : Int64) (x4 : Int32) : Prop := u ≤ mc ∧ v ≤ ms ∧ (¬ x1 = 37 → w_X5_readWordTest_101 post G mc ms S u v x0 x1 x2 x4) ∧ (x1 = 37 → cs_k S x0 = 7 ∧ (¬ (cs_i S 606 x0) = 2 → w_X5_readWordTest_101 post G mc ms S u v x0 x1 x2 x4) ∧ ((cs_i S 606 x0) = 2 → wp_X5_ruleNamed (fun r29 S29 => (¬ r29 = ((-1)) → w_X5_readWordTest_101 post G mc ms S29 u v x0 x1 x2 r29) ∧ (r29 = ((-1)) → cs_k S29 x0 = 7 ∧ wp_X5_fail (fun S30 => w_X5_readWordTest_101 post G mc ms S30 u v x0 x1 x2 r29) G S29 x0 5)) G S x0 x2))
section
variable {p : Program} {l : Launch} {e : Env} {s : State} {m : MethodId} {args : Array Value} {below : List Frame} {meth : Method} {c : Code} {P : hw_G} {G : Nat → Nat} {A : Nat → Prop}
set_option maxRecDepth 100000 in
set_option maxHeartbeats 4000000 in
theorem t_X5_readWordTest_69 {post : Option Nat → cs_S → Prop} {mc ms : Nat} (hC : rf_C P RX5 p s m meth c cX5_readWordTest 5 (some (.object "WatchHouse$Cond"))) (hin : meth.name = yX5_readWordTest.name) (hO : cs_O G A s s.heap) (S : cs_S) (u v : Nat) (x0 : Nat) (x1 : Int32) (x2 : Int64) (x4 : Int32) (H : Heap) (locs : List Loc) (ls : Array Slot) (h : w_X5_readWordTest_69 post G mc ms S u v x0 x1 x2 x4) (hT : cs_T P s A S H locs) (hl : lv_has ls 5 [(0, .ref x0), (1, .int x1), (2, .long x2), (4, .int x4)]) : W p l e (rm_X5_readWordTest mc ms) s m args below meth c H locs u v (MQ below (cs_Qr P A post) args s mc ms A) (F0 m 69 ls []) := by
  obtain ⟨hx, hb, hml, hown, hK, -, -⟩ := id hC
  obtain ⟨hu, hv, h⟩ := h
  refine lv_iload_n hx hb dX5_readWordTest_69 rfl (lv_at hl 1 rfl) ?_
  refine lv_bipush (v := 37) hx hb dX5_readWordTest_70 (by decide) ?_
  refine lv_icmp_ne (tgt := 101) hx hb dX5_readWordTest_72 (by decide) (fun hc => ?_) (fun hc => ?_)
  · replace h := h.1 hc
    exact t_X5_readWordTest_101 hC hin hO S u v x0 x1 x2 x4 _ _ _ h hT (lv_sub hl [0, 1, 2, 3] rfl)
  · replace h := h.2 hc
    refine lv_aload_n (x := x0) hx hb dX5_readWordTest_75 rfl (lv_at hl 0 rfl) ?_
    obtain ⟨hk28_, h⟩ := h
    refine cs_get hx hb hK hT hown 6 hk28_ (by decide) rfl 6 (by decide) kfX5_27 (v := .int (cs_i S 606 x0)) rfl dX5_readWordTest_76 ?_
    refine lv_iconst (v := 2) hx hb dX5_readWordTest_79 (by decide) ?_
    refine lv_icmp_ne (tgt := 101) hx hb dX5_readWordTest_80 (by decide) (fun hc => ?_) (fun hc => ?_)
    · replace h := h.1 hc
      exact t_X5_readWordTest_101 hC hin hO S u v x0 x1 x2 x4 _ _ _ h hT (lv_sub hl [0, 1, 2, 3] rfl)
    · replace h := h.2 hc
      refine lv_aload_n (x := x0) hx hb dX5_readWordTest_83 rfl (lv_at hl 0 rfl) ?_
      refine lv_lload_n hx hb dX5_readWordTest_84 rfl (lv_at hl 2 rfl) ?_
      refine cs_calli0 (cs_runV hx hb hml hown hK hO hT 6 hk28_ (by decide) rfl (c_X5_ruleNamed h) rfl rfl klX5_91 ki_X5_ruleNamed ks_X5_ruleNamed kn_X5 kc_X5_ruleNamed 1 ⟨rfl, by decide, by decide, by decide +kernel⟩ ⟨Nat.le_of_ble_eq_true rfl, Nat.le_of_ble_eq_true rfl⟩ rfl hl.1 rfl (hw_cat8 (Nat.le_of_ble_eq_true rfl)) ⟨hu, hv⟩ dX5_readWordTest_85) hT (fun r29 S29 H locs h_ hT_ => ?_)
      replace h := h_
      replace hT := hT_
      refine lv_istore (lv' := [(4, _), (0, _), (1, _), (2, _)]) hx hb dX5_readWordTest_88 hl (by decide) rfl (fun ls hl_ => ?_)
      replace hl := hl_
      refine lv_iload hx hb dX5_readWordTest_90 (lv_at hl 0 rfl) ?_
      refine lv_iconst (v := (-1)) hx hb dX5_readWordTest_92 (by decide) ?_
      refine lv_icmp_ne (tgt := 101) hx hb dX5_readWordTest_93 (by decide) (fun hc => ?_) (fun hc => ?_)
      · replace h := h.1 hc
        exact t_X5_readWordTest_101 hC hin hO S29 u v x0 x1 x2 r29 _ _ _ h hT (lv_sub hl [1, 2, 3, 0] rfl)
      · replace h := h.2 hc
        refine lv_aload_n (x := x0) hx hb dX5_readWordTest_96 rfl (lv_at hl 1 rfl) ?_
        refine lv_iconst (v := 5) hx hb dX5_readWordTest_97 (by decide) ?_
        obtain ⟨hk31_, h⟩ := h
        refine cs_callv0 (cs_runV hx hb hml hown hK hO hT 6 hk31_ (by decide) rfl (c_X5_fail h) rfl rfl klX5_46 ki_X5_fail ks_X5_fail kn_X5 kc_X5_fail 1 ⟨rfl, by decide, by decide, by decide +kernel⟩ ⟨Nat.le_of_ble_eq_true rfl, Nat.le_of_ble_eq_true rfl⟩ rfl hl.1 rfl (hw_cat8 (Nat.le_of_ble_eq_true rfl)) ⟨hu, hv⟩ dX5_readWordTest_98) hT (fun S30 H locs h_ hT_ => ?_)
        replace h := h_
        replace hT := hT_
        exact t_X5_readWordTest_101 hC hin hO S30 u v x0 x1 x2 r29 _ _ _ h hT (lv_sub hl [1, 2, 3, 0] rfl)
end
def w_X5_readWordTest_21 (post : Option Nat → cs_S → Prop) (G : Nat → Nat) (mc ms : Nat) (S : cs_S) (u v : Nat) (x0 : Nat) (x1 : Int32) : Prop := u ≤ mc ∧ v ≤ ms ∧ cs_k S x0 = 7 ∧ ∀ r33, r33 = cs_r S 604 x0 → ∃ b34, r33 = some b34 ∧ cs_k S b34 = 10 ∧ ∀ r36, r36 = cs_r S 902 b34 → ∃ b37, r36 = some b37 ∧ cs_k S b37 = 21 ∧ vp_in (cs_i S 605 x0) (cs_n S b37) ∧ (¬ x1 = 35 → w_X5_readWordTest_69 post G mc ms S u v x0 x1 (cs_al S b37 (cs_i S 605 x0).toNatClampNeg) ((-1))) ∧ (x1 = 35 → ((cs_i S 606 x0) < 20 → w_X5_readWordTest_69 post G mc ms S u v x0 x1 (cs_al S b37 (cs_i S 605 x0).toNatClampNeg) ((-1))) ∧ (¬ (cs_i S 606 x0) < 20 → wp_X5_step (fun S39 => u + 1 ≤ mc ∧ v + 7 ≤ ms ∧ ∀ q40, cs_k S39 q40 = 0 → ∀ S41, S41 = cs_new S39 q40 2 → wp_X1_init (fun S42 => post (some q40) S42) G S41 q40 x1 (cs_al S b37 (cs_i S 605 x0).toNatClampNeg) ((-1)) none) G S x0))
section
variable {p : Program} {l : Launch} {e : Env} {s : State} {m : MethodId} {args : Array Value} {below : List Frame} {meth : Method} {c : Code} {P : hw_G} {G : Nat → Nat} {A : Nat → Prop}
set_option maxRecDepth 100000 in
set_option maxHeartbeats 4000000 in
theorem t_X5_readWordTest_21 {post : Option Nat → cs_S → Prop} {mc ms : Nat} (hC : rf_C P RX5 p s m meth c cX5_readWordTest 5 (some (.object "WatchHouse$Cond"))) (hin : meth.name = yX5_readWordTest.name) (hO : cs_O G A s s.heap) (S : cs_S) (u v : Nat) (x0 : Nat) (x1 : Int32) (H : Heap) (locs : List Loc) (ls : Array Slot) (h : w_X5_readWordTest_21 post G mc ms S u v x0 x1) (hT : cs_T P s A S H locs) (hl : lv_has ls 5 [(0, .ref x0), (1, .int x1)]) : W p l e (rm_X5_readWordTest mc ms) s m args below meth c H locs u v (MQ below (cs_Qr P A post) args s mc ms A) (F0 m 21 ls []) := by
  obtain ⟨hx, hb, hml, hown, hK, -, -⟩ := id hC
  obtain ⟨hu, hv, h⟩ := h
  refine lv_aload_n (x := x0) hx hb dX5_readWordTest_21 rfl (lv_at hl 0 rfl) ?_
  obtain ⟨hk32_, h⟩ := h
  refine cs_get hx hb hK hT hown 6 hk32_ (by decide) rfl 4 (by decide) kfX5_9 (v := va_rf (cs_r S 604 x0)) rfl dX5_readWordTest_22 ?_
  refine hw_topr (fun r33 er33 => ?_)
  replace h := h r33 er33
  obtain ⟨b34, rfl, h⟩ := h
  obtain ⟨hk35_, h⟩ := h
  refine cs_get hx hb hK hT hown 9 hk35_ (by decide) rfl 2 (by decide) kfX5_87 (v := va_rf (cs_r S 902 b34)) rfl dX5_readWordTest_25 ?_
  refine hw_topr (fun r36 er36 => ?_)
  replace h := h r36 er36
  refine lv_aload_n (x := x0) hx hb dX5_readWordTest_28 rfl (lv_at hl 0 rfl) ?_
  refine cs_get hx hb hK hT hown 6 hk32_ (by decide) rfl 5 (by decide) kfX5_34 (v := .int (cs_i S 605 x0)) rfl dX5_readWordTest_29 ?_
  obtain ⟨b37, rfl, h⟩ := h
  obtain ⟨hk38_, h⟩ := h
  obtain ⟨hi, h⟩ := h
  refine cs_lald hx hb hK hT hk38_ hi dX5_readWordTest_32 ?_
  refine lv_lstore_n (lv' := [(2, _), (0, _), (1, _)]) hx hb dX5_readWordTest_33 rfl hl (by decide) rfl (fun ls hl_ => ?_)
  replace hl := hl_
  refine lv_iconst (v := (-1)) hx hb dX5_readWordTest_34 (by decide) ?_
  refine lv_istore (lv' := [(4, _), (2, _), (0, _), (1, _)]) hx hb dX5_readWordTest_35 hl (by decide) rfl (fun ls hl_ => ?_)
  replace hl := hl_
  refine lv_iload_n hx hb dX5_readWordTest_37 rfl (lv_at hl 3 rfl) ?_
  refine lv_bipush (v := 35) hx hb dX5_readWordTest_38 (by decide) ?_
  refine lv_icmp_ne (tgt := 69) hx hb dX5_readWordTest_40 (by decide) (fun hc => ?_) (fun hc => ?_)
  · replace h := h.1 hc
    exact t_X5_readWordTest_69 hC hin hO S u v x0 x1 (cs_al S b37 (cs_i S 605 x0).toNatClampNeg) ((-1)) _ _ _ h hT (lv_sub hl [2, 3, 1, 0] rfl)
  · replace h := h.2 hc
    refine lv_aload_n (x := x0) hx hb dX5_readWordTest_43 rfl (lv_at hl 2 rfl) ?_
    refine cs_get hx hb hK hT hown 6 hk32_ (by decide) rfl 6 (by decide) kfX5_27 (v := .int (cs_i S 606 x0)) rfl dX5_readWordTest_44 ?_
    refine lv_bipush (v := 20) hx hb dX5_readWordTest_47 (by decide) ?_
    refine lv_icmp_lt (tgt := 69) hx hb dX5_readWordTest_49 (by decide) (fun hc => ?_) (fun hc => ?_)
    · replace h := h.1 hc
      exact t_X5_readWordTest_69 hC hin hO S u v x0 x1 (cs_al S b37 (cs_i S 605 x0).toNatClampNeg) ((-1)) _ _ _ h hT (lv_sub hl [2, 3, 1, 0] rfl)
    · replace h := h.2 hc
      refine lv_aload_n (x := x0) hx hb dX5_readWordTest_52 rfl (lv_at hl 2 rfl) ?_
      refine cs_callv0 (cs_runV hx hb hml hown hK hO hT 6 hk32_ (by decide) rfl (c_X5_step h) rfl rfl klX5_43 ki_X5_step ks_X5_step kn_X5 kc_X5_step 0 ⟨rfl, by decide, by decide, by decide +kernel⟩ ⟨Nat.le_of_ble_eq_true rfl, Nat.le_of_ble_eq_true rfl⟩ rfl hl.1 rfl (hw_cat8 (Nat.le_of_ble_eq_true rfl)) ⟨hu, hv⟩ dX5_readWordTest_53) hT (fun S39 H locs h_ hT_ => ?_)
      replace h := h_
      replace hT := hT_
      obtain ⟨hu40, hv40, h⟩ := h
      refine cs_newo hx hb hK hT hown 2 (by decide) rfl tyX1_ok cs_df2 kxX5_131 kj_X1 kn_X1 hu40 hv40 dX5_readWordTest_56 (fun q40 H hq40 hT_ => ?_)
      replace h := h q40 hq40
      replace hT := hT_
      obtain ⟨S41, eS41⟩ : ∃ z, z = cs_new S39 q40 2 := ⟨_, rfl⟩
      rw [← eS41] at hT
      replace h := h S41 eS41
      refine lv_dup hx hb dX5_readWordTest_59 rfl ?_
      refine lv_iload_n hx hb dX5_readWordTest_60 rfl (lv_at hl 3 rfl) ?_
      refine lv_lload_n hx hb dX5_readWordTest_61 rfl (lv_at hl 1 rfl) ?_
      refine lv_iload hx hb dX5_readWordTest_62 (lv_at hl 0 rfl) ?_
      refine hw_null hx hb dX5_readWordTest_64 ?_
      refine cs_callv0 (cs_runI hx hb hml hown hK hO hT (c_X1_init h) rfl rfl klX5_133 ki_X1_init kn_X1 kc_X1_init rfl 4 ⟨by decide, by decide, by decide +kernel⟩ ⟨Nat.le_of_ble_eq_true rfl, Nat.le_of_ble_eq_true rfl⟩ rfl hl.1 rfl (hw_cat8 (Nat.le_of_ble_eq_true rfl)) ⟨hu40, hv40⟩ dX5_readWordTest_65) hT (fun S42 H locs h_ hT_ => ?_)
      replace h := h_
      replace hT := hT_
      exact cs_aret (v := (some q40)) hC (Or.inl ⟨_, rfl⟩) hT h dX5_readWordTest_68 hu40 hv40
end
def wp_X5_readWordTest (post : Option Nat → cs_S → Prop) (G : Nat → Nat) (mc ms : Nat) (S : cs_S) (o : Nat) : Prop := cs_k S o = 7 ∧ wp_X5_step (fun S44 => (¬ (cs_i S 606 o) = 35 → w_X5_readWordTest_21 post G mc ms S44 0 0 o (cs_i S 606 o)) ∧ ((cs_i S 606 o) = 35 → cs_k S44 o = 7 ∧ wp_X5_skip (fun S45 => w_X5_readWordTest_21 post G mc ms S45 0 0 o (cs_i S 606 o)) G S44 o 11)) G S o
set_option maxRecDepth 100000 in
set_option maxHeartbeats 4000000 in
theorem c_X5_readWordTest {l : Launch} {P : hw_G} {G : Nat → Nat} {S : cs_S} {sz : Nat} {mc ms : Nat} {o : Nat} {post : Option Nat → cs_S → Prop} (h : wp_X5_readWordTest post G mc ms S o) : Met l yX5_readWordTest [Cond.code yX5_readWordTest cX5_readWordTest 5 (some (.object "WatchHouse$Cond"))] (rm_X5_readWordTest mc ms) (cs_Pc P G S sz [.ref o]) (cs_Qr P (cs_A S sz) post) mc ms (cs_A S sz) := by
  refine cs_met (by decide) rfl (Nat.le_of_ble_eq_true rfl) ?_
  intro p e s m below meth c ls hC hin hO hT hl
  obtain ⟨hx, hb, hml, hown, hK, -, -⟩ := id hC
  replace hl : lv_has ls 5 [(0, .ref o)] := hl
  refine lv_aload_n (x := o) hx hb dX5_readWordTest_0 rfl (lv_at hl 0 rfl) ?_
  obtain ⟨hk43_, h⟩ := h
  refine cs_get hx hb hK hT hown 6 hk43_ (by decide) rfl 6 (by decide) kfX5_27 (v := .int (cs_i S 606 o)) rfl dX5_readWordTest_1 ?_
  refine lv_istore_n (lv' := [(1, _), (0, _)]) hx hb dX5_readWordTest_4 rfl hl (by decide) rfl (fun ls hl_ => ?_)
  replace hl := hl_
  refine lv_aload_n (x := o) hx hb dX5_readWordTest_5 rfl (lv_at hl 1 rfl) ?_
  refine cs_callv0 (cs_runV hx hb hml hown hK hO hT 6 hk43_ (by decide) rfl (c_X5_step h) rfl rfl klX5_43 ki_X5_step ks_X5_step kn_X5 kc_X5_step 0 ⟨rfl, by decide, by decide, by decide +kernel⟩ ⟨Nat.le_of_ble_eq_true rfl, Nat.le_of_ble_eq_true rfl⟩ rfl hl.1 rfl (hw_cat8 (Nat.le_of_ble_eq_true rfl)) ⟨(Nat.zero_le _), (Nat.zero_le _)⟩ dX5_readWordTest_6) hT (fun S44 H locs h_ hT_ => ?_)
  replace h := h_
  replace hT := hT_
  refine lv_iload_n hx hb dX5_readWordTest_9 rfl (lv_at hl 0 rfl) ?_
  refine lv_bipush (v := 35) hx hb dX5_readWordTest_10 (by decide) ?_
  refine lv_icmp_ne (tgt := 21) hx hb dX5_readWordTest_12 (by decide) (fun hc => ?_) (fun hc => ?_)
  · replace h := h.1 hc
    exact t_X5_readWordTest_21 hC hin hO S44 0 0 o (cs_i S 606 o) _ _ _ h hT (lv_sub hl [1, 0] rfl)
  · replace h := h.2 hc
    refine lv_aload_n (x := o) hx hb dX5_readWordTest_15 rfl (lv_at hl 1 rfl) ?_
    refine lv_bipush (v := 11) hx hb dX5_readWordTest_16 (by decide) ?_
    obtain ⟨hk46_, h⟩ := h
    refine cs_callv0 (cs_runV hx hb hml hown hK hO hT 6 hk46_ (by decide) rfl (c_X5_skip h) rfl rfl klX5_70 ki_X5_skip ks_X5_skip kn_X5 kc_X5_skip 1 ⟨rfl, by decide, by decide, by decide +kernel⟩ ⟨Nat.le_of_ble_eq_true rfl, Nat.le_of_ble_eq_true rfl⟩ rfl hl.1 rfl (hw_cat8 (Nat.le_of_ble_eq_true rfl)) ⟨(Nat.zero_le _), (Nat.zero_le _)⟩ dX5_readWordTest_18) hT (fun S45 H locs h_ hT_ => ?_)
    replace h := h_
    replace hT := hT_
    exact t_X5_readWordTest_21 hC hin hO S45 0 0 o (cs_i S 606 o) _ _ _ h hT (lv_sub hl [1, 0] rfl)
/-! X9_init -/
abbrev rm_X9_init : Room := { frames := 1, cells := 0, slots := 0, locals := 24 }
def w_X9_init_38 (post : cs_S → Prop) (G : Nat → Nat) : Nat → cs_S → Nat → Int32 → Option Nat → Int32 → Int32 → Prop
  | 0, _, _, _, _, _, _ => False
  | n + 1, S, x0, x4, x5, x6, x7 => (x6 ≤ x7 → cs_k S x0 = 11 ∧ ∀ S12, S12 = cs_ui S 1003 x0 x4 → post S12) ∧ (¬ x6 ≤ x7 → ∃ b13, x5 = some b13 ∧ cs_k S b13 = 20 ∧ vp_in x7 (cs_n S b13) ∧ w_X9_init_38 post G n S x0 ((31 * x4) + (cs_ai S b13 x7.toNatClampNeg)) (some b13) x6 (x7 + 1))
section
variable {p : Program} {l : Launch} {e : Env} {s : State} {m : MethodId} {args : Array Value} {below : List Frame} {meth : Method} {c : Code} {P : hw_G} {G : Nat → Nat} {A : Nat → Prop}
set_option maxRecDepth 100000 in
set_option maxHeartbeats 4000000 in
theorem t_X9_init_38 {post : cs_S → Prop} (hC : rf_C P RX9 p s m meth c cX9_init 9 none) (hin : meth.name = yX9_init.name) (hO : cs_O G A s s.heap) : ∀ (n : Nat) (S : cs_S) (x0 : Nat) (x4 : Int32) (x5 : Option Nat) (x6 : Int32) (x7 : Int32) (H : Heap) (locs : List Loc) (ls : Array Slot), w_X9_init_38 post G n S x0 x4 x5 x6 x7 → cs_T P s A S H locs → lv_has ls 9 [(0, .ref x0), (4, .int x4), (5, va_rf x5), (6, .int x6), (7, .int x7)] → W p l e rm_X9_init s m args below meth c H locs 0 0 (MQ below (cs_Qv P A post) args s 0 0 A) (F0 m 38 ls []) := by
  obtain ⟨hx, hb, hml, hown, hK, -, -⟩ := id hC
  intro n
  induction n with
  | zero => intro S x0 x4 x5 x6 x7 H locs ls h; exact False.elim h
  | succ n ih =>
    intro S x0 x4 x5 x6 x7 H locs ls h hT hl
    refine lv_iload hx hb dX9_init_38 (lv_at hl 4 rfl) ?_
    refine lv_iload hx hb dX9_init_40 (lv_at hl 3 rfl) ?_
    refine lv_icmp_ge (tgt := 68) hx hb dX9_init_42 (by decide) (fun hc => ?_) (fun hc => ?_)
    · replace h := h.1 hc
      refine lv_aload_n (x := x0) hx hb dX9_init_68 rfl (lv_at hl 0 rfl) ?_
      refine lv_iload hx hb dX9_init_69 (lv_at hl 1 rfl) ?_
      obtain ⟨hk11_, h⟩ := h
      refine cs_putFi (x := x4) hx hb hK hT hown hin 10 hk11_ (by decide) rfl 3 (by decide) kfX9_22 rfl rfl (tyX9_ok 3 (by decide)) rfl 1003 rfl dX9_init_71 (fun H locs hT_ => ?_)
      replace hT := hT_
      obtain ⟨S12, eS12⟩ : ∃ z, z = cs_ui S 1003 x0 x4 := ⟨_, rfl⟩
      rw [← eS12] at hT
      replace h := h S12 eS12
      exact cs_vret hC hT h dX9_init_74 (Nat.le_refl _) (Nat.le_refl _)
    · replace h := h.2 hc
      refine hw_aload (x := x5) hx hb dX9_init_45 (lv_at hl 2 rfl) ?_
      refine lv_iload hx hb dX9_init_47 (lv_at hl 4 rfl) ?_
      obtain ⟨b13, rfl, h⟩ := h
      obtain ⟨hk14_, h⟩ := h
      obtain ⟨hi, h⟩ := h
      refine cs_iald hx hb hK hT hk14_ hi dX9_init_49 ?_
      refine lv_istore (lv' := [(8, _), (0, _), (4, _), (5, _), (6, _), (7, _)]) hx hb dX9_init_50 hl (by decide) rfl (fun ls hl_ => ?_)
      replace hl := hl_
      refine lv_bipush (v := 31) hx hb dX9_init_52 (by decide) ?_
      refine lv_iload hx hb dX9_init_54 (lv_at hl 2 rfl) ?_
      refine lv_imul hx hb dX9_init_56 ?_
      refine lv_iload hx hb dX9_init_57 (lv_at hl 0 rfl) ?_
      refine lv_iadd hx hb dX9_init_59 ?_
      refine lv_istore (lv' := [(4, _), (8, _), (0, _), (5, _), (6, _), (7, _)]) hx hb dX9_init_60 hl (by decide) rfl (fun ls hl_ => ?_)
      replace hl := hl_
      refine lv_iinc (v := x7 + 1) (lv' := [(7, _), (4, _), (8, _), (0, _), (5, _), (6, _)]) hx hb dX9_init_62 hl (k := 5) rfl rfl (by decide) rfl (fun ls hl_ => ?_)
      replace hl := hl_
      refine lv_goto (tgt := 38) hx hb dX9_init_65 (by decide) ?_
      exact ih S x0 ((31 * x4) + (cs_ai S b13 x7.toNatClampNeg)) (some b13) x6 (x7 + 1) _ _ _ h hT (lv_sub hl [3, 1, 4, 5, 0] rfl)
end
def wp_X9_init (post : cs_S → Prop) (G : Nat → Nat) (S : cs_S) (o : Nat) (p1 : Int32) (p2 : Int32) (p3 : Option Nat) : Prop := cs_k S o = 11 ∧ ∀ S16, S16 = cs_ui S 1000 o p1 → cs_k S16 o = 11 ∧ ∀ S18, S18 = cs_ui S16 1001 o p2 → cs_k S18 o = 11 ∧ ∀ S20, S20 = cs_ur S18 1002 o p3 → ∃ b21, p3 = some b21 ∧ cs_k S20 b21 = 20 ∧ ∃ n9, w_X9_init_38 post G n9 S20 o ((31 * p2) + p1) (some b21) (Int32.ofNat (cs_n S20 b21)) 0
set_option maxRecDepth 100000 in
set_option maxHeartbeats 4000000 in
theorem c_X9_init {l : Launch} {P : hw_G} {G : Nat → Nat} {S : cs_S} {sz : Nat} {o : Nat} {p1 : Int32} {p2 : Int32} {p3 : Option Nat} {post : cs_S → Prop} (h : wp_X9_init post G S o p1 p2 p3) : Met l yX9_init [Cond.code yX9_init cX9_init 9 none] rm_X9_init (cs_Pc P G S sz [.ref o, .int p1, .int p2, va_rf p3]) (cs_Qv P (cs_A S sz) post) 0 0 (cs_A S sz) := by
  refine cs_met (by decide) rfl (by cases p3 <;> exact Nat.le_of_ble_eq_true rfl) ?_
  intro p e s m below meth c ls hC hin hO hT hl
  obtain ⟨hx, hb, hml, hown, hK, -, -⟩ := id hC
  replace hl : lv_has ls 9 [(0, .ref o), (1, .int p1), (2, .int p2), (3, va_rf p3)] := by cases p3 <;> exact hl
  refine lv_aload_n (x := o) hx hb dX9_init_0 rfl (lv_at hl 0 rfl) ?_
  refine cs_objInit hx hb hml hown hK hl.1 klX9_3 ki_obj kc_obj dX9_init_1 (Nat.le_of_ble_eq_true rfl) (hw_catN (Nat.le_of_ble_eq_true rfl) (Nat.le_of_ble_eq_true rfl)) ?_
  refine lv_aload_n (x := o) hx hb dX9_init_4 rfl (lv_at hl 0 rfl) ?_
  refine lv_iload_n hx hb dX9_init_5 rfl (lv_at hl 1 rfl) ?_
  obtain ⟨hk15_, h⟩ := h
  refine cs_putFi (x := p1) hx hb hK hT hown hin 10 hk15_ (by decide) rfl 0 (by decide) kfX9_9 rfl rfl (tyX9_ok 0 (by decide)) rfl 1000 rfl dX9_init_6 (fun H locs hT_ => ?_)
  replace hT := hT_
  obtain ⟨S16, eS16⟩ : ∃ z, z = cs_ui S 1000 o p1 := ⟨_, rfl⟩
  rw [← eS16] at hT
  replace h := h S16 eS16
  refine lv_aload_n (x := o) hx hb dX9_init_9 rfl (lv_at hl 0 rfl) ?_
  refine lv_iload_n hx hb dX9_init_10 rfl (lv_at hl 2 rfl) ?_
  obtain ⟨hk17_, h⟩ := h
  refine cs_putFi (x := p2) hx hb hK hT hown hin 10 hk17_ (by decide) rfl 1 (by decide) kfX9_15 rfl rfl (tyX9_ok 1 (by decide)) rfl 1001 rfl dX9_init_11 (fun H locs hT_ => ?_)
  replace hT := hT_
  obtain ⟨S18, eS18⟩ : ∃ z, z = cs_ui S16 1001 o p2 := ⟨_, rfl⟩
  rw [← eS18] at hT
  replace h := h S18 eS18
  refine lv_aload_n (x := o) hx hb dX9_init_14 rfl (lv_at hl 0 rfl) ?_
  refine hw_aload_n (x := p3) hx hb dX9_init_15 rfl (lv_at hl 3 rfl) ?_
  obtain ⟨hk19_, h⟩ := h
  refine cs_putFr (x := p3) hx hb hK hT hown hin 10 hk19_ (by decide) rfl 2 (by decide) kfX9_18 rfl rfl (tyX9_ok 2 (by decide)) rfl 1002 rfl dX9_init_16 (fun H locs hT_ => ?_)
  replace hT := hT_
  obtain ⟨S20, eS20⟩ : ∃ z, z = cs_ur S18 1002 o p3 := ⟨_, rfl⟩
  rw [← eS20] at hT
  replace h := h S20 eS20
  refine lv_bipush (v := 31) hx hb dX9_init_19 (by decide) ?_
  refine lv_iload_n hx hb dX9_init_21 rfl (lv_at hl 2 rfl) ?_
  refine lv_imul hx hb dX9_init_22 ?_
  refine lv_iload_n hx hb dX9_init_23 rfl (lv_at hl 1 rfl) ?_
  refine lv_iadd hx hb dX9_init_24 ?_
  refine lv_istore (lv' := [(4, _), (0, _), (1, _), (2, _), (3, _)]) hx hb dX9_init_25 hl (by decide) (congrArg (List.cons _) ((hw_flt (fun q hq => by simp only [List.mem_cons, List.not_mem_nil, or_false] at hq; rcases hq with rfl | rfl | rfl | rfl <;> first | exact fun _ => rfl | exact fun _ => va_rf_cat _ | (intro h; simp at h))).trans rfl)) (fun ls hl_ => ?_)
  replace hl := hl_
  refine hw_aload_n (x := p3) hx hb dX9_init_27 rfl (lv_at hl 4 rfl) ?_
  refine hw_astore (lv' := [(5, _), (4, _), (0, _), (1, _), (2, _), (3, _)]) (x := p3) hx hb dX9_init_28 hl (by decide) rfl (fun ls hl_ => ?_)
  replace hl := hl_
  refine hw_aload (x := p3) hx hb dX9_init_30 (lv_at hl 0 rfl) ?_
  obtain ⟨b21, rfl, h⟩ := h
  obtain ⟨hk22_, h⟩ := h
  refine cs_alen hx hb hK hT 20 hk22_ (by decide) (by decide) dX9_init_32 ?_
  refine lv_istore (lv' := [(6, _), (5, _), (4, _), (0, _), (1, _), (2, _), (3, _)]) hx hb dX9_init_33 hl (by decide) rfl (fun ls hl_ => ?_)
  replace hl := hl_
  refine lv_iconst (v := 0) hx hb dX9_init_35 (by decide) ?_
  refine lv_istore (lv' := [(7, _), (6, _), (5, _), (4, _), (0, _), (1, _), (2, _), (3, _)]) hx hb dX9_init_36 hl (by decide) rfl (fun ls hl_ => ?_)
  replace hl := hl_
  obtain ⟨n9, h⟩ := h
  exact t_X9_init_38 hC hin hO n9 S20 o ((31 * p2) + p1) (some b21) (Int32.ofNat (cs_n S20 b21)) 0 _ _ _ h hT (lv_sub hl [4, 3, 2, 1, 0] rfl)
/-! X5_readValue -/
abbrev rm_X5_readValue (mc ms : Nat) : Room := { frames := 2, cells := mc, slots := ms, locals := 52 }
def w_X5_readValue_42 (post : Option Nat → cs_S → Prop) (G : Nat → Nat) (mc ms : Nat) (S : cs_S) (u v : Nat) (x0 : Nat) : Prop := u ≤ mc ∧ v ≤ ms ∧ cs_k S x0 = 7 ∧ wp_X5_fail (fun S37 => post none S37) G S x0 2
section
variable {p : Program} {l : Launch} {e : Env} {s : State} {m : MethodId} {args : Array Value} {below : List Frame} {meth : Method} {c : Code} {P : hw_G} {G : Nat → Nat} {A : Nat → Prop}
set_option maxRecDepth 100000 in
set_option maxHeartbeats 4000000 in
theorem t_X5_readValue_42 {post : Option Nat → cs_S → Prop} {mc ms : Nat} (hC : rf_C P RX5 p s m meth c cX5_readValue 8 (some (.object "WatchHouse$Value"))) (hin : meth.name = yX5_readValue.name) (hO : cs_O G A s s.heap) (S : cs_S) (u v : Nat) (x0 : Nat) (H : Heap) (locs : List Loc) (ls : Array Slot) (h : w_X5_readValue_42 post G mc ms S u v x0) (hT : cs_T P s A S H locs) (hl : lv_has ls 8 [(0, .ref x0)]) : W p l e (rm_X5_readValue mc ms) s m args below meth c H locs u v (MQ below (cs_Qr P A post) args s mc ms A) (F0 m 42 ls []) := by
  obtain ⟨hx, hb, hml, hown, hK, -, -⟩ := id hC
  obtain ⟨hu, hv, h⟩ := h
  refine lv_aload_n (x := x0) hx hb dX5_readValue_42 rfl (lv_at hl 0 rfl) ?_
  refine lv_iconst (v := 2) hx hb dX5_readValue_43 (by decide) ?_
  obtain ⟨hk38_, h⟩ := h
  refine cs_callv0 (cs_runV hx hb hml hown hK hO hT 6 hk38_ (by decide) rfl (c_X5_fail h) rfl rfl klX5_46 ki_X5_fail ks_X5_fail kn_X5 kc_X5_fail 1 ⟨rfl, by decide, by decide, by decide +kernel⟩ ⟨Nat.le_of_ble_eq_true rfl, Nat.le_of_ble_eq_true rfl⟩ rfl hl.1 rfl (hw_cat8 (Nat.le_of_ble_eq_true rfl)) ⟨hu, hv⟩ dX5_readValue_44) hT (fun S37 H locs h_ hT_ => ?_)
  replace h := h_
  replace hT := hT_
  refine hw_null hx hb dX5_readValue_47 ?_
  exact cs_aret (v := none) hC (Or.inl ⟨_, rfl⟩) hT h dX5_readValue_48 hu hv
end
def w_X5_readValue_190 (post : Option Nat → cs_S → Prop) (G : Nat → Nat) (mc ms : Nat) (S : cs_S) (u v : Nat) (x0 : Nat) (x3 : Int32) (x6 : Option Nat) (y0 : Int32) : Prop := u ≤ mc ∧ v ≤ ms ∧ cs_k S x0 = 7 ∧ wp_X5_step (fun S39 => u + 1 ≤ mc ∧ v + 4 ≤ ms ∧ ∀ q41, cs_k S39 q41 = 0 → ∀ S42, S42 = cs_new S39 q41 10 → wp_X9_init (fun S43 => post (some q41) S43) G S42 q41 y0 x3 x6) G S x0
section
variable {p : Program} {l : Launch} {e : Env} {s : State} {m : MethodId} {args : Array Value} {below : List Frame} {meth : Method} {c : Code} {P : hw_G} {G : Nat → Nat} {A : Nat → Prop}
set_option maxRecDepth 100000 in
set_option maxHeartbeats 4000000 in
theorem t_X5_readValue_190 {post : Option Nat → cs_S → Prop} {mc ms : Nat} (hC : rf_C P RX5 p s m meth c cX5_readValue 8 (some (.object "WatchHouse$Value"))) (hin : meth.name = yX5_readValue.name) (hO : cs_O G A s s.heap) (S : cs_S) (u v : Nat) (x0 : Nat) (x3 : Int32) (x6 : Option Nat) (y0 : Int32) (H : Heap) (locs : List Loc) (ls : Array Slot) (h : w_X5_readValue_190 post G mc ms S u v x0 x3 x6 y0) (hT : cs_T P s A S H locs) (hl : lv_has ls 8 [(0, .ref x0), (3, .int x3), (6, va_rf x6)]) : W p l e (rm_X5_readValue mc ms) s m args below meth c H locs u v (MQ below (cs_Qr P A post) args s mc ms A) (F0 m 190 ls [.int y0]) := by
  obtain ⟨hx, hb, hml, hown, hK, -, -⟩ := id hC
  obtain ⟨hu, hv, h⟩ := h
  refine lv_istore (lv' := [(7, _), (0, _), (3, _), (6, _)]) hx hb dX5_readValue_190 hl (by decide) (congrArg (List.cons _) ((hw_flt (fun q hq => by simp only [List.mem_cons, List.not_mem_nil, or_false] at hq; rcases hq with rfl | rfl | rfl <;> first | exact fun _ => rfl | exact fun _ => va_rf_cat _ | (intro h; simp at h))).trans rfl)) (fun ls hl_ => ?_)
  replace hl := hl_
  refine lv_aload_n (x := x0) hx hb dX5_readValue_192 rfl (lv_at hl 1 rfl) ?_
  obtain ⟨hk40_, h⟩ := h
  refine cs_callv0 (cs_runV hx hb hml hown hK hO hT 6 hk40_ (by decide) rfl (c_X5_step h) rfl rfl klX5_43 ki_X5_step ks_X5_step kn_X5 kc_X5_step 0 ⟨rfl, by decide, by decide, by decide +kernel⟩ ⟨Nat.le_of_ble_eq_true rfl, Nat.le_of_ble_eq_true rfl⟩ rfl hl.1 rfl (hw_cat8 (Nat.le_of_ble_eq_true rfl)) ⟨hu, hv⟩ dX5_readValue_193) hT (fun S39 H locs h_ hT_ => ?_)
  replace h := h_
  replace hT := hT_
  obtain ⟨hu41, hv41, h⟩ := h
  refine cs_newo hx hb hK hT hown 10 (by decide) rfl tyX9_ok cs_df10 kxX5_164 kj_X9 kn_X9 hu41 hv41 dX5_readValue_196 (fun q41 H hq41 hT_ => ?_)
  replace h := h q41 hq41
  replace hT := hT_
  obtain ⟨S42, eS42⟩ : ∃ z, z = cs_new S39 q41 10 := ⟨_, rfl⟩
  rw [← eS42] at hT
  replace h := h S42 eS42
  refine lv_dup hx hb dX5_readValue_199 rfl ?_
  refine lv_iload hx hb dX5_readValue_200 (lv_at hl 0 rfl) ?_
  refine lv_iload_n hx hb dX5_readValue_202 rfl (lv_at hl 2 rfl) ?_
  refine hw_aload (x := x6) hx hb dX5_readValue_203 (lv_at hl 3 rfl) ?_
  refine cs_callv0 (cs_runI hx hb hml hown hK hO hT (c_X9_init h) rfl rfl klX5_166 ki_X9_init kn_X9 kc_X9_init rfl 3 ⟨by decide, by decide, by decide +kernel⟩ ⟨Nat.le_of_ble_eq_true rfl, Nat.le_of_ble_eq_true rfl⟩ rfl hl.1 rfl (hw_cat8 (Nat.le_of_ble_eq_true rfl)) ⟨hu41, hv41⟩ dX5_readValue_205) hT (fun S43 H locs h_ hT_ => ?_)
  replace h := h_
  replace hT := hT_
  exact cs_aret (v := (some q41)) hC (Or.inl ⟨_, rfl⟩) hT h dX5_readValue_208 hu41 hv41
end
def w_X5_readValue_165 (post : Option Nat → cs_S → Prop) (G : Nat → Nat) (mc ms : Nat) (S : cs_S) (u v : Nat) (x0 : Nat) (x3 : Int32) (x6 : Option Nat) : Prop := u ≤ mc ∧ v ≤ ms ∧ cs_k S x0 = 7 ∧ (¬ (cs_i S 606 x0) = 4 → (¬ (cs_i S 606 x0) = 3 → w_X5_readValue_190 post G mc ms S u v x0 x3 x6 2) ∧ ((cs_i S 606 x0) = 3 → w_X5_readValue_190 post G mc ms S u v x0 x3 x6 0)) ∧ ((cs_i S 606 x0) = 4 → w_X5_readValue_190 post G mc ms S u v x0 x3 x6 1)
section
variable {p : Program} {l : Launch} {e : Env} {s : State} {m : MethodId} {args : Array Value} {below : List Frame} {meth : Method} {c : Code} {P : hw_G} {G : Nat → Nat} {A : Nat → Prop}
set_option maxRecDepth 100000 in
set_option maxHeartbeats 4000000 in
theorem t_X5_readValue_165 {post : Option Nat → cs_S → Prop} {mc ms : Nat} (hC : rf_C P RX5 p s m meth c cX5_readValue 8 (some (.object "WatchHouse$Value"))) (hin : meth.name = yX5_readValue.name) (hO : cs_O G A s s.heap) (S : cs_S) (u v : Nat) (x0 : Nat) (x3 : Int32) (x6 : Option Nat) (H : Heap) (locs : List Loc) (ls : Array Slot) (h : w_X5_readValue_165 post G mc ms S u v x0 x3 x6) (hT : cs_T P s A S H locs) (hl : lv_has ls 8 [(0, .ref x0), (3, .int x3), (6, va_rf x6)]) : W p l e (rm_X5_readValue mc ms) s m args below meth c H locs u v (MQ below (cs_Qr P A post) args s mc ms A) (F0 m 165 ls []) := by
  obtain ⟨hx, hb, hml, hown, hK, -, -⟩ := id hC
  obtain ⟨hu, hv, h⟩ := h
  refine lv_aload_n (x := x0) hx hb dX5_readValue_165 rfl (lv_at hl 0 rfl) ?_
  obtain ⟨hk44_, h⟩ := h
  refine cs_get hx hb hK hT hown 6 hk44_ (by decide) rfl 6 (by decide) kfX5_27 (v := .int (cs_i S 606 x0)) rfl dX5_readValue_166 ?_
  refine lv_iconst (v := 4) hx hb dX5_readValue_169 (by decide) ?_
  refine lv_icmp_ne (tgt := 177) hx hb dX5_readValue_170 (by decide) (fun hc => ?_) (fun hc => ?_)
  · replace h := h.1 hc
    refine lv_aload_n (x := x0) hx hb dX5_readValue_177 rfl (lv_at hl 0 rfl) ?_
    refine cs_get hx hb hK hT hown 6 hk44_ (by decide) rfl 6 (by decide) kfX5_27 (v := .int (cs_i S 606 x0)) rfl dX5_readValue_178 ?_
    refine lv_iconst (v := 3) hx hb dX5_readValue_181 (by decide) ?_
    refine lv_icmp_ne (tgt := 189) hx hb dX5_readValue_182 (by decide) (fun hc => ?_) (fun hc => ?_)
    · replace h := h.1 hc
      refine lv_iconst (v := 2) hx hb dX5_readValue_189 (by decide) ?_
      exact t_X5_readValue_190 hC hin hO S u v x0 x3 x6 2 _ _ _ h hT (lv_sub hl [0, 1, 2] rfl)
    · replace h := h.2 hc
      refine lv_iconst (v := 0) hx hb dX5_readValue_185 (by decide) ?_
      refine lv_goto (tgt := 190) hx hb dX5_readValue_186 (by decide) ?_
      exact t_X5_readValue_190 hC hin hO S u v x0 x3 x6 0 _ _ _ h hT (lv_sub hl [0, 1, 2] rfl)
  · replace h := h.2 hc
    refine lv_iconst (v := 1) hx hb dX5_readValue_173 (by decide) ?_
    refine lv_goto (tgt := 190) hx hb dX5_readValue_174 (by decide) ?_
    exact t_X5_readValue_190 hC hin hO S u v x0 x3 x6 1 _ _ _ h hT (lv_sub hl [0, 1, 2] rfl)
end
def w_X5_readValue_118 (post : Option Nat → cs_S → Prop) (G : Nat → Nat) (mc ms : Nat) : Nat → cs_S → Nat → Nat → Nat → Int32 → Int32 → Int32 → Option Nat → Int32 → Prop
  | 0, _, _, _, _, _, _, _, _, _ => False
  | n + 1, S, u, v, x0, x3, x4, x5, x6, x7 => u ≤ mc ∧ v ≤ ms ∧ (x5 ≤ x7 → w_X5_readValue_165 post G mc ms S u v x0 x3 x6) ∧ (¬ x5 ≤ x7 → cs_k S x0 = 7 ∧ ∀ r46, r46 = cs_r S 604 x0 → ∃ b47, r46 = some b47 ∧ cs_k S b47 = 10 ∧ ∀ r49, r49 = cs_r S 904 b47 → ∃ b50, r49 = some b50 ∧ cs_k S b50 = 20 ∧ ((Int32.ofNat (cs_n S b50)) ≤ (x4 + x7) → w_X5_readValue_165 post G mc ms S u v x0 x3 x6) ∧ (¬ (Int32.ofNat (cs_n S b50)) ≤ (x4 + x7) → ∀ r52, r52 = cs_r S 604 x0 → ∃ b53, r52 = some b53 ∧ cs_k S b53 = 10 ∧ ∀ r55, r55 = cs_r S 904 b53 → ∃ b56, r55 = some b56 ∧ cs_k S b56 = 20 ∧ vp_in (x4 + x7) (cs_n S b56) ∧ ∃ b58, x6 = some b58 ∧ cs_k S b58 = 20 ∧ vp_in x7 (cs_n S b58) ∧ ∀ S60, S60 = cs_uai S b58 x7.toNatClampNeg (cs_ai S b56 (x4 + x7).toNatClampNeg) → w_X5_readValue_118 post G mc ms n S60 u v x0 x3 x4 x5 (some b58) (x7 + 1)))
section
variable {p : Program} {l : Launch} {e : Env} {s : State} {m : MethodId} {args : Array Value} {below : List Frame} {meth : Method} {c : Code} {P : hw_G} {G : Nat → Nat} {A : Nat → Prop}
set_option maxRecDepth 100000 in
set_option maxHeartbeats 4000000 in
theorem t_X5_readValue_118 {post : Option Nat → cs_S → Prop} {mc ms : Nat} (hC : rf_C P RX5 p s m meth c cX5_readValue 8 (some (.object "WatchHouse$Value"))) (hin : meth.name = yX5_readValue.name) (hO : cs_O G A s s.heap) : ∀ (n : Nat) (S : cs_S) (u v : Nat) (x0 : Nat) (x3 : Int32) (x4 : Int32) (x5 : Int32) (x6 : Option Nat) (x7 : Int32) (H : Heap) (locs : List Loc) (ls : Array Slot), w_X5_readValue_118 post G mc ms n S u v x0 x3 x4 x5 x6 x7 → cs_T P s A S H locs → lv_has ls 8 [(0, .ref x0), (3, .int x3), (4, .int x4), (5, .int x5), (6, va_rf x6), (7, .int x7)] → W p l e (rm_X5_readValue mc ms) s m args below meth c H locs u v (MQ below (cs_Qr P A post) args s mc ms A) (F0 m 118 ls []) := by
  obtain ⟨hx, hb, hml, hown, hK, -, -⟩ := id hC
  intro n
  induction n with
  | zero => intro S u v x0 x3 x4 x5 x6 x7 H locs ls h; exact False.elim h
  | succ n ih =>
    intro S u v x0 x3 x4 x5 x6 x7 H locs ls h hT hl
    obtain ⟨hu, hv, h⟩ := h
    refine lv_iload hx hb dX5_readValue_118 (lv_at hl 5 rfl) ?_
    refine lv_iload hx hb dX5_readValue_120 (lv_at hl 3 rfl) ?_
    refine lv_icmp_ge (tgt := 165) hx hb dX5_readValue_122 (by decide) (fun hc => ?_) (fun hc => ?_)
    · replace h := h.1 hc
      exact t_X5_readValue_165 hC hin hO S u v x0 x3 x6 _ _ _ h hT (lv_sub hl [0, 1, 4] rfl)
    · replace h := h.2 hc
      refine lv_iload hx hb dX5_readValue_125 (lv_at hl 2 rfl) ?_
      refine lv_iload hx hb dX5_readValue_127 (lv_at hl 5 rfl) ?_
      refine lv_iadd hx hb dX5_readValue_129 ?_
      refine lv_aload_n (x := x0) hx hb dX5_readValue_130 rfl (lv_at hl 0 rfl) ?_
      obtain ⟨hk45_, h⟩ := h
      refine cs_get hx hb hK hT hown 6 hk45_ (by decide) rfl 4 (by decide) kfX5_9 (v := va_rf (cs_r S 604 x0)) rfl dX5_readValue_131 ?_
      refine hw_topr (fun r46 er46 => ?_)
      replace h := h r46 er46
      obtain ⟨b47, rfl, h⟩ := h
      obtain ⟨hk48_, h⟩ := h
      refine cs_getN hx hb hK hT hown 9 hk48_ (by decide) rfl 4 (by decide) (hO.2.2.2.2.2.2.2.2 _ kfnX5_161 rfl) (v := va_rf (cs_r S 904 b47)) rfl dX5_readValue_134 ?_
      refine hw_topr (fun r49 er49 => ?_)
      replace h := h r49 er49
      obtain ⟨b50, rfl, h⟩ := h
      obtain ⟨hk51_, h⟩ := h
      refine cs_alen hx hb hK hT 20 hk51_ (by decide) (by decide) dX5_readValue_137 ?_
      refine lv_icmp_ge (tgt := 165) hx hb dX5_readValue_138 (by decide) (fun hc => ?_) (fun hc => ?_)
      · replace h := h.1 hc
        exact t_X5_readValue_165 hC hin hO S u v x0 x3 x6 _ _ _ h hT (lv_sub hl [0, 1, 4] rfl)
      · replace h := h.2 hc
        refine hw_aload (x := x6) hx hb dX5_readValue_141 (lv_at hl 4 rfl) ?_
        refine lv_iload hx hb dX5_readValue_143 (lv_at hl 5 rfl) ?_
        refine lv_aload_n (x := x0) hx hb dX5_readValue_145 rfl (lv_at hl 0 rfl) ?_
        refine cs_get hx hb hK hT hown 6 hk45_ (by decide) rfl 4 (by decide) kfX5_9 (v := va_rf (cs_r S 604 x0)) rfl dX5_readValue_146 ?_
        refine hw_topr (fun r52 er52 => ?_)
        replace h := h r52 er52
        obtain ⟨b53, rfl, h⟩ := h
        obtain ⟨hk54_, h⟩ := h
        refine cs_getN hx hb hK hT hown 9 hk54_ (by decide) rfl 4 (by decide) (hO.2.2.2.2.2.2.2.2 _ kfnX5_161 rfl) (v := va_rf (cs_r S 904 b53)) rfl dX5_readValue_149 ?_
        refine hw_topr (fun r55 er55 => ?_)
        replace h := h r55 er55
        refine lv_iload hx hb dX5_readValue_152 (lv_at hl 2 rfl) ?_
        refine lv_iload hx hb dX5_readValue_154 (lv_at hl 5 rfl) ?_
        refine lv_iadd hx hb dX5_readValue_156 ?_
        obtain ⟨b56, rfl, h⟩ := h
        obtain ⟨hk57_, h⟩ := h
        obtain ⟨hi, h⟩ := h
        refine cs_iald hx hb hK hT hk57_ hi dX5_readValue_157 ?_
        obtain ⟨b58, rfl, h⟩ := h
        obtain ⟨hk59_, h⟩ := h
        obtain ⟨hi, h⟩ := h
        refine cs_iast hx hb hK hT hk59_ hi dX5_readValue_158 (fun H locs hT_ => ?_)
        replace hT := hT_
        obtain ⟨S60, eS60⟩ : ∃ z, z = cs_uai S b58 x7.toNatClampNeg (cs_ai S b56 (x4 + x7).toNatClampNeg) := ⟨_, rfl⟩
        rw [← eS60] at hT
        replace h := h S60 eS60
        refine lv_iinc (v := x7 + 1) (lv' := [(7, _), (0, _), (3, _), (4, _), (5, _), (6, _)]) hx hb dX5_readValue_159 hl (k := 5) rfl rfl (by decide) rfl (fun ls hl_ => ?_)
        replace hl := hl_
        refine lv_goto (tgt := 118) hx hb dX5_readValue_162 (by decide) ?_
        exact ih S60 u v x0 x3 x4 x5 (some b58) (x7 + 1) _ _ _ h hT (lv_sub hl [1, 2, 3, 4, 5, 0] rfl)
end
def w_X5_readValue_113 (post : Option Nat → cs_S → Prop) (G : Nat → Nat) (mc ms : Nat) (S : cs_S) (u v : Nat) (x0 : Nat) (x3 : Int32) (x4 : Int32) (x5 : Int32) (y0 : Option Nat) : Prop := u ≤ mc ∧ v ≤ ms ∧ ∃ n9, w_X5_readValue_118 post G mc ms n9 S u v x0 x3 x4 x5 y0 0
section
variable {p : Program} {l : Launch} {e : Env} {s : State} {m : MethodId} {args : Array Value} {below : List Frame} {meth : Method} {c : Code} {P : hw_G} {G : Nat → Nat} {A : Nat → Prop}
set_option maxRecDepth 100000 in
set_option maxHeartbeats 4000000 in
theorem t_X5_readValue_113 {post : Option Nat → cs_S → Prop} {mc ms : Nat} (hC : rf_C P RX5 p s m meth c cX5_readValue 8 (some (.object "WatchHouse$Value"))) (hin : meth.name = yX5_readValue.name) (hO : cs_O G A s s.heap) (S : cs_S) (u v : Nat) (x0 : Nat) (x3 : Int32) (x4 : Int32) (x5 : Int32) (y0 : Option Nat) (H : Heap) (locs : List Loc) (ls : Array Slot) (h : w_X5_readValue_113 post G mc ms S u v x0 x3 x4 x5 y0) (hT : cs_T P s A S H locs) (hl : lv_has ls 8 [(0, .ref x0), (3, .int x3), (4, .int x4), (5, .int x5)]) : W p l e (rm_X5_readValue mc ms) s m args below meth c H locs u v (MQ below (cs_Qr P A post) args s mc ms A) (F0 m 113 ls [va_rf y0]) := by
  obtain ⟨hx, hb, hml, hown, hK, -, -⟩ := id hC
  obtain ⟨hu, hv, h⟩ := h
  refine hw_astore (lv' := [(6, _), (0, _), (3, _), (4, _), (5, _)]) (x := y0) hx hb dX5_readValue_113 hl (by decide) rfl (fun ls hl_ => ?_)
  replace hl := hl_
  refine lv_iconst (v := 0) hx hb dX5_readValue_115 (by decide) ?_
  refine lv_istore (lv' := [(7, _), (6, _), (0, _), (3, _), (4, _), (5, _)]) hx hb dX5_readValue_116 hl (by decide) (congrArg (List.cons _) ((hw_flt (fun q hq => by simp only [List.mem_cons, List.not_mem_nil, or_false] at hq; rcases hq with rfl | rfl | rfl | rfl | rfl <;> first | exact fun _ => rfl | exact fun _ => va_rf_cat _ | (intro h; simp at h))).trans rfl)) (fun ls hl_ => ?_)
  replace hl := hl_
  obtain ⟨n9, h⟩ := h
  exact t_X5_readValue_118 hC hin hO n9 S u v x0 x3 x4 x5 y0 0 _ _ _ h hT (lv_sub hl [2, 3, 4, 5, 1, 0] rfl)
end
def w_X5_readValue_96 (post : Option Nat → cs_S → Prop) (G : Nat → Nat) (mc ms : Nat) (S : cs_S) (u v : Nat) (x0 : Nat) (x3 : Int32) (x4 : Int32) (y0 : Int32) : Prop := u ≤ mc ∧ v ≤ ms ∧ (¬ y0 = 0 → ¬ y0 < 0 ∧ y0.toNatClampNeg * componentBytes (cs_aty 20) ≤ 536870912 ∧ u + 1 ≤ mc ∧ v + y0.toNatClampNeg ≤ ms ∧ ∀ q61, cs_k S q61 = 0 → ∀ S62, S62 = cs_newA S q61 20 y0.toNatClampNeg → w_X5_readValue_113 post G mc ms S62 (u + 1) (v + y0.toNatClampNeg) x0 x3 x4 y0 (some q61)) ∧ (y0 = 0 → w_X5_readValue_113 post G mc ms S u v x0 x3 x4 y0 (some (G 0)))
section
variable {p : Program} {l : Launch} {e : Env} {s : State} {m : MethodId} {args : Array Value} {below : List Frame} {meth : Method} {c : Code} {P : hw_G} {G : Nat → Nat} {A : Nat → Prop}
set_option maxRecDepth 100000 in
set_option maxHeartbeats 4000000 in
theorem t_X5_readValue_96 {post : Option Nat → cs_S → Prop} {mc ms : Nat} (hC : rf_C P RX5 p s m meth c cX5_readValue 8 (some (.object "WatchHouse$Value"))) (hin : meth.name = yX5_readValue.name) (hO : cs_O G A s s.heap) (S : cs_S) (u v : Nat) (x0 : Nat) (x3 : Int32) (x4 : Int32) (y0 : Int32) (H : Heap) (locs : List Loc) (ls : Array Slot) (h : w_X5_readValue_96 post G mc ms S u v x0 x3 x4 y0) (hT : cs_T P s A S H locs) (hl : lv_has ls 8 [(0, .ref x0), (3, .int x3), (4, .int x4)]) : W p l e (rm_X5_readValue mc ms) s m args below meth c H locs u v (MQ below (cs_Qr P A post) args s mc ms A) (F0 m 96 ls [.int y0]) := by
  obtain ⟨hx, hb, hml, hown, hK, -, -⟩ := id hC
  obtain ⟨hu, hv, h⟩ := h
  refine lv_istore (lv' := [(5, _), (0, _), (3, _), (4, _)]) hx hb dX5_readValue_96 hl (by decide) rfl (fun ls hl_ => ?_)
  replace hl := hl_
  refine lv_iload hx hb dX5_readValue_98 (lv_at hl 0 rfl) ?_
  refine lv_if_ne (tgt := 109) hx hb dX5_readValue_100 (by decide) (fun hc => ?_) (fun hc => ?_)
  · replace h := h.1 hc
    refine lv_iload hx hb dX5_readValue_109 (lv_at hl 0 rfl) ?_
    obtain ⟨hn1, hn2, hu61, hv61, h⟩ := h
    refine cs_newa hx hb hK hT 20 rfl ka_int (by decide) (by decide) rfl hn1 hn2 hu61 hv61 dX5_readValue_111 (fun q61 H hq61 hT_ => ?_)
    replace h := h q61 hq61
    replace hT := hT_
    obtain ⟨S62, eS62⟩ : ∃ z, z = cs_newA S q61 20 y0.toNatClampNeg := ⟨_, rfl⟩
    rw [← eS62] at hT
    replace h := h S62 eS62
    exact t_X5_readValue_113 hC hin hO S62 (u + 1) (v + y0.toNatClampNeg) x0 x3 x4 y0 (some q61) _ _ _ h hT (lv_sub hl [1, 2, 3, 0] rfl)
  · replace h := h.2 hc
    refine cs_getsN hx hb hO hT hown kfnX5_158 dX5_readValue_103 ?_
    refine lv_goto (tgt := 113) hx hb dX5_readValue_106 (by decide) ?_
    exact t_X5_readValue_113 hC hin hO S u v x0 x3 x4 y0 (some (G 0)) _ _ _ h hT (lv_sub hl [1, 2, 3, 0] rfl)
end
def w_X5_readValue_29 (post : Option Nat → cs_S → Prop) (G : Nat → Nat) (mc ms : Nat) (S : cs_S) (u v : Nat) (x0 : Nat) (x1 : Int32) (y0 : Int32) : Prop := u ≤ mc ∧ v ≤ ms ∧ cs_k S x0 = 7 ∧ (¬ (cs_i S 606 x0) = x1 → w_X5_readValue_42 post G mc ms S u v x0) ∧ ((cs_i S 606 x0) = x1 → (¬ y0 = 0 → ∀ r64, r64 = cs_r S 604 x0 → ∃ b65, r64 = some b65 ∧ cs_k S b65 = 10 ∧ ∀ r67, r67 = cs_r S 902 b65 → ∃ b68, r67 = some b68 ∧ cs_k S b68 = 21 ∧ vp_in (cs_i S 605 x0) (cs_n S b68) ∧ ∀ r70, r70 = cs_r S 604 x0 → ∃ b71, r70 = some b71 ∧ cs_k S b71 = 10 ∧ ∀ r73, r73 = cs_r S 901 b71 → ∃ b74, r73 = some b74 ∧ cs_k S b74 = 20 ∧ vp_in (cs_i S 605 x0) (cs_n S b74) ∧ (¬ (cs_i S 606 x0) = 4 → w_X5_readValue_96 post G mc ms S u v x0 ((cs_al S b68 (cs_i S 605 x0).toNatClampNeg).toInt32) ((cs_ai S b74 (cs_i S 605 x0).toNatClampNeg) + 1) 0) ∧ ((cs_i S 606 x0) = 4 → w_X5_readValue_96 post G mc ms S u v x0 ((cs_al S b68 (cs_i S 605 x0).toNatClampNeg).toInt32) ((cs_ai S b74 (cs_i S 605 x0).toNatClampNeg) + 1) (if (cs_al S b68 (cs_i S 605 x0).toNatClampNeg).toInt32 < 0 then 0 else (cs_al S b68 (cs_i S 605 x0).toNatClampNeg).toInt32))) ∧ (y0 = 0 → w_X5_readValue_42 post G mc ms S u v x0))
section
variable {p : Program} {l : Launch} {e : Env} {s : State} {m : MethodId} {args : Array Value} {below : List Frame} {meth : Method} {c : Code} {P : hw_G} {G : Nat → Nat} {A : Nat → Prop}
set_option maxRecDepth 100000 in
set_option maxHeartbeats 4000000 in
theorem t_X5_readValue_29 {post : Option Nat → cs_S → Prop} {mc ms : Nat} (hC : rf_C P RX5 p s m meth c cX5_readValue 8 (some (.object "WatchHouse$Value"))) (hin : meth.name = yX5_readValue.name) (hO : cs_O G A s s.heap) (S : cs_S) (u v : Nat) (x0 : Nat) (x1 : Int32) (y0 : Int32) (H : Heap) (locs : List Loc) (ls : Array Slot) (h : w_X5_readValue_29 post G mc ms S u v x0 x1 y0) (hT : cs_T P s A S H locs) (hl : lv_has ls 8 [(0, .ref x0), (1, .int x1)]) : W p l e (rm_X5_readValue mc ms) s m args below meth c H locs u v (MQ below (cs_Qr P A post) args s mc ms A) (F0 m 29 ls [.int y0]) := by
  obtain ⟨hx, hb, hml, hown, hK, -, -⟩ := id hC
  obtain ⟨hu, hv, h⟩ := h
  refine lv_istore_n (lv' := [(2, _), (0, _), (1, _)]) hx hb dX5_readValue_29 rfl hl (by decide) rfl (fun ls hl_ => ?_)
  replace hl := hl_
  refine lv_aload_n (x := x0) hx hb dX5_readValue_30 rfl (lv_at hl 1 rfl) ?_
  obtain ⟨hk63_, h⟩ := h
  refine cs_get hx hb hK hT hown 6 hk63_ (by decide) rfl 6 (by decide) kfX5_27 (v := .int (cs_i S 606 x0)) rfl dX5_readValue_31 ?_
  refine lv_iload_n hx hb dX5_readValue_34 rfl (lv_at hl 2 rfl) ?_
  refine lv_icmp_ne (tgt := 42) hx hb dX5_readValue_35 (by decide) (fun hc => ?_) (fun hc => ?_)
  · replace h := h.1 hc
    exact t_X5_readValue_42 hC hin hO S u v x0 _ _ _ h hT (lv_sub hl [1] rfl)
  · replace h := h.2 hc
    refine lv_iload_n hx hb dX5_readValue_38 rfl (lv_at hl 0 rfl) ?_
    refine lv_if_ne (tgt := 49) hx hb dX5_readValue_39 (by decide) (fun hc => ?_) (fun hc => ?_)
    · replace h := h.1 hc
      refine lv_aload_n (x := x0) hx hb dX5_readValue_49 rfl (lv_at hl 1 rfl) ?_
      refine cs_get hx hb hK hT hown 6 hk63_ (by decide) rfl 4 (by decide) kfX5_9 (v := va_rf (cs_r S 604 x0)) rfl dX5_readValue_50 ?_
      refine hw_topr (fun r64 er64 => ?_)
      replace h := h r64 er64
      obtain ⟨b65, rfl, h⟩ := h
      obtain ⟨hk66_, h⟩ := h
      refine cs_get hx hb hK hT hown 9 hk66_ (by decide) rfl 2 (by decide) kfX5_87 (v := va_rf (cs_r S 902 b65)) rfl dX5_readValue_53 ?_
      refine hw_topr (fun r67 er67 => ?_)
      replace h := h r67 er67
      refine lv_aload_n (x := x0) hx hb dX5_readValue_56 rfl (lv_at hl 1 rfl) ?_
      refine cs_get hx hb hK hT hown 6 hk63_ (by decide) rfl 5 (by decide) kfX5_34 (v := .int (cs_i S 605 x0)) rfl dX5_readValue_57 ?_
      obtain ⟨b68, rfl, h⟩ := h
      obtain ⟨hk69_, h⟩ := h
      obtain ⟨hi, h⟩ := h
      refine cs_lald hx hb hK hT hk69_ hi dX5_readValue_60 ?_
      refine lv_l2i (v := (cs_al S b68 (cs_i S 605 x0).toNatClampNeg).toInt32) hx hb dX5_readValue_61 rfl ?_
      refine lv_istore_n (lv' := [(3, _), (2, _), (0, _), (1, _)]) hx hb dX5_readValue_62 rfl hl (by decide) rfl (fun ls hl_ => ?_)
      replace hl := hl_
      refine lv_aload_n (x := x0) hx hb dX5_readValue_63 rfl (lv_at hl 2 rfl) ?_
      refine cs_get hx hb hK hT hown 6 hk63_ (by decide) rfl 4 (by decide) kfX5_9 (v := va_rf (cs_r S 604 x0)) rfl dX5_readValue_64 ?_
      refine hw_topr (fun r70 er70 => ?_)
      replace h := h r70 er70
      obtain ⟨b71, rfl, h⟩ := h
      obtain ⟨hk72_, h⟩ := h
      refine cs_get hx hb hK hT hown 9 hk72_ (by decide) rfl 1 (by decide) kfX5_37 (v := va_rf (cs_r S 901 b71)) rfl dX5_readValue_67 ?_
      refine hw_topr (fun r73 er73 => ?_)
      replace h := h r73 er73
      refine lv_aload_n (x := x0) hx hb dX5_readValue_70 rfl (lv_at hl 2 rfl) ?_
      refine cs_get hx hb hK hT hown 6 hk63_ (by decide) rfl 5 (by decide) kfX5_34 (v := .int (cs_i S 605 x0)) rfl dX5_readValue_71 ?_
      obtain ⟨b74, rfl, h⟩ := h
      obtain ⟨hk75_, h⟩ := h
      obtain ⟨hi, h⟩ := h
      refine cs_iald hx hb hK hT hk75_ hi dX5_readValue_74 ?_
      refine lv_iconst (v := 1) hx hb dX5_readValue_75 (by decide) ?_
      refine lv_iadd hx hb dX5_readValue_76 ?_
      refine lv_istore (lv' := [(4, _), (3, _), (2, _), (0, _), (1, _)]) hx hb dX5_readValue_77 hl (by decide) rfl (fun ls hl_ => ?_)
      replace hl := hl_
      refine lv_aload_n (x := x0) hx hb dX5_readValue_79 rfl (lv_at hl 3 rfl) ?_
      refine cs_get hx hb hK hT hown 6 hk63_ (by decide) rfl 6 (by decide) kfX5_27 (v := .int (cs_i S 606 x0)) rfl dX5_readValue_80 ?_
      refine lv_iconst (v := 4) hx hb dX5_readValue_83 (by decide) ?_
      refine lv_icmp_ne (tgt := 95) hx hb dX5_readValue_84 (by decide) (fun hc => ?_) (fun hc => ?_)
      · replace h := h.1 hc
        refine lv_iconst (v := 0) hx hb dX5_readValue_95 (by decide) ?_
        exact t_X5_readValue_96 hC hin hO S u v x0 ((cs_al S b68 (cs_i S 605 x0).toNatClampNeg).toInt32) ((cs_ai S b74 (cs_i S 605 x0).toNatClampNeg) + 1) 0 _ _ _ h hT (lv_sub hl [3, 1, 0] rfl)
      · replace h := h.2 hc
        refine lv_iload_n hx hb dX5_readValue_87 rfl (lv_at hl 1 rfl) ?_
        refine lv_iconst (v := 0) hx hb dX5_readValue_88 (by decide) ?_
        refine va_mmax hx hb (hml.trans hl.1.symm) hown (hK.word klX5_153m rfl) (hK.word ki_mmax rfl) (hK.word kn_J9 rfl) (hK.word kc_mmax rfl) (Nat.le_of_ble_eq_true rfl) (hw_catN (Nat.le_of_ble_eq_true rfl) (Nat.le_of_ble_eq_true rfl)) hu hv dX5_readValue_89 ?_
        refine lv_goto (tgt := 96) hx hb dX5_readValue_92 (by decide) ?_
        exact t_X5_readValue_96 hC hin hO S u v x0 ((cs_al S b68 (cs_i S 605 x0).toNatClampNeg).toInt32) ((cs_ai S b74 (cs_i S 605 x0).toNatClampNeg) + 1) (if (cs_al S b68 (cs_i S 605 x0).toNatClampNeg).toInt32 < 0 then 0 else (cs_al S b68 (cs_i S 605 x0).toNatClampNeg).toInt32) _ _ _ h hT (lv_sub hl [3, 1, 0] rfl)
    · replace h := h.2 hc
      exact t_X5_readValue_42 hC hin hO S u v x0 _ _ _ h hT (lv_sub hl [1] rfl)
end
def w_X5_readValue_24 (post : Option Nat → cs_S → Prop) (G : Nat → Nat) (mc ms : Nat) (S : cs_S) (u v : Nat) (x0 : Nat) (x1 : Int32) : Prop := u ≤ mc ∧ v ≤ ms ∧ w_X5_readValue_29 post G mc ms S u v x0 x1 1
section
variable {p : Program} {l : Launch} {e : Env} {s : State} {m : MethodId} {args : Array Value} {below : List Frame} {meth : Method} {c : Code} {P : hw_G} {G : Nat → Nat} {A : Nat → Prop}
set_option maxRecDepth 100000 in
set_option maxHeartbeats 4000000 in
theorem t_X5_readValue_24 {post : Option Nat → cs_S → Prop} {mc ms : Nat} (hC : rf_C P RX5 p s m meth c cX5_readValue 8 (some (.object "WatchHouse$Value"))) (hin : meth.name = yX5_readValue.name) (hO : cs_O G A s s.heap) (S : cs_S) (u v : Nat) (x0 : Nat) (x1 : Int32) (H : Heap) (locs : List Loc) (ls : Array Slot) (h : w_X5_readValue_24 post G mc ms S u v x0 x1) (hT : cs_T P s A S H locs) (hl : lv_has ls 8 [(0, .ref x0), (1, .int x1)]) : W p l e (rm_X5_readValue mc ms) s m args below meth c H locs u v (MQ below (cs_Qr P A post) args s mc ms A) (F0 m 24 ls []) := by
  obtain ⟨hx, hb, hml, hown, hK, -, -⟩ := id hC
  obtain ⟨hu, hv, h⟩ := h
  refine lv_iconst (v := 1) hx hb dX5_readValue_24 (by decide) ?_
  refine lv_goto (tgt := 29) hx hb dX5_readValue_25 (by decide) ?_
  exact t_X5_readValue_29 hC hin hO S u v x0 x1 1 _ _ _ h hT (lv_sub hl [0, 1] rfl)
end
def wp_X5_readValue (post : Option Nat → cs_S → Prop) (G : Nat → Nat) (mc ms : Nat) (S : cs_S) (o : Nat) (p1 : Int32) : Prop := cs_k S o = 7 ∧ ((cs_i S 606 o) = 3 → w_X5_readValue_24 post G mc ms S 0 0 o p1) ∧ (¬ (cs_i S 606 o) = 3 → ((cs_i S 606 o) = 4 → w_X5_readValue_24 post G mc ms S 0 0 o p1) ∧ (¬ (cs_i S 606 o) = 4 → (¬ (cs_i S 606 o) = 5 → w_X5_readValue_29 post G mc ms S 0 0 o p1 0) ∧ ((cs_i S 606 o) = 5 → w_X5_readValue_24 post G mc ms S 0 0 o p1)))
set_option maxRecDepth 100000 in
set_option maxHeartbeats 4000000 in
theorem c_X5_readValue {l : Launch} {P : hw_G} {G : Nat → Nat} {S : cs_S} {sz : Nat} {mc ms : Nat} {o : Nat} {p1 : Int32} {post : Option Nat → cs_S → Prop} (h : wp_X5_readValue post G mc ms S o p1) : Met l yX5_readValue [Cond.code yX5_readValue cX5_readValue 8 (some (.object "WatchHouse$Value"))] (rm_X5_readValue mc ms) (cs_Pc P G S sz [.ref o, .int p1]) (cs_Qr P (cs_A S sz) post) mc ms (cs_A S sz) := by
  refine cs_met (by decide) rfl (Nat.le_of_ble_eq_true rfl) ?_
  intro p e s m below meth c ls hC hin hO hT hl
  obtain ⟨hx, hb, hml, hown, hK, -, -⟩ := id hC
  replace hl : lv_has ls 8 [(0, .ref o), (1, .int p1)] := hl
  refine lv_aload_n (x := o) hx hb dX5_readValue_0 rfl (lv_at hl 0 rfl) ?_
  obtain ⟨hk76_, h⟩ := h
  refine cs_get hx hb hK hT hown 6 hk76_ (by decide) rfl 6 (by decide) kfX5_27 (v := .int (cs_i S 606 o)) rfl dX5_readValue_1 ?_
  refine lv_iconst (v := 3) hx hb dX5_readValue_4 (by decide) ?_
  refine lv_icmp_eq (tgt := 24) hx hb dX5_readValue_5 (by decide) (fun hc => ?_) (fun hc => ?_)
  · replace h := h.1 hc
    exact t_X5_readValue_24 hC hin hO S 0 0 o p1 _ _ _ h hT (lv_sub hl [0, 1] rfl)
  · replace h := h.2 hc
    refine lv_aload_n (x := o) hx hb dX5_readValue_8 rfl (lv_at hl 0 rfl) ?_
    refine cs_get hx hb hK hT hown 6 hk76_ (by decide) rfl 6 (by decide) kfX5_27 (v := .int (cs_i S 606 o)) rfl dX5_readValue_9 ?_
    refine lv_iconst (v := 4) hx hb dX5_readValue_12 (by decide) ?_
    refine lv_icmp_eq (tgt := 24) hx hb dX5_readValue_13 (by decide) (fun hc => ?_) (fun hc => ?_)
    · replace h := h.1 hc
      exact t_X5_readValue_24 hC hin hO S 0 0 o p1 _ _ _ h hT (lv_sub hl [0, 1] rfl)
    · replace h := h.2 hc
      refine lv_aload_n (x := o) hx hb dX5_readValue_16 rfl (lv_at hl 0 rfl) ?_
      refine cs_get hx hb hK hT hown 6 hk76_ (by decide) rfl 6 (by decide) kfX5_27 (v := .int (cs_i S 606 o)) rfl dX5_readValue_17 ?_
      refine lv_iconst (v := 5) hx hb dX5_readValue_20 (by decide) ?_
      refine lv_icmp_ne (tgt := 28) hx hb dX5_readValue_21 (by decide) (fun hc => ?_) (fun hc => ?_)
      · replace h := h.1 hc
        refine lv_iconst (v := 0) hx hb dX5_readValue_28 (by decide) ?_
        exact t_X5_readValue_29 hC hin hO S 0 0 o p1 0 _ _ _ h hT (lv_sub hl [0, 1] rfl)
      · replace h := h.2 hc
        exact t_X5_readValue_24 hC hin hO S 0 0 o p1 _ _ _ h hT (lv_sub hl [0, 1] rfl)
