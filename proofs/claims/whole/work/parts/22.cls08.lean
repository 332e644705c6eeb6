/-! X10_advance -/
abbrev rm_X10_advance (mc ms : Nat) : Room := { frames := 66, cells := mc, slots := ms, locals := 2544 }
def w_X10_advance_67 (post : cs_S → Prop) (G : Nat → Nat) (mc ms : Nat) (S : cs_S) (u v : Nat) (x0 : Nat) (x1 : Int32) : Prop := u ≤ mc ∧ v ≤ ms ∧ cs_k S x0 = 12 ∧ ∀ S15, S15 = cs_ui S 1108 x0 x1 → post S15
section
variable {p : Program} {l : Launch} {e : Env} {s : State} {m : MethodId} {args : Array Value} {below : List Frame} {meth : Method} {c : Code} {P : hw_G} {G : Nat → Nat} {A : Nat → Prop}
set_option maxRecDepth 100000 in
set_option maxHeartbeats 4000000 in
theorem t_X10_advance_67 {post : cs_S → Prop} {mc ms : Nat} (hC : rf_C P RX10 p s m meth c cX10_advance 5 none) (hin : meth.name = yX10_advance.name) (hO : cs_O G A s s.heap) (S : cs_S) (u v : Nat) (x0 : Nat) (x1 : Int32) (H : Heap) (locs : List Loc) (ls : Array Slot) (h : w_X10_advance_67 post G mc ms S u v x0 x1) (hT : cs_T P s A S H locs) (hl : lv_has ls 5 [(0, .ref x0), (1, .int x1)]) : W p l e (rm_X10_advance mc ms) s m args below meth c H locs u v (MQ below (cs_Qv P A post) args s mc ms A) (F0 m 67 ls []) := by
  obtain ⟨hx, hb, hml, hown, hK, -, -⟩ := id hC
  obtain ⟨hu, hv, h⟩ := h
  refine lv_aload_n (x := x0) hx hb dX10_advance_67 rfl (lv_at hl 0 rfl) ?_
  refine lv_iload_n hx hb dX10_advance_68 rfl (lv_at hl 1 rfl) ?_
  obtain ⟨hk14_, h⟩ := h
  refine cs_puti (x := x1) hx hb hK hT hown 11 hk14_ (by decide) rfl 8 (by decide) kfX10_56 rfl (tyX10_ok 8 (by decide)) rfl 1108 rfl dX10_advance_69 (fun H locs hT_ => ?_)
  replace hT := hT_
  obtain ⟨S15, eS15⟩ : ∃ z, z = cs_ui S 1108 x0 x1 := ⟨_, rfl⟩
  rw [← eS15] at hT
  replace h := h S15 eS15
  exact cs_vret hC hT h dX10_advance_72 hu hv
end
def w_X10_advance_30 (post : cs_S → Prop) (G : Nat → Nat) (mc ms : Nat) (k2 : cs_S → Nat → Nat → Nat → Int32 → Int32 → Prop) : Nat → cs_S → Nat → Nat → Nat → Int32 → Int32 → Int32 → Int32 → Prop
  | 0, _, _, _, _, _, _, _, _ => False
  | n + 1, S, u, v, x0, x1, x2, x3, x4 => u ≤ mc ∧ v ≤ ms ∧ cs_k S x0 = 12 ∧ ((cs_i S 1101 x0) ≤ x4 → ∃ m17 n17, u + m17 ≤ mc ∧ v + n17 ≤ ms ∧ wp_X10_comeWaiting (fun S17 => k2 S17 (u + m17) (v + n17) x0 x1 (x2 + 1)) G m17 n17 S x0) ∧ (¬ (cs_i S 1101 x0) ≤ x4 → ∀ r18, r18 = cs_r S 1100 x0 → ∃ b19, r18 = some b19 ∧ cs_k S b19 = 22 ∧ vp_in x4 (cs_n S b19) ∧ ∀ r21, r21 = cs_ar S b19 x4.toNatClampNeg → ∃ m22 n22, u + m22 ≤ mc ∧ v + n22 ≤ ms ∧ wp_X10_tellLacks (fun S22 => w_X10_advance_30 post G mc ms k2 n S22 (u + m22) (v + n22) x0 x1 x2 x3 (x4 + 1)) G m22 n22 S x0 r21 x3)
section
variable {p : Program} {l : Launch} {e : Env} {s : State} {m : MethodId} {args : Array Value} {below : List Frame} {meth : Method} {c : Code} {P : hw_G} {G : Nat → Nat} {A : Nat → Prop}
set_option maxRecDepth 100000 in
set_option maxHeartbeats 4000000 in
theorem t_X10_advance_30 {post : cs_S → Prop} {mc ms : Nat} {k2 : cs_S → Nat → Nat → Nat → Int32 → Int32 → Prop} (hC : rf_C P RX10 p s m meth c cX10_advance 5 none) (hin : meth.name = yX10_advance.name) (hO : cs_O G A s s.heap) (hk2 : ∀ (S : cs_S) (u v : Nat) (x0 : Nat) (x1 : Int32) (x2 : Int32) (H : Heap) (locs : List Loc) (ls : Array Slot), k2 S u v x0 x1 x2 → cs_T P s A S H locs → lv_has ls 5 [(0, .ref x0), (1, .int x1), (2, .int x2)] → W p l e (rm_X10_advance mc ms) s m args below meth c H locs u v (MQ below (cs_Qv P A post) args s mc ms A) (F0 m 2 ls [])) : ∀ (n : Nat) (S : cs_S) (u v : Nat) (x0 : Nat) (x1 : Int32) (x2 : Int32) (x3 : Int32) (x4 : Int32) (H : Heap) (locs : List Loc) (ls : Array Slot), w_X10_advance_30 post G mc ms k2 n S u v x0 x1 x2 x3 x4 → cs_T P s A S H locs → lv_has ls 5 [(0, .ref x0), (1, .int x1), (2, .int x2), (3, .int x3), (4, .int x4)] → W p l e (rm_X10_advance mc ms) s m args below meth c H locs u v (MQ below (cs_Qv P A post) args s mc ms A) (F0 m 30 ls []) := by
  obtain ⟨hx, hb, hml, hown, hK, -, -⟩ := id hC
  intro n
  induction n with
  | zero => intro S u v x0 x1 x2 x3 x4 H locs ls h; exact False.elim h
  | succ n ih =>
    intro S u v x0 x1 x2 x3 x4 H locs ls h hT hl
    obtain ⟨hu, hv, h⟩ := h
    refine lv_iload hx hb dX10_advance_30 (lv_at hl 4 rfl) ?_
    refine lv_aload_n (x := x0) hx hb dX10_advance_32 rfl (lv_at hl 0 rfl) ?_
    obtain ⟨hk16_, h⟩ := h
    refine cs_get hx hb hK hT hown 11 hk16_ (by decide) rfl 1 (by decide) kfX10_21 (v := .int (cs_i S 1101 x0)) rfl dX10_advance_33 ?_
    refine lv_icmp_ge (tgt := 57) hx hb dX10_advance_36 (by decide) (fun hc => ?_) (fun hc => ?_)
    · replace h := h.1 hc
      refine lv_aload_n (x := x0) hx hb dX10_advance_57 rfl (lv_at hl 0 rfl) ?_
      obtain ⟨m17, n17, hu17, hv17, h⟩ := h
      refine cs_callv (cs_runV hx hb hml hown hK hO hT 11 hk16_ (by decide) rfl (c_X10_comeWaiting h) rfl rfl klX10_63 ki_X10_comeWaiting ks_X10_comeWaiting kn_X10 kc_X10_comeWaiting 0 ⟨rfl, by decide, by decide, by decide +kernel⟩ ⟨Nat.le_of_ble_eq_true rfl, Nat.le_of_ble_eq_true rfl⟩ rfl hl.1 rfl (hw_cat8 (Nat.le_of_ble_eq_true rfl)) ⟨hu17, hv17⟩ dX10_advance_58) hT (fun S17 H locs h_ hT_ => ?_)
      replace h := h_
      replace hT := hT_
      refine lv_iinc (v := x2 + 1) (lv' := [(2, _), (0, _), (1, _), (3, _), (4, _)]) hx hb dX10_advance_61 hl (k := 2) rfl rfl (by decide) rfl (fun ls hl_ => ?_)
      replace hl := hl_
      refine lv_goto (tgt := 2) hx hb dX10_advance_64 (by decide) ?_
      exact hk2 S17 (u + m17) (v + n17) x0 x1 (x2 + 1) _ _ _ h hT (lv_sub hl [1, 2, 0] rfl)
    · replace h := h.2 hc
      refine lv_aload_n (x := x0) hx hb dX10_advance_39 rfl (lv_at hl 0 rfl) ?_
      refine lv_aload_n (x := x0) hx hb dX10_advance_40 rfl (lv_at hl 0 rfl) ?_
      refine cs_get hx hb hK hT hown 11 hk16_ (by decide) rfl 0 (by decide) kfX10_9 (v := va_rf (cs_r S 1100 x0)) rfl dX10_advance_41 ?_
      refine hw_topr (fun r18 er18 => ?_)
      replace h := h r18 er18
      refine lv_iload hx hb dX10_advance_44 (lv_at hl 4 rfl) ?_
      obtain ⟨b19, rfl, h⟩ := h
      obtain ⟨hk20_, h⟩ := h
      obtain ⟨hi, h⟩ := h
      refine cs_aald hx hb hK hT 22 hk20_ (by decide) rfl (by decide) hi dX10_advance_46 ?_
      refine hw_topr (fun r21 er21 => ?_)
      replace h := h r21 er21
      refine lv_iload_n hx hb dX10_advance_47 rfl (lv_at hl 3 rfl) ?_
      obtain ⟨m22, n22, hu22, hv22, h⟩ := h
      refine cs_callv (cs_runV hx hb hml hown hK hO hT 11 hk16_ (by decide) rfl (c_X10_tellLacks h) rfl rfl klX10_59 ki_X10_tellLacks ks_X10_tellLacks kn_X10 kc_X10_tellLacks 2 ⟨rfl, by decide, by decide, by decide +kernel⟩ ⟨Nat.le_of_ble_eq_true rfl, Nat.le_of_ble_eq_true rfl⟩ rfl hl.1 rfl (hw_cat8 (Nat.le_of_ble_eq_true rfl)) ⟨hu22, hv22⟩ dX10_advance_48) hT (fun S22 H locs h_ hT_ => ?_)
      replace h := h_
      replace hT := hT_
      refine lv_iinc (v := x4 + 1) (lv' := [(4, _), (0, _), (1, _), (2, _), (3, _)]) hx hb dX10_advance_51 hl (k := 4) rfl rfl (by decide) rfl (fun ls hl_ => ?_)
      replace hl := hl_
      refine lv_goto (tgt := 30) hx hb dX10_advance_54 (by decide) ?_
      exact ih S22 (u + m22) (v + n22) x0 x1 x2 x3 (x4 + 1) _ _ _ h hT (lv_sub hl [1, 2, 3, 4, 0] rfl)
end
def w_X10_advance_2 (post : cs_S → Prop) (G : Nat → Nat) (mc ms : Nat) : Nat → cs_S → Nat → Nat → Nat → Int32 → Int32 → Prop
  | 0, _, _, _, _, _, _ => False
  | n + 1, S, u, v, x0, x1, x2 => u ≤ mc ∧ v ≤ ms ∧ (1000000 ≤ x2 → w_X10_advance_67 post G mc ms S u v x0 x1) ∧ (¬ 1000000 ≤ x2 → cs_k S x0 = 12 ∧ wp_X10_leastDue (fun r23 S23 => (¬ r23 = ((-1)) → cs_k S23 x0 = 12 ∧ ∀ S26, S26 = cs_ui S23 1108 x0 r23 → ∃ n9, w_X10_advance_30 post G mc ms (w_X10_advance_2 post G mc ms n) n9 S26 u v x0 x1 x2 r23 0) ∧ (r23 = ((-1)) → w_X10_advance_67 post G mc ms S23 u v x0 x1)) G S x0 x1)
section
variable {p : Program} {l : Launch} {e : Env} {s : State} {m : MethodId} {args : Array Value} {below : List Frame} {meth : Method} {c : Code} {P : hw_G} {G : Nat → Nat} {A : Nat → Prop}
set_option maxRecDepth 100000 in
set_option maxHeartbeats 4000000 in
theorem t_X10_advance_2 {post : cs_S → Prop} {mc ms : Nat} (hC : rf_C P RX10 p s m meth c cX10_advance 5 none) (hin : meth.name = yX10_advance.name) (hO : cs_O G A s s.heap) : ∀ (n : Nat) (S : cs_S) (u v : Nat) (x0 : Nat) (x1 : Int32) (x2 : Int32) (H : Heap) (locs : List Loc) (ls : Array Slot), w_X10_advance_2 post G mc ms n S u v x0 x1 x2 → cs_T P s A S H locs → lv_has ls 5 [(0, .ref x0), (1, .int x1), (2, .int x2)] → W p l e (rm_X10_advance mc ms) s m args below meth c H locs u v (MQ below (cs_Qv P A post) args s mc ms A) (F0 m 2 ls []) := by
  obtain ⟨hx, hb, hml, hown, hK, -, -⟩ := id hC
  intro n
  induction n with
  | zero => intro S u v x0 x1 x2 H locs ls h; exact False.elim h
  | succ n ih =>
    intro S u v x0 x1 x2 H locs ls h hT hl
    obtain ⟨hu, hv, h⟩ := h
    refine lv_iload_n hx hb dX10_advance_2 rfl (lv_at hl 2 rfl) ?_
    refine lv_ldc (v := 1000000) hx hb hown (hK.word kkX10_51 rfl) dX10_advance_3 ?_
    refine lv_icmp_ge (tgt := 67) hx hb dX10_advance_5 (by decide) (fun hc => ?_) (fun hc => ?_)
    · replace h := h.1 hc
      exact t_X10_advance_67 hC hin hO S u v x0 x1 _ _ _ h hT (lv_sub hl [0, 1] rfl)
    · replace h := h.2 hc
      refine lv_aload_n (x := x0) hx hb dX10_advance_8 rfl (lv_at hl 0 rfl) ?_
      refine lv_iload_n hx hb dX10_advance_9 rfl (lv_at hl 1 rfl) ?_
      obtain ⟨hk24_, h⟩ := h
      refine cs_calli0 (cs_runV hx hb hml hown hK hO hT 11 hk24_ (by decide) rfl (c_X10_leastDue h) rfl rfl klX10_52 ki_X10_leastDue ks_X10_leastDue kn_X10 kc_X10_leastDue 1 ⟨rfl, by decide, by decide, by decide +kernel⟩ ⟨Nat.le_of_ble_eq_true rfl, Nat.le_of_ble_eq_true rfl⟩ rfl hl.1 rfl (hw_cat8 (Nat.le_of_ble_eq_true rfl)) ⟨hu, hv⟩ dX10_advance_10) hT (fun r23 S23 H locs h_ hT_ => ?_)
      replace h := h_
      replace hT := hT_
      refine lv_istore_n (lv' := [(3, _), (0, _), (1, _), (2, _)]) hx hb dX10_advance_13 rfl hl (by decide) rfl (fun ls hl_ => ?_)
      replace hl := hl_
      refine lv_iload_n hx hb dX10_advance_14 rfl (lv_at hl 0 rfl) ?_
      refine lv_iconst (v := (-1)) hx hb dX10_advance_15 (by decide) ?_
      refine lv_icmp_ne (tgt := 22) hx hb dX10_advance_16 (by decide) (fun hc => ?_) (fun hc => ?_)
      · replace h := h.1 hc
        refine lv_aload_n (x := x0) hx hb dX10_advance_22 rfl (lv_at hl 1 rfl) ?_
        refine lv_iload_n hx hb dX10_advance_23 rfl (lv_at hl 0 rfl) ?_
        obtain ⟨hk25_, h⟩ := h
        refine cs_puti (x := r23) hx hb hK hT hown 11 hk25_ (by decide) rfl 8 (by decide) kfX10_56 rfl (tyX10_ok 8 (by decide)) rfl 1108 rfl dX10_advance_24 (fun H locs hT_ => ?_)
        replace hT := hT_
        obtain ⟨S26, eS26⟩ : ∃ z, z = cs_ui S23 1108 x0 r23 := ⟨_, rfl⟩
        rw [← eS26] at hT
        replace h := h S26 eS26
        refine lv_iconst (v := 0) hx hb dX10_advance_27 (by decide) ?_
        refine lv_istore (lv' := [(4, _), (3, _), (0, _), (1, _), (2, _)]) hx hb dX10_advance_28 hl (by decide) rfl (fun ls hl_ => ?_)
        replace hl := hl_
        obtain ⟨n9, h⟩ := h
        exact t_X10_advance_30 hC hin hO ih n9 S26 u v x0 x1 x2 r23 0 _ _ _ h hT (lv_sub hl [2, 3, 4, 1, 0] rfl)
      · replace h := h.2 hc
        refine lv_goto (tgt := 67) hx hb dX10_advance_19 (by decide) ?_
        exact t_X10_advance_67 hC hin hO S23 u v x0 x1 _ _ _ h hT (lv_sub hl [1, 2] rfl)
end
def wp_X10_advance (post : cs_S → Prop) (G : Nat → Nat) (mc ms : Nat) (S : cs_S) (o : Nat) (p1 : Int32) : Prop := ∃ n9, w_X10_advance_2 post G mc ms n9 S 0 0 o p1 0
set_option maxRecDepth 100000 in
set_option maxHeartbeats 4000000 in
theorem c_X10_advance {l : Launch} {P : hw_G} {G : Nat → Nat} {S : cs_S} {sz : Nat} {mc ms : Nat} {o : Nat} {p1 : Int32} {post : cs_S → Prop} (h : wp_X10_advance post G mc ms S o p1) : Met l yX10_advance [Cond.code yX10_advance cX10_advance 5 none] (rm_X10_advance mc ms) (cs_Pc P G S sz [.ref o, .int p1]) (cs_Qv P (cs_A S sz) post) mc ms (cs_A S sz) := by
  refine cs_met (by decide) rfl (Nat.le_of_ble_eq_true rfl) ?_
  intro p e s m below meth c ls hC hin hO hT hl
  obtain ⟨hx, hb, hml, hown, hK, -, -⟩ := id hC
  replace hl : lv_has ls 5 [(0, .ref o), (1, .int p1)] := hl
  refine lv_iconst (v := 0) hx hb dX10_advance_0 (by decide) ?_
  refine lv_istore_n (lv' := [(2, _), (0, _), (1, _)]) hx hb dX10_advance_1 rfl hl (by decide) rfl (fun ls hl_ => ?_)
  replace hl := hl_
  obtain ⟨n9, h⟩ := h
  exact t_X10_advance_2 hC hin hO n9 S 0 0 o p1 0 _ _ _ h hT (lv_sub hl [1, 2, 0] rfl)
/-! X10_arrive -/
abbrev rm_X10_arrive (mc ms : Nat) : Room := { frames := 66, cells := mc, slots := ms, locals := 2544 }
def wp_X10_arrive (post : Int32 → cs_S → Prop) (G : Nat → Nat) (mc ms : Nat) (S : cs_S) (o : Nat) (p1 : Option Nat) : Prop := cs_k S o = 12 ∧ ((cs_i S 1104 o) < 4000 → ∃ b10, p1 = some b10 ∧ cs_k S b10 = 5 ∧ ∀ S12, S12 = cs_ui S 1109 o (cs_i S 400 b10) → cs_k S12 o = 12 ∧ ∃ m13 n13, 0 + m13 ≤ mc ∧ 0 + n13 ≤ ms ∧ wp_X10_come (fun S13 => cs_k S13 o = 12 ∧ ∃ m15 n15, 0 + m13 + m15 ≤ mc ∧ 0 + n13 + n15 ≤ ms ∧ wp_X10_comeWaiting (fun S15 => post 1 S15) G m15 n15 S13 o) G m13 n13 S12 o (some b10)) ∧ (¬ (cs_i S 1104 o) < 4000 → post 0 S)
set_option maxRecDepth 100000 in
set_option maxHeartbeats 4000000 in
theorem c_X10_arrive {l : Launch} {P : hw_G} {G : Nat → Nat} {S : cs_S} {sz : Nat} {mc ms : Nat} {o : Nat} {p1 : Option Nat} {post : Int32 → cs_S → Prop} (h : wp_X10_arrive post G mc ms S o p1) : Met l yX10_arrive [Cond.code yX10_arrive cX10_arrive 2 (some .boolean)] (rm_X10_arrive mc ms) (cs_Pc P G S sz [.ref o, va_rf p1]) (cs_Qi P (cs_A S sz) post) mc ms (cs_A S sz) := by
  refine cs_met (by decide) rfl (by cases p1 <;> exact Nat.le_of_ble_eq_true rfl) ?_
  intro p e s m below meth c ls hC hin hO hT hl
  obtain ⟨hx, hb, hml, hown, hK, -, -⟩ := id hC
  replace hl : lv_has ls 2 [(0, .ref o), (1, va_rf p1)] := by cases p1 <;> exact hl
  refine lv_aload_n (x := o) hx hb dX10_arrive_0 rfl (lv_at hl 0 rfl) ?_
  obtain ⟨hk9_, h⟩ := h
  refine cs_get hx hb hK hT hown 11 hk9_ (by decide) rfl 4 (by decide) kfX10_48 (v := .int (cs_i S 1104 o)) rfl dX10_arrive_1 ?_
  refine lv_sipush (v := 4000) hx hb dX10_arrive_4 (by decide) ?_
  refine lv_icmp_lt (tgt := 12) hx hb dX10_arrive_7 (by decide) (fun hc => ?_) (fun hc => ?_)
  · replace h := h.1 hc
    refine lv_aload_n (x := o) hx hb dX10_arrive_12 rfl (lv_at hl 0 rfl) ?_
    refine hw_aload_n (x := p1) hx hb dX10_arrive_13 rfl (lv_at hl 1 rfl) ?_
    obtain ⟨b10, rfl, h⟩ := h
    obtain ⟨hk11_, h⟩ := h
    refine cs_get hx hb hK hT hown 4 hk11_ (by decide) rfl 0 (by decide) kfX10_92 (v := .int (cs_i S 400 b10)) rfl dX10_arrive_14 ?_
    refine cs_puti (x := (cs_i S 400 b10)) hx hb hK hT hown 11 hk9_ (by decide) rfl 9 (by decide) kfX10_95 rfl (tyX10_ok 9 (by decide)) rfl 1109 rfl dX10_arrive_17 (fun H locs hT_ => ?_)
    replace hT := hT_
    obtain ⟨S12, eS12⟩ : ∃ z, z = cs_ui S 1109 o (cs_i S 400 b10) := ⟨_, rfl⟩
    rw [← eS12] at hT
    replace h := h S12 eS12
    refine lv_aload_n (x := o) hx hb dX10_arrive_20 rfl (lv_at hl 0 rfl) ?_
    refine lv_aload_n (x := b10) hx hb dX10_arrive_21 rfl (lv_at hl 1 rfl) ?_
    obtain ⟨hk14_, h⟩ := h
    obtain ⟨m13, n13, hu13, hv13, h⟩ := h
    refine cs_callv (cs_runV hx hb hml hown hK hO hT 11 hk14_ (by decide) rfl (c_X10_come h) rfl rfl klX10_98 ki_X10_come ks_X10_come kn_X10 kc_X10_come 1 ⟨rfl, by decide, by decide, by decide +kernel⟩ ⟨Nat.le_of_ble_eq_true rfl, Nat.le_of_ble_eq_true rfl⟩ rfl hl.1 rfl (hw_cat8 (Nat.le_of_ble_eq_true rfl)) ⟨hu13, hv13⟩ dX10_arrive_22) hT (fun S13 H locs h_ hT_ => ?_)
    replace h := h_
    replace hT := hT_
    refine lv_aload_n (x := o) hx hb dX10_arrive_25 rfl (lv_at hl 0 rfl) ?_
    obtain ⟨hk16_, h⟩ := h
    obtain ⟨m15, n15, hu15, hv15, h⟩ := h
    refine cs_callv (cs_runV hx hb hml hown hK hO hT 11 hk16_ (by decide) rfl (c_X10_comeWaiting h) rfl rfl klX10_63 ki_X10_comeWaiting ks_X10_comeWaiting kn_X10 kc_X10_comeWaiting 0 ⟨rfl, by decide, by decide, by decide +kernel⟩ ⟨Nat.le_of_ble_eq_true rfl, Nat.le_of_ble_eq_true rfl⟩ rfl hl.1 rfl (hw_cat8 (Nat.le_of_ble_eq_true rfl)) ⟨hu15, hv15⟩ dX10_arrive_26) hT (fun S15 H locs h_ hT_ => ?_)
    replace h := h_
    replace hT := hT_
    refine lv_iconst (v := 1) hx hb dX10_arrive_29 (by decide) ?_
    exact cs_zret hC hT rfl h dX10_arrive_30 hu15 hv15
  · replace h := h.2 hc
    refine lv_iconst (v := 0) hx hb dX10_arrive_10 (by decide) ?_
    exact cs_zret hC hT rfl h dX10_arrive_11 (Nat.zero_le _) (Nat.zero_le _)
/-! X11_putFour -/
abbrev rm_X11_putFour : Room := { frames := 0, cells := 0, slots := 0, locals := 0 }
def w_X11_putFour_51 (post : cs_S → Prop) (G : Nat → Nat) (S : cs_S)  : Prop := post S
section
variable {p : Program} {l : Launch} {e : Env} {s : State} {m : MethodId} {args : Array Value} {below : List Frame} {meth : Method} {c : Code} {P : hw_G} {G : Nat → Nat} {A : Nat → Prop}
set_option maxRecDepth 100000 in
set_option maxHeartbeats 4000000 in
theorem t_X11_putFour_51 {post : cs_S → Prop} (hC : rf_C P RX11 p s m meth c cX11_putFour 3 none) (hin : meth.name = yX11_putFour.name) (hO : cs_O G A s s.heap) (S : cs_S)  (H : Heap) (locs : List Loc) (ls : Array Slot) (h : w_X11_putFour_51 post G S ) (hT : cs_T P s A S H locs) (hl : lv_has ls 3 []) : W p l e rm_X11_putFour s m args below meth c H locs 0 0 (MQ below (cs_Qv P A post) args s 0 0 A) (F0 m 51 ls []) := by
  obtain ⟨hx, hb, hml, hown, hK, -, -⟩ := id hC
  exact cs_vret hC hT h dX11_putFour_51 (Nat.le_refl _) (Nat.le_refl _)
end
def w_X11_putFour_3 (post : cs_S → Prop) (G : Nat → Nat) : Nat → cs_S → Nat → Int32 → Int32 → Prop
  | 0, _, _, _, _ => False
  | n + 1, S, x0, x1, x2 => (x2 < 0 → w_X11_putFour_51 post G S) ∧ (¬ x2 < 0 → cs_k S x0 = 13 ∧ ∀ r12, r12 = cs_r S 1200 x0 → ∃ b13, r12 = some b13 ∧ cs_k S b13 = 20 ∧ ((Int32.ofNat (cs_n S b13)) ≤ (cs_i S 1201 x0) → w_X11_putFour_51 post G S) ∧ (¬ (Int32.ofNat (cs_n S b13)) ≤ (cs_i S 1201 x0) → ∀ r15, r15 = cs_r S 1200 x0 → ∃ b16, r15 = some b16 ∧ cs_k S b16 = 20 ∧ vp_in (cs_i S 1201 x0) (cs_n S b16) ∧ ∀ S18, S18 = cs_uai S b16 (cs_i S 1201 x0).toNatClampNeg (((x1.toUInt32 >>> (x2.toUInt32 &&& Int32.toUInt32 31)).toInt32) &&& 255) → cs_k S18 x0 = 13 ∧ ∀ S20, S20 = cs_ui S18 1201 x0 ((cs_i S18 1201 x0) + 1) → w_X11_putFour_3 post G n S20 x0 x1 (x2 + (-8))))
section
variable {p : Program} {l : Launch} {e : Env} {s : State} {m : MethodId} {args : Array Value} {below : List Frame} {meth : Method} {c : Code} {P : hw_G} {G : Nat → Nat} {A : Nat → Prop}
set_option maxRecDepth 100000 in
set_option maxHeartbeats 4000000 in
theorem t_X11_putFour_3 {post : cs_S → Prop} (hC : rf_C P RX11 p s m meth c cX11_putFour 3 none) (hin : meth.name = yX11_putFour.name) (hO : cs_O G A s s.heap) : ∀ (n : Nat) (S : cs_S) (x0 : Nat) (x1 : Int32) (x2 : Int32) (H : Heap) (locs : List Loc) (ls : Array Slot), w_X11_putFour_3 post G n S x0 x1 x2 → cs_T P s A S H locs → lv_has ls 3 [(0, .ref x0), (1, .int x1), (2, .int x2)] → W p l e rm_X11_putFour s m args below meth c H locs 0 0 (MQ below (cs_Qv P A post) args s 0 0 A) (F0 m 3 ls []) := by
  obtain ⟨hx, hb, hml, hown, hK, -, -⟩ := id hC
  intro n
  induction n with
  | zero => intro S x0 x1 x2 H locs ls h; exact False.elim h
  | succ n ih =>
    intro S x0 x1 x2 H locs ls h hT hl
    refine lv_iload_n hx hb dX11_putFour_3 rfl (lv_at hl 2 rfl) ?_
    refine lv_if_lt (tgt := 51) hx hb dX11_putFour_4 (by decide) (fun hc => ?_) (fun hc => ?_)
    · replace h := h.1 hc
      exact t_X11_putFour_51 hC hin hO S _ _ _ h hT (lv_sub hl [] rfl)
    · replace h := h.2 hc
      refine lv_aload_n (x := x0) hx hb dX11_putFour_7 rfl (lv_at hl 0 rfl) ?_
      obtain ⟨hk11_, h⟩ := h
      refine cs_get hx hb hK hT hown 12 hk11_ (by decide) rfl 1 (by decide) kfX11_42 (v := .int (cs_i S 1201 x0)) rfl dX11_putFour_8 ?_
      refine lv_aload_n (x := x0) hx hb dX11_putFour_11 rfl (lv_at hl 0 rfl) ?_
      refine cs_get hx hb hK hT hown 12 hk11_ (by decide) rfl 0 (by decide) kfX11_9 (v := va_rf (cs_r S 1200 x0)) rfl dX11_putFour_12 ?_
      refine hw_topr (fun r12 er12 => ?_)
      replace h := h r12 er12
      obtain ⟨b13, rfl, h⟩ := h
      obtain ⟨hk14_, h⟩ := h
      refine cs_alen hx hb hK hT 20 hk14_ (by decide) (by decide) dX11_putFour_15 ?_
      refine lv_icmp_ge (tgt := 51) hx hb dX11_putFour_16 (by decide) (fun hc => ?_) (fun hc => ?_)
      · replace h := h.1 hc
        exact t_X11_putFour_51 hC hin hO S _ _ _ h hT (lv_sub hl [] rfl)
      · replace h := h.2 hc
        refine lv_aload_n (x := x0) hx hb dX11_putFour_19 rfl (lv_at hl 0 rfl) ?_
        refine cs_get hx hb hK hT hown 12 hk11_ (by decide) rfl 0 (by decide) kfX11_9 (v := va_rf (cs_r S 1200 x0)) rfl dX11_putFour_20 ?_
        refine hw_topr (fun r15 er15 => ?_)
        replace h := h r15 er15
        refine lv_aload_n (x := x0) hx hb dX11_putFour_23 rfl (lv_at hl 0 rfl) ?_
        refine cs_get hx hb hK hT hown 12 hk11_ (by decide) rfl 1 (by decide) kfX11_42 (v := .int (cs_i S 1201 x0)) rfl dX11_putFour_24 ?_
        refine lv_iload_n hx hb dX11_putFour_27 rfl (lv_at hl 1 rfl) ?_
        refine lv_iload_n hx hb dX11_putFour_28 rfl (lv_at hl 2 rfl) ?_
        refine lv_iushr (v := (x1.toUInt32 >>> (x2.toUInt32 &&& Int32.toUInt32 31)).toInt32) hx hb dX11_putFour_29 rfl ?_
        refine lv_sipush (v := 255) hx hb dX11_putFour_30 (by decide) ?_
        refine lv_iand hx hb dX11_putFour_33 ?_
        obtain ⟨b16, rfl, h⟩ := h
        obtain ⟨hk17_, h⟩ := h
        obtain ⟨hi, h⟩ := h
        refine cs_iast hx hb hK hT hk17_ hi dX11_putFour_34 (fun H locs hT_ => ?_)
        replace hT := hT_
        obtain ⟨S18, eS18⟩ : ∃ z, z = cs_uai S b16 (cs_i S 1201 x0).toNatClampNeg (((x1.toUInt32 >>> (x2.toUInt32 &&& Int32.toUInt32 31)).toInt32) &&& 255) := ⟨_, rfl⟩
        rw [← eS18] at hT
        replace h := h S18 eS18
        refine lv_aload_n (x := x0) hx hb dX11_putFour_35 rfl (lv_at hl 0 rfl) ?_
        refine lv_dup hx hb dX11_putFour_36 rfl ?_
        obtain ⟨hk19_, h⟩ := h
        refine cs_get hx hb hK hT hown 12 hk19_ (by decide) rfl 1 (by decide) kfX11_42 (v := .int (cs_i S18 1201 x0)) rfl dX11_putFour_37 ?_
        refine lv_iconst (v := 1) hx hb dX11_putFour_40 (by decide) ?_
        refine lv_iadd hx hb dX11_putFour_41 ?_
        refine cs_puti (x := ((cs_i S18 1201 x0) + 1)) hx hb hK hT hown 12 hk19_ (by decide) rfl 1 (by decide) kfX11_42 rfl (tyX11_ok 1 (by decide)) rfl 1201 rfl dX11_putFour_42 (fun H locs hT_ => ?_)
        replace hT := hT_
        obtain ⟨S20, eS20⟩ : ∃ z, z = cs_ui S18 1201 x0 ((cs_i S18 1201 x0) + 1) := ⟨_, rfl⟩
        rw [← eS20] at hT
        replace h := h S20 eS20
        refine lv_iinc (v := x2 + (-8)) (lv' := [(2, _), (0, _), (1, _)]) hx hb dX11_putFour_45 hl (k := 2) rfl rfl (by decide) rfl (fun ls hl_ => ?_)
        replace hl := hl_
        refine lv_goto (tgt := 3) hx hb dX11_putFour_48 (by decide) ?_
        exact ih S20 x0 x1 (x2 + (-8)) _ _ _ h hT (lv_sub hl [1, 2, 0] rfl)
end
def wp_X11_putFour (post : cs_S → Prop) (G : Nat → Nat) (S : cs_S) (o : Nat) (p1 : Int32) : Prop := ∃ n9, w_X11_putFour_3 post G n9 S o p1 24
set_option maxRecDepth 100000 in
set_option maxHeartbeats 4000000 in
theorem c_X11_putFour {l : Launch} {P : hw_G} {G : Nat → Nat} {S : cs_S} {sz : Nat} {o : Nat} {p1 : Int32} {post : cs_S → Prop} (h : wp_X11_putFour post G S o p1) : Met l yX11_putFour [Cond.code yX11_putFour cX11_putFour 3 none] rm_X11_putFour (cs_Pc P G S sz [.ref o, .int p1]) (cs_Qv P (cs_A S sz) post) 0 0 (cs_A S sz) := by
  refine cs_met (by decide) rfl (Nat.le_of_ble_eq_true rfl) ?_
  intro p e s m below meth c ls hC hin hO hT hl
  obtain ⟨hx, hb, hml, hown, hK, -, -⟩ := id hC
  replace hl : lv_has ls 3 [(0, .ref o), (1, .int p1)] := hl
  refine lv_bipush (v := 24) hx hb dX11_putFour_0 (by decide) ?_
  refine lv_istore_n (lv' := [(2, _), (0, _), (1, _)]) hx hb dX11_putFour_2 rfl hl (by decide) rfl (fun ls hl_ => ?_)
  replace hl := hl_
  obtain ⟨n9, h⟩ := h
  exact t_X11_putFour_3 hC hin hO n9 S o p1 24 _ _ _ h hT (lv_sub hl [1, 2, 0] rfl)
/-! X11_feed -/
abbrev rm_X11_feed : Room := { frames := 1, cells := 0, slots := 0, locals := 22 }
def wp_X11_feed (post : Int32 → cs_S → Prop) (G : Nat → Nat) (S : cs_S) (o : Nat) (p1 : Int32) (p2 : Int32) (p3 : Int32) (p4 : Int32) (p5 : Int32) : Prop := cs_k S o = 13 ∧ ∀ r16, r16 = cs_r S 1200 o → ∃ b17, r16 = some b17 ∧ cs_k S b17 = 20 ∧ (((cs_i S 1201 o) + 20) ≤ (Int32.ofNat (cs_n S b17)) → wp_X11_putFour (fun S19 => cs_k S19 o = 13 ∧ wp_X11_putFour (fun S20 => cs_k S20 o = 13 ∧ wp_X11_putFour (fun S22 => cs_k S22 o = 13 ∧ wp_X11_putFour (fun S24 => cs_k S24 o = 13 ∧ wp_X11_putFour (fun S26 => cs_k S26 o = 13 ∧ post (cs_i S26 1201 o) S26) G S24 o p5) G S22 o p4) G S20 o p3) G S19 o p2) G S o p1) ∧ (¬ ((cs_i S 1201 o) + 20) ≤ (Int32.ofNat (cs_n S b17)) → post ((-1)) S)
set_option maxRecDepth 100000 in
set_option maxHeartbeats 4000000 in
theorem c_X11_feed {l : Launch} {P : hw_G} {G : Nat → Nat} {S : cs_S} {sz : Nat} {o : Nat} {p1 : Int32} {p2 : Int32} {p3 : Int32} {p4 : Int32} {p5 : Int32} {post : Int32 → cs_S → Prop} (h : wp_X11_feed post G S o p1 p2 p3 p4 p5) : Met l yX11_feed [Cond.code yX11_feed cX11_feed 6 (some .int)] rm_X11_feed (cs_Pc P G S sz [.ref o, .int p1, .int p2, .int p3, .int p4, .int p5]) (cs_Qi P (cs_A S sz) post) 0 0 (cs_A S sz) := by
  refine cs_met (by decide) rfl (Nat.le_of_ble_eq_true rfl) ?_
  intro p e s m below meth c ls hC hin hO hT hl
  obtain ⟨hx, hb, hml, hown, hK, -, -⟩ := id hC
  replace hl : lv_has ls 6 [(0, .ref o), (1, .int p1), (2, .int p2), (3, .int p3), (4, .int p4), (5, .int p5)] := hl
  refine lv_aload_n (x := o) hx hb dX11_feed_0 rfl (lv_at hl 0 rfl) ?_
  obtain ⟨hk15_, h⟩ := h
  refine cs_get hx hb hK hT hown 12 hk15_ (by decide) rfl 1 (by decide) kfX11_42 (v := .int (cs_i S 1201 o)) rfl dX11_feed_1 ?_
  refine lv_bipush (v := 20) hx hb dX11_feed_4 (by decide) ?_
  refine lv_iadd hx hb dX11_feed_6 ?_
  refine lv_aload_n (x := o) hx hb dX11_feed_7 rfl (lv_at hl 0 rfl) ?_
  refine cs_get hx hb hK hT hown 12 hk15_ (by decide) rfl 0 (by decide) kfX11_9 (v := va_rf (cs_r S 1200 o)) rfl dX11_feed_8 ?_
  refine hw_topr (fun r16 er16 => ?_)
  replace h := h r16 er16
  obtain ⟨b17, rfl, h⟩ := h
  obtain ⟨hk18_, h⟩ := h
  refine cs_alen hx hb hK hT 20 hk18_ (by decide) (by decide) dX11_feed_11 ?_
  refine lv_icmp_le (tgt := 17) hx hb dX11_feed_12 (by decide) (fun hc => ?_) (fun hc => ?_)
  · replace h := h.1 hc
    refine lv_aload_n (x := o) hx hb dX11_feed_17 rfl (lv_at hl 0 rfl) ?_
    refine lv_iload_n hx hb dX11_feed_18 rfl (lv_at hl 1 rfl) ?_
    refine cs_callv0 (cs_runV hx hb hml hown hK hO hT 12 hk15_ (by decide) rfl (c_X11_putFour h) rfl rfl klX11_45 ki_X11_putFour ks_X11_putFour kn_X11 kc_X11_putFour 1 ⟨rfl, by decide, by decide, by decide +kernel⟩ ⟨by decide, by decide⟩ rfl hl.1 rfl (hw_cat8 (Nat.le_of_ble_eq_true rfl)) ⟨(Nat.le_refl _), (Nat.le_refl _)⟩ dX11_feed_19) hT (fun S19 H locs h_ hT_ => ?_)
    replace h := h_
    replace hT := hT_
    refine lv_aload_n (x := o) hx hb dX11_feed_22 rfl (lv_at hl 0 rfl) ?_
    refine lv_iload_n hx hb dX11_feed_23 rfl (lv_at hl 2 rfl) ?_
    obtain ⟨hk21_, h⟩ := h
    refine cs_callv0 (cs_runV hx hb hml hown hK hO hT 12 hk21_ (by decide) rfl (c_X11_putFour h) rfl rfl klX11_45 ki_X11_putFour ks_X11_putFour kn_X11 kc_X11_putFour 1 ⟨rfl, by decide, by decide, by decide +kernel⟩ ⟨by decide, by decide⟩ rfl hl.1 rfl (hw_cat8 (Nat.le_of_ble_eq_true rfl)) ⟨(Nat.le_refl _), (Nat.le_refl _)⟩ dX11_feed_24) hT (fun S20 H locs h_ hT_ => ?_)
    replace h := h_
    replace hT := hT_
    refine lv_aload_n (x := o) hx hb dX11_feed_27 rfl (lv_at hl 0 rfl) ?_
    refine lv_iload_n hx hb dX11_feed_28 rfl (lv_at hl 3 rfl) ?_
    obtain ⟨hk23_, h⟩ := h
    refine cs_callv0 (cs_runV hx hb hml hown hK hO hT 12 hk23_ (by decide) rfl (c_X11_putFour h) rfl rfl klX11_45 ki_X11_putFour ks_X11_putFour kn_X11 kc_X11_putFour 1 ⟨rfl, by decide, by decide, by decide +kernel⟩ ⟨by decide, by decide⟩ rfl hl.1 rfl (hw_cat8 (Nat.le_of_ble_eq_true rfl)) ⟨(Nat.le_refl _), (Nat.le_refl _)⟩ dX11_feed_29) hT (fun S22 H locs h_ hT_ => ?_)
    replace h := h_
    replace hT := hT_
    refine lv_aload_n (x := o) hx hb dX11_feed_32 rfl (lv_at hl 0 rfl) ?_
    refine lv_iload hx hb dX11_feed_33 (lv_at hl 4 rfl) ?_
    obtain ⟨hk25_, h⟩ := h
    refine cs_callv0 (cs_runV hx hb hml hown hK hO hT 12 hk25_ (by decide) rfl (c_X11_putFour h) rfl rfl klX11_45 ki_X11_putFour ks_X11_putFour kn_X11 kc_X11_putFour 1 ⟨rfl, by decide, by decide, by decide +kernel⟩ ⟨by decide, by decide⟩ rfl hl.1 rfl (hw_cat8 (Nat.le_of_ble_eq_true rfl)) ⟨(Nat.le_refl _), (Nat.le_refl _)⟩ dX11_feed_35) hT (fun S24 H locs h_ hT_ => ?_)
    replace h := h_
    replace hT := hT_
    refine lv_aload_n (x := o) hx hb dX11_feed_38 rfl (lv_at hl 0 rfl) ?_
    refine lv_iload hx hb dX11_feed_39 (lv_at hl 5 rfl) ?_
    obtain ⟨hk27_, h⟩ := h
    refine cs_callv0 (cs_runV hx hb hml hown hK hO hT 12 hk27_ (by decide) rfl (c_X11_putFour h) rfl rfl klX11_45 ki_X11_putFour ks_X11_putFour kn_X11 kc_X11_putFour 1 ⟨rfl, by decide, by decide, by decide +kernel⟩ ⟨by decide, by decide⟩ rfl hl.1 rfl (hw_cat8 (Nat.le_of_ble_eq_true rfl)) ⟨(Nat.le_refl _), (Nat.le_refl _)⟩ dX11_feed_41) hT (fun S26 H locs h_ hT_ => ?_)
    replace h := h_
    replace hT := hT_
    refine lv_aload_n (x := o) hx hb dX11_feed_44 rfl (lv_at hl 0 rfl) ?_
    obtain ⟨hk28_, h⟩ := h
    refine cs_get hx hb hK hT hown 12 hk28_ (by decide) rfl 1 (by decide) kfX11_42 (v := .int (cs_i S26 1201 o)) rfl dX11_feed_45 ?_
    exact cs_iret hC hT h dX11_feed_48 (Nat.le_refl _) (Nat.le_refl _)
  · replace h := h.2 hc
    refine lv_iconst (v := (-1)) hx hb dX11_feed_15 (by decide) ?_
    exact cs_iret hC hT h dX11_feed_16 (Nat.le_refl _) (Nat.le_refl _)
/-! X11_end -/
abbrev rm_X11_end : Room := { frames := 0, cells := 0, slots := 0, locals := 0 }
def w_X11_end_12 (post : Int32 → cs_S → Prop) (G : Nat → Nat) (S : cs_S)  : Prop := post 0 S
section
variable {p : Program} {l : Launch} {e : Env} {s : State} {m : MethodId} {args : Array Value} {below : List Frame} {meth : Method} {c : Code} {P : hw_G} {G : Nat → Nat} {A : Nat → Prop}
set_option maxRecDepth 100000 in
set_option maxHeartbeats 4000000 in
theorem t_X11_end_12 {post : Int32 → cs_S → Prop} (hC : rf_C P RX11 p s m meth c cX11_end 2 (some .boolean)) (hin : meth.name = yX11_end.name) (hO : cs_O G A s s.heap) (S : cs_S)  (H : Heap) (locs : List Loc) (ls : Array Slot) (h : w_X11_end_12 post G S ) (hT : cs_T P s A S H locs) (hl : lv_has ls 2 []) : W p l e rm_X11_end s m args below meth c H locs 0 0 (MQ below (cs_Qi P A post) args s 0 0 A) (F0 m 12 ls []) := by
  obtain ⟨hx, hb, hml, hown, hK, -, -⟩ := id hC
  refine lv_iconst (v := 0) hx hb dX11_end_12 (by decide) ?_
  exact cs_zret hC hT rfl h dX11_end_13 (Nat.le_refl _) (Nat.le_refl _)
end
def wp_X11_end (post : Int32 → cs_S → Prop) (G : Nat → Nat) (S : cs_S) (o : Nat) (p1 : Int32) : Prop := (p1 < 0 → w_X11_end_12 post G S) ∧ (¬ p1 < 0 → cs_k S o = 13 ∧ (p1 ≤ (cs_i S 1201 o) → ∀ S4, S4 = cs_ui S 1201 o p1 → post 1 S4) ∧ (¬ p1 ≤ (cs_i S 1201 o) → w_X11_end_12 post G S))
set_option maxRecDepth 100000 in
set_option maxHeartbeats 4000000 in
theorem c_X11_end {l : Launch} {P : hw_G} {G : Nat → Nat} {S : cs_S} {sz : Nat} {o : Nat} {p1 : Int32} {post : Int32 → cs_S → Prop} (h : wp_X11_end post G S o p1) : Met l yX11_end [Cond.code yX11_end cX11_end 2 (some .boolean)] rm_X11_end (cs_Pc P G S sz [.ref o, .int p1]) (cs_Qi P (cs_A S sz) post) 0 0 (cs_A S sz) := by
  refine cs_met (by decide) rfl (Nat.le_of_ble_eq_true rfl) ?_
  intro p e s m below meth c ls hC hin hO hT hl
  obtain ⟨hx, hb, hml, hown, hK, -, -⟩ := id hC
  replace hl : lv_has ls 2 [(0, .ref o), (1, .int p1)] := hl
  refine lv_iload_n hx hb dX11_end_0 rfl (lv_at hl 1 rfl) ?_
  refine lv_if_lt (tgt := 12) hx hb dX11_end_1 (by decide) (fun hc => ?_) (fun hc => ?_)
  · replace h := h.1 hc
    exact t_X11_end_12 hC hin hO S _ _ _ h hT (lv_sub hl [] rfl)
  · replace h := h.2 hc
    refine lv_iload_n hx hb dX11_end_4 rfl (lv_at hl 1 rfl) ?_
    refine lv_aload_n (x := o) hx hb dX11_end_5 rfl (lv_at hl 0 rfl) ?_
    obtain ⟨hk3_, h⟩ := h
    refine cs_get hx hb hK hT hown 12 hk3_ (by decide) rfl 1 (by decide) kfX11_42 (v := .int (cs_i S 1201 o)) rfl dX11_end_6 ?_
    refine lv_icmp_le (tgt := 14) hx hb dX11_end_9 (by decide) (fun hc => ?_) (fun hc => ?_)
    · replace h := h.1 hc
      refine lv_aload_n (x := o) hx hb dX11_end_14 rfl (lv_at hl 0 rfl) ?_
      refine lv_iload_n hx hb dX11_end_15 rfl (lv_at hl 1 rfl) ?_
      refine cs_puti (x := p1) hx hb hK hT hown 12 hk3_ (by decide) rfl 1 (by decide) kfX11_42 rfl (tyX11_ok 1 (by decide)) rfl 1201 rfl dX11_end_16 (fun H locs hT_ => ?_)
      replace hT := hT_
      obtain ⟨S4, eS4⟩ : ∃ z, z = cs_ui S 1201 o p1 := ⟨_, rfl⟩
      rw [← eS4] at hT
      replace h := h S4 eS4
      refine lv_iconst (v := 1) hx hb dX11_end_19 (by decide) ?_
      exact cs_zret hC hT rfl h dX11_end_20 (Nat.le_refl _) (Nat.le_refl _)
    · replace h := h.2 hc
      exact t_X11_end_12 hC hin hO S _ _ _ h hT (lv_sub hl [] rfl)
/-! X11_rules -/
abbrev rm_X11_rules (mc ms : Nat) : Room := { frames := 67, cells := mc, slots := ms, locals := 2571 }
def w_X11_rules_57 (post : Int32 → cs_S → Prop) (G : Nat → Nat) (mc ms : Nat) (S : cs_S) (u v : Nat) (x0 : Nat) (x1 : Option Nat) : Prop := u ≤ mc ∧ v ≤ ms ∧ ∃ b35, x1 = some b35 ∧ cs_k S b35 = 7 ∧ cs_k S x0 = 13 ∧ ∀ S38, S38 = cs_ui S 1202 x0 (cs_i S 602 b35) → cs_k S38 x0 = 13 ∧ ∀ S40, S40 = cs_ui S38 1203 x0 ((-1)) → cs_k S40 b35 = 7 ∧ ((cs_i S40 602 b35) = 0 → u + 1 ≤ mc ∧ v + 12 ≤ ms ∧ ∀ q42, cs_k S40 q42 = 0 → ∀ S43, S43 = cs_new S40 q42 11 → cs_k S43 b35 = 7 ∧ ∀ r45, r45 = cs_r S43 600 b35 → ∃ m46 n46, u + 1 + m46 ≤ mc ∧ v + 12 + n46 ≤ ms ∧ wp_X10_init (fun S46 => cs_k S46 x0 = 13 ∧ ∀ S48, S48 = cs_ur S46 1206 x0 (some q42) → cs_k S48 x0 = 13 ∧ ∀ r50, r50 = cs_r S48 1206 x0 → ∃ b51, r50 = some b51 ∧ cs_k S48 b51 = 12 ∧ post (cs_i S48 1101 b51) S48) G m46 n46 S43 q42 r45 (cs_i S43 601 b35)) ∧ (¬ (cs_i S40 602 b35) = 0 → post (((-1)) - (cs_i S40 603 b35)) S40)
section
variable {p : Program} {l : Launch} {e : Env} {s : State} {m : MethodId} {args : Array Value} {below : List Frame} {meth : Method} {c : Code} {P : hw_G} {G : Nat → Nat} {A : Nat → Prop}
set_option maxRecDepth 100000 in
set_option maxHeartbeats 4000000 in
theorem t_X11_rules_57 {post : Int32 → cs_S → Prop} {mc ms : Nat} (hC : rf_C P RX11 p s m meth c cX11_rules 3 (some .int)) (hin : meth.name = yX11_rules.name) (hO : cs_O G A s s.heap) (S : cs_S) (u v : Nat) (x0 : Nat) (x1 : Option Nat) (H : Heap) (locs : List Loc) (ls : Array Slot) (h : w_X11_rules_57 post G mc ms S u v x0 x1) (hT : cs_T P s A S H locs) (hl : lv_has ls 3 [(0, .ref x0), (1, va_rf x1)]) : W p l e (rm_X11_rules mc ms) s m args below meth c H locs u v (MQ below (cs_Qi P A post) args s mc ms A) (F0 m 57 ls []) := by
  obtain ⟨hx, hb, hml, hown, hK, -, -⟩ := id hC
  obtain ⟨hu, hv, h⟩ := h
  refine lv_aload_n (x := x0) hx hb dX11_rules_57 rfl (lv_at hl 0 rfl) ?_
  refine hw_aload_n (x := x1) hx hb dX11_rules_58 rfl (lv_at hl 1 rfl) ?_
  obtain ⟨b35, rfl, h⟩ := h
  obtain ⟨hk36_, h⟩ := h
  refine cs_get hx hb hK hT hown 6 hk36_ (by decide) rfl 2 (by decide) kfX11_65 (v := .int (cs_i S 602 b35)) rfl dX11_rules_59 ?_
  obtain ⟨hk37_, h⟩ := h
  refine cs_puti (x := (cs_i S 602 b35)) hx hb hK hT hown 12 hk37_ (by decide) rfl 2 (by decide) kfX11_68 rfl (tyX11_ok 2 (by decide)) rfl 1202 rfl dX11_rules_62 (fun H locs hT_ => ?_)
  replace hT := hT_
  obtain ⟨S38, eS38⟩ : ∃ z, z = cs_ui S 1202 x0 (cs_i S 602 b35) := ⟨_, rfl⟩
  rw [← eS38] at hT
  replace h := h S38 eS38
  refine lv_aload_n (x := x0) hx hb dX11_rules_65 rfl (lv_at hl 0 rfl) ?_
  refine lv_iconst (v := (-1)) hx hb dX11_rules_66 (by decide) ?_
  obtain ⟨hk39_, h⟩ := h
  refine cs_puti (x := ((-1))) hx hb hK hT hown 12 hk39_ (by decide) rfl 3 (by decide) kfX11_13 rfl (tyX11_ok 3 (by decide)) rfl 1203 rfl dX11_rules_67 (fun H locs hT_ => ?_)
  replace hT := hT_
  obtain ⟨S40, eS40⟩ : ∃ z, z = cs_ui S38 1203 x0 ((-1)) := ⟨_, rfl⟩
  rw [← eS40] at hT
  replace h := h S40 eS40
  refine lv_aload_n (x := b35) hx hb dX11_rules_70 rfl (lv_at hl 1 rfl) ?_
  obtain ⟨hk41_, h⟩ := h
  refine cs_get hx hb hK hT hown 6 hk41_ (by decide) rfl 2 (by decide) kfX11_65 (v := .int (cs_i S40 602 b35)) rfl dX11_rules_71 ?_
  refine lv_if_eq (tgt := 84) hx hb dX11_rules_74 (by decide) (fun hc => ?_) (fun hc => ?_)
  · replace h := h.1 hc
    refine lv_aload_n (x := x0) hx hb dX11_rules_84 rfl (lv_at hl 0 rfl) ?_
    obtain ⟨hu42, hv42, h⟩ := h
    refine cs_newo hx hb hK hT hown 11 (by decide) rfl tyX10_ok cs_df11 kxX11_31 kj_X10 kn_X10 hu42 hv42 dX11_rules_85 (fun q42 H hq42 hT_ => ?_)
    replace h := h q42 hq42
    replace hT := hT_
    obtain ⟨S43, eS43⟩ : ∃ z, z = cs_new S40 q42 11 := ⟨_, rfl⟩
    rw [← eS43] at hT
    replace h := h S43 eS43
    refine lv_dup hx hb dX11_rules_88 rfl ?_
    refine lv_aload_n (x := b35) hx hb dX11_rules_89 rfl (lv_at hl 1 rfl) ?_
    obtain ⟨hk44_, h⟩ := h
    refine cs_get hx hb hK hT hown 6 hk44_ (by decide) rfl 0 (by decide) kfX11_70 (v := va_rf (cs_r S43 600 b35)) rfl dX11_rules_90 ?_
    refine hw_topr (fun r45 er45 => ?_)
    replace h := h r45 er45
    refine lv_aload_n (x := b35) hx hb dX11_rules_93 rfl (lv_at hl 1 rfl) ?_
    refine cs_get hx hb hK hT hown 6 hk44_ (by decide) rfl 1 (by decide) kfX11_74 (v := .int (cs_i S43 601 b35)) rfl dX11_rules_94 ?_
    obtain ⟨m46, n46, hu46, hv46, h⟩ := h
    refine cs_callv (cs_runI hx hb hml hown hK hO hT (c_X10_init h) rfl rfl klX11_35 ki_X10_init kn_X10 kc_X10_init rfl 2 ⟨by decide, by decide, by decide +kernel⟩ ⟨Nat.le_of_ble_eq_true rfl, Nat.le_of_ble_eq_true rfl⟩ rfl hl.1 rfl (hw_cat8 (Nat.le_of_ble_eq_true rfl)) ⟨hu46, hv46⟩ dX11_rules_97) hT (fun S46 H locs h_ hT_ => ?_)
    replace h := h_
    replace hT := hT_
    obtain ⟨hk47_, h⟩ := h
    refine cs_putr (x := (some q42)) hx hb hK hT hown 12 hk47_ (by decide) rfl 6 (by decide) kfX11_38 rfl (tyX11_ok 6 (by decide)) rfl 1206 rfl dX11_rules_100 (fun H locs hT_ => ?_)
    replace hT := hT_
    obtain ⟨S48, eS48⟩ : ∃ z, z = cs_ur S46 1206 x0 (some q42) := ⟨_, rfl⟩
    rw [← eS48] at hT
    replace h := h S48 eS48
    refine lv_aload_n (x := x0) hx hb dX11_rules_103 rfl (lv_at hl 0 rfl) ?_
    obtain ⟨hk49_, h⟩ := h
    refine cs_get hx hb hK hT hown 12 hk49_ (by decide) rfl 6 (by decide) kfX11_38 (v := va_rf (cs_r S48 1206 x0)) rfl dX11_rules_104 ?_
    refine hw_topr (fun r50 er50 => ?_)
    replace h := h r50 er50
    obtain ⟨b51, rfl, h⟩ := h
    obtain ⟨hk52_, h⟩ := h
    refine cs_get hx hb hK hT hown 11 hk52_ (by decide) rfl 1 (by decide) kfX11_77 (v := .int (cs_i S48 1101 b51)) rfl dX11_rules_107 ?_
    exact cs_iret hC hT h dX11_rules_110 hu46 hv46
  · replace h := h.2 hc
    refine lv_iconst (v := (-1)) hx hb dX11_rules_77 (by decide) ?_
    refine lv_aload_n (x := b35) hx hb dX11_rules_78 rfl (lv_at hl 1 rfl) ?_
    refine cs_get hx hb hK hT hown 6 hk41_ (by decide) rfl 3 (by decide) kfX11_69 (v := .int (cs_i S40 603 b35)) rfl dX11_rules_79 ?_
    refine lv_isub hx hb dX11_rules_82 ?_
    exact cs_iret hC hT h dX11_rules_83 hu hv
end
def w_X11_rules_34 (post : Int32 → cs_S → Prop) (G : Nat → Nat) (mc ms : Nat) : Nat → cs_S → Nat → Nat → Nat → Option Nat → Int32 → Prop
  | 0, _, _, _, _, _, _ => False
  | n + 1, S, u, v, x0, x1, x2 => u ≤ mc ∧ v ≤ ms ∧ (12 < x2 → w_X11_rules_57 post G mc ms S u v x0 x1) ∧ (¬ 12 < x2 → ∃ b53, x1 = some b53 ∧ cs_k S b53 = 7 ∧ wp_X5_another (fun r54 S54 => (r54 = 0 → w_X11_rules_57 post G mc ms S54 u v x0 (some b53)) ∧ (¬ r54 = 0 → cs_k S54 b53 = 7 ∧ ∃ m56 n56, u + m56 ≤ mc ∧ v + n56 ≤ ms ∧ wp_X5_readRule (fun S56 => w_X11_rules_34 post G mc ms n S56 (u + m56) (v + n56) x0 (some b53) (x2 + 1)) G m56 n56 S54 b53)) G S b53)
section
variable {p : Program} {l : Launch} {e : Env} {s : State} {m : MethodId} {args : Array Value} {below : List Frame} {meth : Method} {c : Code} {P : hw_G} {G : Nat → Nat} {A : Nat → Prop}
set_option maxRecDepth 100000 in
set_option maxHeartbeats 4000000 in
theorem t_X11_rules_34 {post : Int32 → cs_S → Prop} {mc ms : Nat} (hC : rf_C P RX11 p s m meth c cX11_rules 3 (some .int)) (hin : meth.name = yX11_rules.name) (hO : cs_O G A s s.heap) : ∀ (n : Nat) (S : cs_S) (u v : Nat) (x0 : Nat) (x1 : Option Nat) (x2 : Int32) (H : Heap) (locs : List Loc) (ls : Array Slot), w_X11_rules_34 post G mc ms n S u v x0 x1 x2 → cs_T P s A S H locs → lv_has ls 3 [(0, .ref x0), (1, va_rf x1), (2, .int x2)] → W p l e (rm_X11_rules mc ms) s m args below meth c H locs u v (MQ below (cs_Qi P A post) args s mc ms A) (F0 m 34 ls []) := by
  obtain ⟨hx, hb, hml, hown, hK, -, -⟩ := id hC
  intro n
  induction n with
  | zero => intro S u v x0 x1 x2 H locs ls h; exact False.elim h
  | succ n ih =>
    intro S u v x0 x1 x2 H locs ls h hT hl
    obtain ⟨hu, hv, h⟩ := h
    refine lv_iload_n hx hb dX11_rules_34 rfl (lv_at hl 2 rfl) ?_
    refine lv_bipush (v := 12) hx hb dX11_rules_35 (by decide) ?_
    refine lv_icmp_gt (tgt := 57) hx hb dX11_rules_37 (by decide) (fun hc => ?_) (fun hc => ?_)
    · replace h := h.1 hc
      exact t_X11_rules_57 hC hin hO S u v x0 x1 _ _ _ h hT (lv_sub hl [0, 1] rfl)
    · replace h := h.2 hc
      refine hw_aload_n (x := x1) hx hb dX11_rules_40 rfl (lv_at hl 1 rfl) ?_
      obtain ⟨b53, rfl, h⟩ := h
      obtain ⟨hk55_, h⟩ := h
      refine cs_calli0 (cs_runV hx hb hml hown hK hO hT 6 hk55_ (by decide) rfl (c_X5_another h) rfl rfl klX11_58 ki_X5_another ks_X5_another kn_X5 kc_X5_another 0 ⟨rfl, by decide, by decide, by decide +kernel⟩ ⟨Nat.le_of_ble_eq_true rfl, Nat.le_of_ble_eq_true rfl⟩ rfl hl.1 rfl (hw_cat8 (Nat.le_of_ble_eq_true rfl)) ⟨hu, hv⟩ dX11_rules_41) hT (fun r54 S54 H locs h_ hT_ => ?_)
      replace h := h_
      replace hT := hT_
      refine lv_if_eq (tgt := 57) hx hb dX11_rules_44 (by decide) (fun hc => ?_) (fun hc => ?_)
      · replace h := h.1 hc
        exact t_X11_rules_57 hC hin hO S54 u v x0 (some b53) _ _ _ h hT (lv_sub hl [0, 1] rfl)
      · replace h := h.2 hc
        refine lv_aload_n (x := b53) hx hb dX11_rules_47 rfl (lv_at hl 1 rfl) ?_
        obtain ⟨hk57_, h⟩ := h
        obtain ⟨m56, n56, hu56, hv56, h⟩ := h
        refine cs_callv (cs_runV hx hb hml hown hK hO hT 6 hk57_ (by decide) rfl (c_X5_readRule h) rfl rfl klX11_62 ki_X5_readRule ks_X5_readRule kn_X5 kc_X5_readRule 0 ⟨rfl, by decide, by decide, by decide +kernel⟩ ⟨Nat.le_of_ble_eq_true rfl, Nat.le_of_ble_eq_true rfl⟩ rfl hl.1 rfl (hw_cat8 (Nat.le_of_ble_eq_true rfl)) ⟨hu56, hv56⟩ dX11_rules_48) hT (fun S56 H locs h_ hT_ => ?_)
        replace h := h_
        replace hT := hT_
        refine lv_iinc (v := x2 + 1) (lv' := [(2, _), (0, _), (1, _)]) hx hb dX11_rules_51 hl (k := 2) rfl rfl (by decide) rfl (fun ls hl_ => ?_)
        replace hl := hl_
        refine lv_goto (tgt := 34) hx hb dX11_rules_54 (by decide) ?_
        exact ih S56 (u + m56) (v + n56) x0 (some b53) (x2 + 1) _ _ _ h hT (lv_sub hl [1, 2, 0] rfl)
end
def wp_X11_rules (post : Int32 → cs_S → Prop) (G : Nat → Nat) (mc ms : Nat) (S : cs_S) (o : Nat) : Prop := cs_k S o = 13 ∧ ∀ r59, r59 = cs_r S 1204 o → ∀ r60, r60 = cs_r S 1200 o → ∃ b61, r59 = some b61 ∧ cs_k S b61 = 10 ∧ wp_X8_scan (fun S62 => cs_k S62 o = 13 ∧ ∀ S65, S65 = cs_ui S62 1201 o 0 → 0 + 1 ≤ mc ∧ 0 + 7 ≤ ms ∧ ∀ q66, cs_k S65 q66 = 0 → ∀ S67, S67 = cs_new S65 q66 6 → cs_k S67 o = 13 ∧ ∀ r69, r69 = cs_r S67 1204 o → ∃ m70 n70, 0 + 1 + m70 ≤ mc ∧ 0 + 7 + n70 ≤ ms ∧ wp_X5_init (fun S70 => ∃ n9, w_X11_rules_34 post G mc ms n9 S70 (0 + 1 + m70) (0 + 7 + n70) o (some q66) 0) G m70 n70 S67 q66 r69) G S b61 r60 (cs_i S 1201 o)
set_option maxRecDepth 100000 in
set_option maxHeartbeats 4000000 in
theorem c_X11_rules {l : Launch} {P : hw_G} {G : Nat → Nat} {S : cs_S} {sz : Nat} {mc ms : Nat} {o : Nat} {post : Int32 → cs_S → Prop} (h : wp_X11_rules post G mc ms S o) : Met l yX11_rules [Cond.code yX11_rules cX11_rules 3 (some .int)] (rm_X11_rules mc ms) (cs_Pc P G S sz [.ref o]) (cs_Qi P (cs_A S sz) post) mc ms (cs_A S sz) := by
  refine cs_met (by decide) rfl (Nat.le_of_ble_eq_true rfl) ?_
  intro p e s m below meth c ls hC hin hO hT hl
  obtain ⟨hx, hb, hml, hown, hK, -, -⟩ := id hC
  replace hl : lv_has ls 3 [(0, .ref o)] := hl
  refine lv_aload_n (x := o) hx hb dX11_rules_0 rfl (lv_at hl 0 rfl) ?_
  obtain ⟨hk58_, h⟩ := h
  refine cs_get hx hb hK hT hown 12 hk58_ (by decide) rfl 4 (by decide) kfX11_20 (v := va_rf (cs_r S 1204 o)) rfl dX11_rules_1 ?_
  refine hw_topr (fun r59 er59 => ?_)
  replace h := h r59 er59
  refine lv_aload_n (x := o) hx hb dX11_rules_4 rfl (lv_at hl 0 rfl) ?_
  refine cs_get hx hb hK hT hown 12 hk58_ (by decide) rfl 0 (by decide) kfX11_9 (v := va_rf (cs_r S 1200 o)) rfl dX11_rules_5 ?_
  refine hw_topr (fun r60 er60 => ?_)
  replace h := h r60 er60
  refine lv_aload_n (x := o) hx hb dX11_rules_8 rfl (lv_at hl 0 rfl) ?_
  refine cs_get hx hb hK hT hown 12 hk58_ (by decide) rfl 1 (by decide) kfX11_42 (v := .int (cs_i S 1201 o)) rfl dX11_rules_9 ?_
  obtain ⟨b61, rfl, h⟩ := h
  obtain ⟨hk63_, h⟩ := h
  refine cs_callv0 (cs_runV hx hb hml hown hK hO hT 9 hk63_ (by decide) rfl (c_X8_scan h) rfl rfl klX11_49 ki_X8_scan ks_X8_scan kn_X8 kc_X8_scan 2 ⟨rfl, by decide, by decide, by decide +kernel⟩ ⟨Nat.le_of_ble_eq_true rfl, Nat.le_of_ble_eq_true rfl⟩ rfl hl.1 rfl (hw_cat8 (Nat.le_of_ble_eq_true rfl)) ⟨(Nat.zero_le _), (Nat.zero_le _)⟩ dX11_rules_12) hT (fun S62 H locs h_ hT_ => ?_)
  replace h := h_
  replace hT := hT_
  refine lv_aload_n (x := o) hx hb dX11_rules_15 rfl (lv_at hl 0 rfl) ?_
  refine lv_iconst (v := 0) hx hb dX11_rules_16 (by decide) ?_
  obtain ⟨hk64_, h⟩ := h
  refine cs_puti (x := 0) hx hb hK hT hown 12 hk64_ (by decide) rfl 1 (by decide) kfX11_42 rfl (tyX11_ok 1 (by decide)) rfl 1201 rfl dX11_rules_17 (fun H locs hT_ => ?_)
  replace hT := hT_
  obtain ⟨S65, eS65⟩ : ∃ z, z = cs_ui S62 1201 o 0 := ⟨_, rfl⟩
  rw [← eS65] at hT
  replace h := h S65 eS65
  obtain ⟨hu66, hv66, h⟩ := h
  refine cs_newo hx hb hK hT hown 6 (by decide) rfl tyX5_ok cs_df6 kxX11_53 kj_X5 kn_X5 hu66 hv66 dX11_rules_20 (fun q66 H hq66 hT_ => ?_)
  replace h := h q66 hq66
  replace hT := hT_
  obtain ⟨S67, eS67⟩ : ∃ z, z = cs_new S65 q66 6 := ⟨_, rfl⟩
  rw [← eS67] at hT
  replace h := h S67 eS67
  refine lv_dup hx hb dX11_rules_23 rfl ?_
  refine lv_aload_n (x := o) hx hb dX11_rules_24 rfl (lv_at hl 0 rfl) ?_
  obtain ⟨hk68_, h⟩ := h
  refine cs_get hx hb hK hT hown 12 hk68_ (by decide) rfl 4 (by decide) kfX11_20 (v := va_rf (cs_r S67 1204 o)) rfl dX11_rules_25 ?_
  refine hw_topr (fun r69 er69 => ?_)
  replace h := h r69 er69
  obtain ⟨m70, n70, hu70, hv70, h⟩ := h
  refine cs_callv (cs_runI hx hb hml hown hK hO hT (c_X5_init h) rfl rfl klX11_55 ki_X5_init kn_X5 kc_X5_init rfl 1 ⟨by decide, by decide, by decide +kernel⟩ ⟨Nat.le_of_ble_eq_true rfl, Nat.le_of_ble_eq_true rfl⟩ rfl hl.1 rfl (hw_cat8 (Nat.le_of_ble_eq_true rfl)) ⟨hu70, hv70⟩ dX11_rules_28) hT (fun S70 H locs h_ hT_ => ?_)
  replace h := h_
  replace hT := hT_
  refine lv_astore_n (lv' := [(1, _), (0, _)]) (x := q66) hx hb dX11_rules_31 rfl hl (by decide) rfl (fun ls hl_ => ?_)
  replace hl := hl_
  refine lv_iconst (v := 0) hx hb dX11_rules_32 (by decide) ?_
  refine lv_istore_n (lv' := [(2, _), (1, _), (0, _)]) hx hb dX11_rules_33 rfl hl (by decide) rfl (fun ls hl_ => ?_)
  replace hl := hl_
  obtain ⟨n9, h⟩ := h
  exact t_X11_rules_34 hC hin hO n9 S70 (0 + 1 + m70) (0 + 7 + n70) o (some q66) 0 _ _ _ h hT (lv_sub hl [2, 1, 0] rfl)
/-! X11_fault -/
abbrev rm_X11_fault : Room := { frames := 0, cells := 0, slots := 0, locals := 0 }
def wp_X11_fault (post : Int32 → cs_S → Prop) (G : Nat → Nat) (S : cs_S) (o : Nat) : Prop := cs_k S o = 13 ∧ post (cs_i S 1202 o) S
set_option maxRecDepth 100000 in
set_option maxHeartbeats 4000000 in
theorem c_X11_fault {l : Launch} {P : hw_G} {G : Nat → Nat} {S : cs_S} {sz : Nat} {o : Nat} {post : Int32 → cs_S → Prop} (h : wp_X11_fault post G S o) : Met l yX11_fault [Cond.code yX11_fault cX11_fault 1 (some .int)] rm_X11_fault (cs_Pc P G S sz [.ref o]) (cs_Qi P (cs_A S sz) post) 0 0 (cs_A S sz) := by
  refine cs_met (by decide) rfl (Nat.le_of_ble_eq_true rfl) ?_
  intro p e s m below meth c ls hC hin hO hT hl
  obtain ⟨hx, hb, hml, hown, hK, -, -⟩ := id hC
  replace hl : lv_has ls 1 [(0, .ref o)] := hl
  refine lv_aload_n (x := o) hx hb dX11_fault_0 rfl (lv_at hl 0 rfl) ?_
  obtain ⟨hk2_, h⟩ := h
  refine cs_get hx hb hK hT hown 12 hk2_ (by decide) rfl 2 (by decide) kfX11_68 (v := .int (cs_i S 1202 o)) rfl dX11_fault_1 ?_
  exact cs_iret hC hT h dX11_fault_4 (Nat.le_refl _) (Nat.le_refl _)
/-! X11_place -/
abbrev rm_X11_place : Room := { frames := 0, cells := 0, slots := 0, locals := 0 }
def wp_X11_place (post : Int32 → cs_S → Prop) (G : Nat → Nat) (S : cs_S) (o : Nat) : Prop := cs_k S o = 13 ∧ post (cs_i S 1203 o) S
set_option maxRecDepth 100000 in
set_option maxHeartbeats 4000000 in
theorem c_X11_place {l : Launch} {P : hw_G} {G : Nat → Nat} {S : cs_S} {sz : Nat} {o : Nat} {post : Int32 → cs_S → Prop} (h : wp_X11_place post G S o) : Met l yX11_place [Cond.code yX11_place cX11_place 1 (some .int)] rm_X11_place (cs_Pc P G S sz [.ref o]) (cs_Qi P (cs_A S sz) post) 0 0 (cs_A S sz) := by
  refine cs_met (by decide) rfl (Nat.le_of_ble_eq_true rfl) ?_
  intro p e s m below meth c ls hC hin hO hT hl
  obtain ⟨hx, hb, hml, hown, hK, -, -⟩ := id hC
  replace hl : lv_has ls 1 [(0, .ref o)] := hl
  refine lv_aload_n (x := o) hx hb dX11_place_0 rfl (lv_at hl 0 rfl) ?_
  obtain ⟨hk2_, h⟩ := h
  refine cs_get hx hb hK hT hown 12 hk2_ (by decide) rfl 3 (by decide) kfX11_13 (v := .int (cs_i S 1203 o)) rfl dX11_place_1 ?_
  exact cs_iret hC hT h dX11_place_4 (Nat.le_refl _) (Nat.le_refl _)
/-! X11_take -/
abbrev rm_X11_take (mc ms : Nat) : Room := { frames := 67, cells := mc, slots := ms, locals := 2568 }
def w_X11_take_104 (post : Int32 → cs_S → Prop) (G : Nat → Nat) (mc ms : Nat) (S : cs_S) (u v : Nat) (x0 : Nat) (x1 : Int32) : Prop := u ≤ mc ∧ v ≤ ms ∧ cs_k S x0 = 13 ∧ ∀ r48, r48 = cs_r S 1205 x0 → ∃ b49, r48 = some b49 ∧ cs_k S b49 = 8 ∧ ∀ S51, S51 = cs_ui S 1202 x0 (cs_i S 700 b49) → cs_k S51 x0 = 13 ∧ ∀ r53, r53 = cs_r S51 1205 x0 → ∃ b54, r53 = some b54 ∧ cs_k S51 b54 = 8 ∧ ∀ S56, S56 = cs_ui S51 1203 x0 (cs_i S51 701 b54) → post x1 S56
section
variable {p : Program} {l : Launch} {e : Env} {s : State} {m : MethodId} {args : Array Value} {below : List Frame} {meth : Method} {c : Code} {P : hw_G} {G : Nat → Nat} {A : Nat → Prop}
set_option maxRecDepth 100000 in
set_option maxHeartbeats 4000000 in
theorem t_X11_take_104 {post : Int32 → cs_S → Prop} {mc ms : Nat} (hC : rf_C P RX11 p s m meth c cX11_take 4 (some .int)) (hin : meth.name = yX11_take.name) (hO : cs_O G A s s.heap) (S : cs_S) (u v : Nat) (x0 : Nat) (x1 : Int32) (H : Heap) (locs : List Loc) (ls : Array Slot) (h : w_X11_take_104 post G mc ms S u v x0 x1) (hT : cs_T P s A S H locs) (hl : lv_has ls 4 [(0, .ref x0), (1, .int x1)]) : W p l e (rm_X11_take mc ms) s m args below meth c H locs u v (MQ below (cs_Qi P A post) args s mc ms A) (F0 m 104 ls []) := by
  obtain ⟨hx, hb, hml, hown, hK, -, -⟩ := id hC
  obtain ⟨hu, hv, h⟩ := h
  refine lv_aload_n (x := x0) hx hb dX11_take_104 rfl (lv_at hl 0 rfl) ?_
  refine lv_aload_n (x := x0) hx hb dX11_take_105 rfl (lv_at hl 0 rfl) ?_
  obtain ⟨hk47_, h⟩ := h
  refine cs_get hx hb hK hT hown 12 hk47_ (by decide) rfl 5 (by decide) kfX11_27 (v := va_rf (cs_r S 1205 x0)) rfl dX11_take_106 ?_
  refine hw_topr (fun r48 er48 => ?_)
  replace h := h r48 er48
  obtain ⟨b49, rfl, h⟩ := h
  obtain ⟨hk50_, h⟩ := h
  refine cs_get hx hb hK hT hown 7 hk50_ (by decide) rfl 0 (by decide) kfX11_108 (v := .int (cs_i S 700 b49)) rfl dX11_take_109 ?_
  refine cs_puti (x := (cs_i S 700 b49)) hx hb hK hT hown 12 hk47_ (by decide) rfl 2 (by decide) kfX11_68 rfl (tyX11_ok 2 (by decide)) rfl 1202 rfl dX11_take_112 (fun H locs hT_ => ?_)
  replace hT := hT_
  obtain ⟨S51, eS51⟩ : ∃ z, z = cs_ui S 1202 x0 (cs_i S 700 b49) := ⟨_, rfl⟩
  rw [← eS51] at hT
  replace h := h S51 eS51
  refine lv_aload_n (x := x0) hx hb dX11_take_115 rfl (lv_at hl 0 rfl) ?_
  refine lv_aload_n (x := x0) hx hb dX11_take_116 rfl (lv_at hl 0 rfl) ?_
  obtain ⟨hk52_, h⟩ := h
  refine cs_get hx hb hK hT hown 12 hk52_ (by decide) rfl 5 (by decide) kfX11_27 (v := va_rf (cs_r S51 1205 x0)) rfl dX11_take_117 ?_
  refine hw_topr (fun r53 er53 => ?_)
  replace h := h r53 er53
  obtain ⟨b54, rfl, h⟩ := h
  obtain ⟨hk55_, h⟩ := h
  refine cs_get hx hb hK hT hown 7 hk55_ (by decide) rfl 1 (by decide) kfX11_109 (v := .int (cs_i S51 701 b54)) rfl dX11_take_120 ?_
  refine cs_puti (x := (cs_i S51 701 b54)) hx hb hK hT hown 12 hk52_ (by decide) rfl 3 (by decide) kfX11_13 rfl (tyX11_ok 3 (by decide)) rfl 1203 rfl dX11_take_123 (fun H locs hT_ => ?_)
  replace hT := hT_
  obtain ⟨S56, eS56⟩ : ∃ z, z = cs_ui S51 1203 x0 (cs_i S51 701 b54) := ⟨_, rfl⟩
  rw [← eS56] at hT
  replace h := h S56 eS56
  refine lv_iload_n hx hb dX11_take_126 rfl (lv_at hl 1 rfl) ?_
  exact cs_iret hC hT h dX11_take_127 hu hv
end
def w_X11_take_24 (post : Int32 → cs_S → Prop) (G : Nat → Nat) (mc ms : Nat) : Nat → cs_S → Nat → Nat → Nat → Int32 → Int32 → Prop
  | 0, _, _, _, _, _, _ => False
  | n + 1, S, u, v, x0, x1, x2 => u ≤ mc ∧ v ≤ ms ∧ (2100 ≤ x2 → w_X11_take_104 post G mc ms S u v x0 x1) ∧ (¬ 2100 ≤ x2 → cs_k S x0 = 13 ∧ ∀ r58, r58 = cs_r S 1205 x0 → ∃ b59, r58 = some b59 ∧ cs_k S b59 = 8 ∧ wp_X6_more (fun r60 S60 => (r60 = 0 → w_X11_take_104 post G mc ms S60 u v x0 x1) ∧ (¬ r60 = 0 → cs_k S60 x0 = 13 ∧ ∀ r63, r63 = cs_r S60 1205 x0 → ∀ r64, r64 = cs_r S60 1206 x0 → ∃ b65, r64 = some b65 ∧ cs_k S60 b65 = 12 ∧ ∀ r67, r67 = cs_r S60 1206 x0 → ∃ b68, r67 = some b68 ∧ cs_k S60 b68 = 12 ∧ ∃ b70, r63 = some b70 ∧ cs_k S60 b70 = 8 ∧ ∃ m71 n71, u + m71 ≤ mc ∧ v + n71 ≤ ms ∧ wp_X6_readRecord (fun r71 S71 => (r71 = none → w_X11_take_104 post G mc ms S71 (u + m71) (v + n71) x0 x1) ∧ (∀ b73, r71 = some b73 → cs_k S71 x0 = 13 ∧ ∀ r75, r75 = cs_r S71 1206 x0 → cs_k S71 b73 = 5 ∧ ∃ b77, r75 = some b77 ∧ cs_k S71 b77 = 12 ∧ ∃ m78 n78, u + m71 + m78 ≤ mc ∧ v + n71 + n78 ≤ ms ∧ wp_X10_advance (fun S78 => cs_k S78 x0 = 13 ∧ ∀ r81, r81 = cs_r S78 1206 x0 → ∃ b82, r81 = some b82 ∧ cs_k S78 b82 = 12 ∧ ∃ m83 n83, u + m71 + m78 + m83 ≤ mc ∧ v + n71 + n78 + n83 ≤ ms ∧ wp_X10_arrive (fun r83 S83 => (¬ r83 = 0 → w_X11_take_24 post G mc ms n S83 (u + m71 + m78 + m83) (v + n71 + n78 + n83) x0 (x1 + 1) (x2 + 1)) ∧ (r83 = 0 → w_X11_take_104 post G mc ms S83 (u + m71 + m78 + m83) (v + n71 + n78 + n83) x0 x1)) G m83 n83 S78 b82 (some b73)) G m78 n78 S71 b77 (cs_i S71 400 b73))) G m71 n71 S60 b70 (cs_i S60 1109 b65) (cs_i S60 1108 b68))) G S b59)
section
variable {p : Program} {l : Launch} {e : Env} {s : State} {m : MethodId} {args : Array Value} {below : List Frame} {meth : Method} {c : Code} {P : hw_G} {G : Nat → Nat} {A : Nat → Prop}
set_option maxRecDepth 100000 in
set_option maxHeartbeats 4000000 in
theorem t_X11_take_24 {post : Int32 → cs_S → Prop} {mc ms : Nat} (hC : rf_C P RX11 p s m meth c cX11_take 4 (some .int)) (hin : meth.name = yX11_take.name) (hO : cs_O G A s s.heap) : ∀ (n : Nat) (S : cs_S) (u v : Nat) (x0 : Nat) (x1 : Int32) (x2 : Int32) (H : Heap) (locs : List Loc) (ls : Array Slot), w_X11_take_24 post G mc ms n S u v x0 x1 x2 → cs_T P s A S H locs → lv_has ls 4 [(0, .ref x0), (1, .int x1), (2, .int x2)] → W p l e (rm_X11_take mc ms) s m args below meth c H locs u v (MQ below (cs_Qi P A post) args s mc ms A) (F0 m 24 ls []) := by
  obtain ⟨hx, hb, hml, hown, hK, -, -⟩ := id hC
  intro n
  induction n with
  | zero => intro S u v x0 x1 x2 H locs ls h; exact False.elim h
  | succ n ih =>
    intro S u v x0 x1 x2 H locs ls h hT hl
    obtain ⟨hu, hv, h⟩ := h
    refine lv_iload_n hx hb dX11_take_24 rfl (lv_at hl 2 rfl) ?_
    refine lv_sipush (v := 2100) hx hb dX11_take_25 (by decide) ?_
    refine lv_icmp_ge (tgt := 104) hx hb dX11_take_28 (by decide) (fun hc => ?_) (fun hc => ?_)
    · replace h := h.1 hc
      exact t_X11_take_104 hC hin hO S u v x0 x1 _ _ _ h hT (lv_sub hl [0, 1] rfl)
    · replace h := h.2 hc
      refine lv_aload_n (x := x0) hx hb dX11_take_31 rfl (lv_at hl 0 rfl) ?_
      obtain ⟨hk57_, h⟩ := h
      refine cs_get hx hb hK hT hown 12 hk57_ (by decide) rfl 5 (by decide) kfX11_27 (v := va_rf (cs_r S 1205 x0)) rfl dX11_take_32 ?_
      refine hw_topr (fun r58 er58 => ?_)
      replace h := h r58 er58
      obtain ⟨b59, rfl, h⟩ := h
      obtain ⟨hk61_, h⟩ := h
      refine cs_calli0 (cs_runV hx hb hml hown hK hO hT 7 hk61_ (by decide) rfl (c_X6_more h) rfl rfl klX11_83 ki_X6_more ks_X6_more kn_X6 kc_X6_more 0 ⟨rfl, by decide, by decide, by decide +kernel⟩ ⟨Nat.le_of_ble_eq_true rfl, Nat.le_of_ble_eq_true rfl⟩ rfl hl.1 rfl (hw_cat8 (Nat.le_of_ble_eq_true rfl)) ⟨hu, hv⟩ dX11_take_35) hT (fun r60 S60 H locs h_ hT_ => ?_)
      replace h := h_
      replace hT := hT_
      refine lv_if_eq (tgt := 104) hx hb dX11_take_38 (by decide) (fun hc => ?_) (fun hc => ?_)
      · replace h := h.1 hc
        exact t_X11_take_104 hC hin hO S60 u v x0 x1 _ _ _ h hT (lv_sub hl [0, 1] rfl)
      · replace h := h.2 hc
        refine lv_aload_n (x := x0) hx hb dX11_take_41 rfl (lv_at hl 0 rfl) ?_
        obtain ⟨hk62_, h⟩ := h
        refine cs_get hx hb hK hT hown 12 hk62_ (by decide) rfl 5 (by decide) kfX11_27 (v := va_rf (cs_r S60 1205 x0)) rfl dX11_take_42 ?_
        refine hw_topr (fun r63 er63 => ?_)
        replace h := h r63 er63
        refine lv_aload_n (x := x0) hx hb dX11_take_45 rfl (lv_at hl 0 rfl) ?_
        refine cs_get hx hb hK hT hown 12 hk62_ (by decide) rfl 6 (by decide) kfX11_38 (v := va_rf (cs_r S60 1206 x0)) rfl dX11_take_46 ?_
        refine hw_topr (fun r64 er64 => ?_)
        replace h := h r64 er64
        obtain ⟨b65, rfl, h⟩ := h
        obtain ⟨hk66_, h⟩ := h
        refine cs_get hx hb hK hT hown 11 hk66_ (by decide) rfl 9 (by decide) kfX11_86 (v := .int (cs_i S60 1109 b65)) rfl dX11_take_49 ?_
        refine lv_aload_n (x := x0) hx hb dX11_take_52 rfl (lv_at hl 0 rfl) ?_
        refine cs_get hx hb hK hT hown 12 hk62_ (by decide) rfl 6 (by decide) kfX11_38 (v := va_rf (cs_r S60 1206 x0)) rfl dX11_take_53 ?_
        refine hw_topr (fun r67 er67 => ?_)
        replace h := h r67 er67
        obtain ⟨b68, rfl, h⟩ := h
        obtain ⟨hk69_, h⟩ := h
        refine cs_get hx hb hK hT hown 11 hk69_ (by decide) rfl 8 (by decide) kfX11_89 (v := .int (cs_i S60 1108 b68)) rfl dX11_take_56 ?_
        obtain ⟨b70, rfl, h⟩ := h
        obtain ⟨hk72_, h⟩ := h
        obtain ⟨m71, n71, hu71, hv71, h⟩ := h
        refine cs_callr (cs_runV hx hb hml hown hK hO hT 7 hk72_ (by decide) rfl (c_X6_readRecord h) rfl rfl klX11_92 ki_X6_readRecord ks_X6_readRecord kn_X6 kc_X6_readRecord 2 ⟨rfl, by decide, by decide, by decide +kernel⟩ ⟨Nat.le_of_ble_eq_true rfl, Nat.le_of_ble_eq_true rfl⟩ rfl hl.1 rfl (hw_cat8 (Nat.le_of_ble_eq_true rfl)) ⟨hu71, hv71⟩ dX11_take_59) hT (fun r71 S71 H locs h_ hT_ => ?_)
        replace h := h_
        replace hT := hT_
        refine hw_astore_n (lv' := [(3, _), (0, _), (1, _), (2, _)]) (x := r71) hx hb dX11_take_62 rfl hl (by decide) rfl (fun ls hl_ => ?_)
        replace hl := hl_
        refine hw_aload_n (x := r71) hx hb dX11_take_63 rfl (lv_at hl 0 rfl) ?_
        refine hw_ifnonnull (tgt := 70) hx hb dX11_take_64 (by decide) (fun b73 hc => ?_) (fun hc => ?_)
        · replace h := h.2 b73 hc
          subst hc
          refine lv_aload_n (x := x0) hx hb dX11_take_70 rfl (lv_at hl 1 rfl) ?_
          obtain ⟨hk74_, h⟩ := h
          refine cs_get hx hb hK hT hown 12 hk74_ (by decide) rfl 6 (by decide) kfX11_38 (v := va_rf (cs_r S71 1206 x0)) rfl dX11_take_71 ?_
          refine hw_topr (fun r75 er75 => ?_)
          replace h := h r75 er75
          refine lv_aload_n (x := b73) hx hb dX11_take_74 rfl (lv_at hl 0 rfl) ?_
          obtain ⟨hk76_, h⟩ := h
          refine cs_get hx hb hK hT hown 4 hk76_ (by decide) rfl 0 (by decide) kfX11_96 (v := .int (cs_i S71 400 b73)) rfl dX11_take_75 ?_
          obtain ⟨b77, rfl, h⟩ := h
          obtain ⟨hk79_, h⟩ := h
          obtain ⟨m78, n78, hu78, hv78, h⟩ := h
          refine cs_callv (cs_runV hx hb hml hown hK hO hT 11 hk79_ (by decide) rfl (c_X10_advance h) rfl rfl klX11_101 ki_X10_advance ks_X10_advance kn_X10 kc_X10_advance 1 ⟨rfl, by decide, by decide, by decide +kernel⟩ ⟨Nat.le_of_ble_eq_true rfl, Nat.le_of_ble_eq_true rfl⟩ rfl hl.1 rfl (hw_cat8 (Nat.le_of_ble_eq_true rfl)) ⟨hu78, hv78⟩ dX11_take_78) hT (fun S78 H locs h_ hT_ => ?_)
          replace h := h_
          replace hT := hT_
          refine lv_aload_n (x := x0) hx hb dX11_take_81 rfl (lv_at hl 1 rfl) ?_
          obtain ⟨hk80_, h⟩ := h
          refine cs_get hx hb hK hT hown 12 hk80_ (by decide) rfl 6 (by decide) kfX11_38 (v := va_rf (cs_r S78 1206 x0)) rfl dX11_take_82 ?_
          refine hw_topr (fun r81 er81 => ?_)
          replace h := h r81 er81
          refine lv_aload_n (x := b73) hx hb dX11_take_85 rfl (lv_at hl 0 rfl) ?_
          obtain ⟨b82, rfl, h⟩ := h
          obtain ⟨hk84_, h⟩ := h
          obtain ⟨m83, n83, hu83, hv83, h⟩ := h
          refine cs_calli (cs_runV hx hb hml hown hK hO hT 11 hk84_ (by decide) rfl (c_X10_arrive h) rfl rfl klX11_104 ki_X10_arrive ks_X10_arrive kn_X10 kc_X10_arrive 1 ⟨rfl, by decide, by decide, by decide +kernel⟩ ⟨Nat.le_of_ble_eq_true rfl, Nat.le_of_ble_eq_true rfl⟩ rfl hl.1 rfl (hw_cat8 (Nat.le_of_ble_eq_true rfl)) ⟨hu83, hv83⟩ dX11_take_86) hT (fun r83 S83 H locs h_ hT_ => ?_)
          replace h := h_
          replace hT := hT_
          refine lv_if_ne (tgt := 95) hx hb dX11_take_89 (by decide) (fun hc => ?_) (fun hc => ?_)
          · replace h := h.1 hc
            refine lv_iinc (v := x1 + 1) (lv' := [(1, _), (3, _), (0, _), (2, _)]) hx hb dX11_take_95 hl (k := 2) rfl rfl (by decide) rfl (fun ls hl_ => ?_)
            replace hl := hl_
            refine lv_iinc (v := x2 + 1) (lv' := [(2, _), (1, _), (3, _), (0, _)]) hx hb dX11_take_98 hl (k := 3) rfl rfl (by decide) rfl (fun ls hl_ => ?_)
            replace hl := hl_
            refine lv_goto (tgt := 24) hx hb dX11_take_101 (by decide) ?_
            exact ih S83 (u + m71 + m78 + m83) (v + n71 + n78 + n83) x0 (x1 + 1) (x2 + 1) _ _ _ h hT (lv_sub hl [3, 1, 0] rfl)
          · replace h := h.2 hc
            refine lv_goto (tgt := 104) hx hb dX11_take_92 (by decide) ?_
            exact t_X11_take_104 hC hin hO S83 (u + m71 + m78 + m83) (v + n71 + n78 + n83) x0 x1 _ _ _ h hT (lv_sub hl [1, 2] rfl)
        · replace h := h.1 hc
          subst hc
          refine lv_goto (tgt := 104) hx hb dX11_take_67 (by decide) ?_
          exact t_X11_take_104 hC hin hO S71 (u + m71) (v + n71) x0 x1 _ _ _ h hT (lv_sub hl [1, 2] rfl)
end
def wp_X11_take (post : Int32 → cs_S → Prop) (G : Nat → Nat) (mc ms : Nat) (S : cs_S) (o : Nat) : Prop := cs_k S o = 13 ∧ ∀ r86, r86 = cs_r S 1205 o → ∀ r87, r87 = cs_r S 1200 o → ∃ b88, r86 = some b88 ∧ cs_k S b88 = 8 ∧ wp_X6_open (fun S89 => cs_k S89 o = 13 ∧ ∀ S92, S92 = cs_ui S89 1201 o 0 → ∃ n9, w_X11_take_24 post G mc ms n9 S92 0 0 o 0 0) G S b88 r87 (cs_i S 1201 o)
set_option maxRecDepth 100000 in
set_option maxHeartbeats 4000000 in
theorem c_X11_take {l : Launch} {P : hw_G} {G : Nat → Nat} {S : cs_S} {sz : Nat} {mc ms : Nat} {o : Nat} {post : Int32 → cs_S → Prop} (h : wp_X11_take post G mc ms S o) : Met l yX11_take [Cond.code yX11_take cX11_take 4 (some .int)] (rm_X11_take mc ms) (cs_Pc P G S sz [.ref o]) (cs_Qi P (cs_A S sz) post) mc ms (cs_A S sz) := by
  refine cs_met (by decide) rfl (Nat.le_of_ble_eq_true rfl) ?_
  intro p e s m below meth c ls hC hin hO hT hl
  obtain ⟨hx, hb, hml, hown, hK, -, -⟩ := id hC
  replace hl : lv_has ls 4 [(0, .ref o)] := hl
  refine lv_aload_n (x := o) hx hb dX11_take_0 rfl (lv_at hl 0 rfl) ?_
  obtain ⟨hk85_, h⟩ := h
  refine cs_get hx hb hK hT hown 12 hk85_ (by decide) rfl 5 (by decide) kfX11_27 (v := va_rf (cs_r S 1205 o)) rfl dX11_take_1 ?_
  refine hw_topr (fun r86 er86 => ?_)
  replace h := h r86 er86
  refine lv_aload_n (x := o) hx hb dX11_take_4 rfl (lv_at hl 0 rfl) ?_
  refine cs_get hx hb hK hT hown 12 hk85_ (by decide) rfl 0 (by decide) kfX11_9 (v := va_rf (cs_r S 1200 o)) rfl dX11_take_5 ?_
  refine hw_topr (fun r87 er87 => ?_)
  replace h := h r87 er87
  refine lv_aload_n (x := o) hx hb dX11_take_8 rfl (lv_at hl 0 rfl) ?_
  refine cs_get hx hb hK hT hown 12 hk85_ (by decide) rfl 1 (by decide) kfX11_42 (v := .int (cs_i S 1201 o)) rfl dX11_take_9 ?_
  obtain ⟨b88, rfl, h⟩ := h
  obtain ⟨hk90_, h⟩ := h
  refine cs_callv0 (cs_runV hx hb hml hown hK hO hT 7 hk90_ (by decide) rfl (c_X6_open h) rfl rfl klX11_80 ki_X6_open ks_X6_open kn_X6 kc_X6_open 2 ⟨rfl, by decide, by decide, by decide +kernel⟩ ⟨Nat.le_of_ble_eq_true rfl, Nat.le_of_ble_eq_true rfl⟩ rfl hl.1 rfl (hw_cat8 (Nat.le_of_ble_eq_true rfl)) ⟨(Nat.zero_le _), (Nat.zero_le _)⟩ dX11_take_12) hT (fun S89 H locs h_ hT_ => ?_)
  replace h := h_
  replace hT := hT_
  refine lv_aload_n (x := o) hx hb dX11_take_15 rfl (lv_at hl 0 rfl) ?_
  refine lv_iconst (v := 0) hx hb dX11_take_16 (by decide) ?_
  obtain ⟨hk91_, h⟩ := h
  refine cs_puti (x := 0) hx hb hK hT hown 12 hk91_ (by decide) rfl 1 (by decide) kfX11_42 rfl (tyX11_ok 1 (by decide)) rfl 1201 rfl dX11_take_17 (fun H locs hT_ => ?_)
  replace hT := hT_
  obtain ⟨S92, eS92⟩ : ∃ z, z = cs_ui S89 1201 o 0 := ⟨_, rfl⟩
  rw [← eS92] at hT
  replace h := h S92 eS92
  refine lv_iconst (v := 0) hx hb dX11_take_20 (by decide) ?_
  refine lv_istore_n (lv' := [(1, _), (0, _)]) hx hb dX11_take_21 rfl hl (by decide) rfl (fun ls hl_ => ?_)
  replace hl := hl_
  refine lv_iconst (v := 0) hx hb dX11_take_22 (by decide) ?_
  refine lv_istore_n (lv' := [(2, _), (1, _), (0, _)]) hx hb dX11_take_23 rfl hl (by decide) rfl (fun ls hl_ => ?_)
  replace hl := hl_
  obtain ⟨n9, h⟩ := h
  exact t_X11_take_24 hC hin hO n9 S92 0 0 o 0 0 _ _ _ h hT (lv_sub hl [2, 1, 0] rfl)
/-! X11_pass -/
abbrev rm_X11_pass (mc ms : Nat) : Room := { frames := 67, cells := mc, slots := ms, locals := 2568 }
def w_X11_pass_17 (post : Int32 → cs_S → Prop) (G : Nat → Nat) (mc ms : Nat) (S : cs_S) (u v : Nat)  : Prop := u ≤ mc ∧ v ≤ ms ∧ post 0 S
section
variable {p : Program} {l : Launch} {e : Env} {s : State} {m : MethodId} {args : Array Value} {below : List Frame} {meth : Method} {c : Code} {P : hw_G} {G : Nat → Nat} {A : Nat → Prop}
set_option maxRecDepth 100000 in
set_option maxHeartbeats 4000000 in
theorem t_X11_pass_17 {post : Int32 → cs_S → Prop} {mc ms : Nat} (hC : rf_C P RX11 p s m meth c cX11_pass 2 (some .boolean)) (hin : meth.name = yX11_pass.name) (hO : cs_O G A s s.heap) (S : cs_S) (u v : Nat)  (H : Heap) (locs : List Loc) (ls : Array Slot) (h : w_X11_pass_17 post G mc ms S u v ) (hT : cs_T P s A S H locs) (hl : lv_has ls 2 []) : W p l e (rm_X11_pass mc ms) s m args below meth c H locs u v (MQ below (cs_Qi P A post) args s mc ms A) (F0 m 17 ls []) := by
  obtain ⟨hx, hb, hml, hown, hK, -, -⟩ := id hC
  obtain ⟨hu, hv, h⟩ := h
  refine lv_iconst (v := 0) hx hb dX11_pass_17 (by decide) ?_
  exact cs_zret hC hT rfl h dX11_pass_18 hu hv
end
def wp_X11_pass (post : Int32 → cs_S → Prop) (G : Nat → Nat) (mc ms : Nat) (S : cs_S) (o : Nat) (p1 : Int32) : Prop := cs_k S o = 13 ∧ ∀ r10, r10 = cs_r S 1206 o → ∃ b11, r10 = some b11 ∧ cs_k S b11 = 12 ∧ (p1 < (cs_i S 1108 b11) → w_X11_pass_17 post G mc ms S 0 0) ∧ (¬ p1 < (cs_i S 1108 b11) → (p1 ≤ 2000000000 → ∀ r13, r13 = cs_r S 1206 o → ∃ b14, r13 = some b14 ∧ cs_k S b14 = 12 ∧ ∃ m15 n15, 0 + m15 ≤ mc ∧ 0 + n15 ≤ ms ∧ wp_X10_advance (fun S15 => post 1 S15) G m15 n15 S b14 p1) ∧ (¬ p1 ≤ 2000000000 → w_X11_pass_17 post G mc ms S 0 0))
set_option maxRecDepth 100000 in
set_option maxHeartbeats 4000000 in
theorem c_X11_pass {l : Launch} {P : hw_G} {G : Nat → Nat} {S : cs_S} {sz : Nat} {mc ms : Nat} {o : Nat} {p1 : Int32} {post : Int32 → cs_S → Prop} (h : wp_X11_pass post G mc ms S o p1) : Met l yX11_pass [Cond.code yX11_pass cX11_pass 2 (some .boolean)] (rm_X11_pass mc ms) (cs_Pc P G S sz [.ref o, .int p1]) (cs_Qi P (cs_A S sz) post) mc ms (cs_A S sz) := by
  refine cs_met (by decide) rfl (Nat.le_of_ble_eq_true rfl) ?_
  intro p e s m below meth c ls hC hin hO hT hl
  obtain ⟨hx, hb, hml, hown, hK, -, -⟩ := id hC
  replace hl : lv_has ls 2 [(0, .ref o), (1, .int p1)] := hl
  refine lv_iload_n hx hb dX11_pass_0 rfl (lv_at hl 1 rfl) ?_
  refine lv_aload_n (x := o) hx hb dX11_pass_1 rfl (lv_at hl 0 rfl) ?_
  obtain ⟨hk9_, h⟩ := h
  refine cs_get hx hb hK hT hown 12 hk9_ (by decide) rfl 6 (by decide) kfX11_38 (v := va_rf (cs_r S 1206 o)) rfl dX11_pass_2 ?_
  refine hw_topr (fun r10 er10 => ?_)
  replace h := h r10 er10
  obtain ⟨b11, rfl, h⟩ := h
  obtain ⟨hk12_, h⟩ := h
  refine cs_get hx hb hK hT hown 11 hk12_ (by decide) rfl 8 (by decide) kfX11_89 (v := .int (cs_i S 1108 b11)) rfl dX11_pass_5 ?_
  refine lv_icmp_lt (tgt := 17) hx hb dX11_pass_8 (by decide) (fun hc => ?_) (fun hc => ?_)
  · replace h := h.1 hc
    exact t_X11_pass_17 hC hin hO S 0 0 _ _ _ h hT (lv_sub hl [] rfl)
  · replace h := h.2 hc
    refine lv_iload_n hx hb dX11_pass_11 rfl (lv_at hl 1 rfl) ?_
    refine lv_ldc (v := 2000000000) hx hb hown (hK.word kkX11_110 rfl) dX11_pass_12 ?_
    refine lv_icmp_le (tgt := 19) hx hb dX11_pass_14 (by decide) (fun hc => ?_) (fun hc => ?_)
    · replace h := h.1 hc
      refine lv_aload_n (x := o) hx hb dX11_pass_19 rfl (lv_at hl 0 rfl) ?_
      refine cs_get hx hb hK hT hown 12 hk9_ (by decide) rfl 6 (by decide) kfX11_38 (v := va_rf (cs_r S 1206 o)) rfl dX11_pass_20 ?_
      refine hw_topr (fun r13 er13 => ?_)
      replace h := h r13 er13
      refine lv_iload_n hx hb dX11_pass_23 rfl (lv_at hl 1 rfl) ?_
      obtain ⟨b14, rfl, h⟩ := h
      obtain ⟨hk16_, h⟩ := h
      obtain ⟨m15, n15, hu15, hv15, h⟩ := h
      refine cs_callv (cs_runV hx hb hml hown hK hO hT 11 hk16_ (by decide) rfl (c_X10_advance h) rfl rfl klX11_101 ki_X10_advance ks_X10_advance kn_X10 kc_X10_advance 1 ⟨rfl, by decide, by decide, by decide +kernel⟩ ⟨Nat.le_of_ble_eq_true rfl, Nat.le_of_ble_eq_true rfl⟩ rfl hl.1 rfl (hw_cat8 (Nat.le_of_ble_eq_true rfl)) ⟨hu15, hv15⟩ dX11_pass_24) hT (fun S15 H locs h_ hT_ => ?_)
      replace h := h_
      replace hT := hT_
      refine lv_iconst (v := 1) hx hb dX11_pass_27 (by decide) ?_
      exact cs_zret hC hT rfl h dX11_pass_28 hu15 hv15
    · replace h := h.2 hc
      exact t_X11_pass_17 hC hin hO S 0 0 _ _ _ h hT (lv_sub hl [] rfl)
/-! X11_count -/
abbrev rm_X11_count : Room := { frames := 0, cells := 0, slots := 0, locals := 0 }
def wp_X11_count (post : Int32 → cs_S → Prop) (G : Nat → Nat) (S : cs_S) (o : Nat) (p1 : Int32) : Prop := (p1.toInt < 0 ∨ 7 < p1.toInt → post ((-1)) S) ∧ (p1.toInt = 0 → cs_k S o = 13 ∧ ∀ r31, r31 = cs_r S 1206 o → ∃ b32, r31 = some b32 ∧ cs_k S b32 = 12 ∧ post (cs_i S 1101 b32) S) ∧ (p1.toInt = 1 → cs_k S o = 13 ∧ ∀ r35, r35 = cs_r S 1206 o → ∃ b36, r35 = some b36 ∧ cs_k S b36 = 12 ∧ post (cs_i S 1104 b36) S) ∧ (p1.toInt = 2 → cs_k S o = 13 ∧ ∀ r39, r39 = cs_r S 1206 o → ∃ b40, r39 = some b40 ∧ cs_k S b40 = 12 ∧ post (cs_i S 1105 b40) S) ∧ (p1.toInt = 3 → cs_k S o = 13 ∧ ∀ r43, r43 = cs_r S 1206 o → ∃ b44, r43 = some b44 ∧ cs_k S b44 = 12 ∧ post (cs_i S 1106 b44) S) ∧ (p1.toInt = 4 → cs_k S o = 13 ∧ ∀ r47, r47 = cs_r S 1206 o → ∃ b48, r47 = some b48 ∧ cs_k S b48 = 12 ∧ post (cs_i S 1107 b48) S) ∧ (p1.toInt = 5 → cs_k S o = 13 ∧ ∀ r51, r51 = cs_r S 1206 o → ∃ b52, r51 = some b52 ∧ cs_k S b52 = 12 ∧ post (cs_i S 1108 b52) S) ∧ (p1.toInt = 6 → cs_k S o = 13 ∧ post (cs_i S 1201 o) S) ∧ (p1.toInt = 7 → cs_k S o = 13 ∧ ∀ r56, r56 = cs_r S 1205 o → ∃ b57, r56 = some b57 ∧ cs_k S b57 = 8 ∧ post (cs_i S 703 b57) S)
set_option maxRecDepth 100000 in
set_option maxHeartbeats 4000000 in
theorem c_X11_count {l : Launch} {P : hw_G} {G : Nat → Nat} {S : cs_S} {sz : Nat} {o : Nat} {p1 : Int32} {post : Int32 → cs_S → Prop} (h : wp_X11_count post G S o p1) : Met l yX11_count [Cond.code yX11_count cX11_count 2 (some .int)] rm_X11_count (cs_Pc P G S sz [.ref o, .int p1]) (cs_Qi P (cs_A S sz) post) 0 0 (cs_A S sz) := by
  refine cs_met (by decide) rfl (Nat.le_of_ble_eq_true rfl) ?_
  intro p e s m below meth c ls hC hin hO hT hl
  obtain ⟨hx, hb, hml, hown, hK, -, -⟩ := id hC
  replace hl : lv_has ls 2 [(0, .ref o), (1, .int p1)] := hl
  refine lv_iload_n hx hb dX11_count_0 rfl (lv_at hl 1 rfl) ?_
  by_cases hz : p1.toInt < 0 ∨ 7 < p1.toInt
  · replace h := h.1 hz
    refine lv_tableOut (tgt := 109) hx hb dX11_count_1 hz (by decide) ?_
    refine lv_iconst (v := (-1)) hx hb dX11_count_109 (by decide) ?_
    exact cs_iret hC hT h dX11_count_110 (Nat.le_refl _) (Nat.le_refl _)
  have hz : p1.toInt = 0 ∨ p1.toInt = 1 ∨ p1.toInt = 2 ∨ p1.toInt = 3 ∨ p1.toInt = 4 ∨ p1.toInt = 5 ∨ p1.toInt = 6 ∨ p1.toInt = 7 := by omega
  rcases hz with hz | hz | hz | hz | hz | hz | hz | hz
  · replace h := h.2.1 hz
    refine hw_tab (tgt := 48) hx hb hz dX11_count_1 (by decide) (by decide) (off := 47) rfl (by decide) ?_
    refine lv_aload_n (x := o) hx hb dX11_count_48 rfl (lv_at hl 0 rfl) ?_
    obtain ⟨hk30_, h⟩ := h
    refine cs_get hx hb hK hT hown 12 hk30_ (by decide) rfl 6 (by decide) kfX11_38 (v := va_rf (cs_r S 1206 o)) rfl dX11_count_49 ?_
    refine hw_topr (fun r31 er31 => ?_)
    replace h := h r31 er31
    obtain ⟨b32, rfl, h⟩ := h
    obtain ⟨hk33_, h⟩ := h
    refine cs_get hx hb hK hT hown 11 hk33_ (by decide) rfl 1 (by decide) kfX11_77 (v := .int (cs_i S 1101 b32)) rfl dX11_count_52 ?_
    exact cs_iret hC hT h dX11_count_55 (Nat.le_refl _) (Nat.le_refl _)
  · replace h := h.2.2.1 hz
    refine hw_tab (tgt := 56) hx hb hz dX11_count_1 (by decide) (by decide) (off := 55) rfl (by decide) ?_
    refine lv_aload_n (x := o) hx hb dX11_count_56 rfl (lv_at hl 0 rfl) ?_
    obtain ⟨hk34_, h⟩ := h
    refine cs_get hx hb hK hT hown 12 hk34_ (by decide) rfl 6 (by decide) kfX11_38 (v := va_rf (cs_r S 1206 o)) rfl dX11_count_57 ?_
    refine hw_topr (fun r35 er35 => ?_)
    replace h := h r35 er35
    obtain ⟨b36, rfl, h⟩ := h
    obtain ⟨hk37_, h⟩ := h
    refine cs_get hx hb hK hT hown 11 hk37_ (by decide) rfl 4 (by decide) kfX11_111 (v := .int (cs_i S 1104 b36)) rfl dX11_count_60 ?_
    exact cs_iret hC hT h dX11_count_63 (Nat.le_refl _) (Nat.le_refl _)
  · replace h := h.2.2.2.1 hz
    refine hw_tab (tgt := 64) hx hb hz dX11_count_1 (by decide) (by decide) (off := 63) rfl (by decide) ?_
    refine lv_aload_n (x := o) hx hb dX11_count_64 rfl (lv_at hl 0 rfl) ?_
    obtain ⟨hk38_, h⟩ := h
    refine cs_get hx hb hK hT hown 12 hk38_ (by decide) rfl 6 (by decide) kfX11_38 (v := va_rf (cs_r S 1206 o)) rfl dX11_count_65 ?_
    refine hw_topr (fun r39 er39 => ?_)
    replace h := h r39 er39
    obtain ⟨b40, rfl, h⟩ := h
    obtain ⟨hk41_, h⟩ := h
    refine cs_get hx hb hK hT hown 11 hk41_ (by decide) rfl 5 (by decide) kfX11_114 (v := .int (cs_i S 1105 b40)) rfl dX11_count_68 ?_
    exact cs_iret hC hT h dX11_count_71 (Nat.le_refl _) (Nat.le_refl _)
  · replace h := h.2.2.2.2.1 hz
    refine hw_tab (tgt := 72) hx hb hz dX11_count_1 (by decide) (by decide) (off := 71) rfl (by decide) ?_
    refine lv_aload_n (x := o) hx hb dX11_count_72 rfl (lv_at hl 0 rfl) ?_
    obtain ⟨hk42_, h⟩ := h
    refine cs_get hx hb hK hT hown 12 hk42_ (by decide) rfl 6 (by decide) kfX11_38 (v := va_rf (cs_r S 1206 o)) rfl dX11_count_73 ?_
    refine hw_topr (fun r43 er43 => ?_)
    replace h := h r43 er43
    obtain ⟨b44, rfl, h⟩ := h
    obtain ⟨hk45_, h⟩ := h
    refine cs_get hx hb hK hT hown 11 hk45_ (by decide) rfl 6 (by decide) kfX11_117 (v := .int (cs_i S 1106 b44)) rfl dX11_count_76 ?_
    exact cs_iret hC hT h dX11_count_79 (Nat.le_refl _) (Nat.le_refl _)
  · replace h := h.2.2.2.2.2.1 hz
    refine hw_tab (tgt := 80) hx hb hz dX11_count_1 (by decide) (by decide) (off := 79) rfl (by decide) ?_
    refine lv_aload_n (x := o) hx hb dX11_count_80 rfl (lv_at hl 0 rfl) ?_
    obtain ⟨hk46_, h⟩ := h
    refine cs_get hx hb hK hT hown 12 hk46_ (by decide) rfl 6 (by decide) kfX11_38 (v := va_rf (cs_r S 1206 o)) rfl dX11_count_81 ?_
    refine hw_topr (fun r47 er47 => ?_)
    replace h := h r47 er47
    obtain ⟨b48, rfl, h⟩ := h
    obtain ⟨hk49_, h⟩ := h
    refine cs_get hx hb hK hT hown 11 hk49_ (by decide) rfl 7 (by decide) kfX11_120 (v := .int (cs_i S 1107 b48)) rfl dX11_count_84 ?_
    exact cs_iret hC hT h dX11_count_87 (Nat.le_refl _) (Nat.le_refl _)
  · replace h := h.2.2.2.2.2.2.1 hz
    refine hw_tab (tgt := 88) hx hb hz dX11_count_1 (by decide) (by decide) (off := 87) rfl (by decide) ?_
    refine lv_aload_n (x := o) hx hb dX11_count_88 rfl (lv_at hl 0 rfl) ?_
    obtain ⟨hk50_, h⟩ := h
    refine cs_get hx hb hK hT hown 12 hk50_ (by decide) rfl 6 (by decide) kfX11_38 (v := va_rf (cs_r S 1206 o)) rfl dX11_count_89 ?_
    refine hw_topr (fun r51 er51 => ?_)
    replace h := h r51 er51
    obtain ⟨b52, rfl, h⟩ := h
    obtain ⟨hk53_, h⟩ := h
    refine cs_get hx hb hK hT hown 11 hk53_ (by decide) rfl 8 (by decide) kfX11_89 (v := .int (cs_i S 1108 b52)) rfl dX11_count_92 ?_
    exact cs_iret hC hT h dX11_count_95 (Nat.le_refl _) (Nat.le_refl _)
  · replace h := h.2.2.2.2.2.2.2.1 hz
    refine hw_tab (tgt := 96) hx hb hz dX11_count_1 (by decide) (by decide) (off := 95) rfl (by decide) ?_
    refine lv_aload_n (x := o) hx hb dX11_count_96 rfl (lv_at hl 0 rfl) ?_
    obtain ⟨hk54_, h⟩ := h
    refine cs_get hx hb hK hT hown 12 hk54_ (by decide) rfl 1 (by decide) kfX11_42 (v := .int (cs_i S 1201 o)) rfl dX11_count_97 ?_
    exact cs_iret hC hT h dX11_count_100 (Nat.le_refl _) (Nat.le_refl _)
  · replace h := h.2.2.2.2.2.2.2.2 hz
    refine hw_tab (tgt := 101) hx hb hz dX11_count_1 (by decide) (by decide) (off := 100) rfl (by decide) ?_
    refine lv_aload_n (x := o) hx hb dX11_count_101 rfl (lv_at hl 0 rfl) ?_
    obtain ⟨hk55_, h⟩ := h
    refine cs_get hx hb hK hT hown 12 hk55_ (by decide) rfl 5 (by decide) kfX11_27 (v := va_rf (cs_r S 1205 o)) rfl dX11_count_102 ?_
    refine hw_topr (fun r56 er56 => ?_)
    replace h := h r56 er56
    obtain ⟨b57, rfl, h⟩ := h
    obtain ⟨hk58_, h⟩ := h
    refine cs_get hx hb hK hT hown 7 hk58_ (by decide) rfl 3 (by decide) kfX11_123 (v := .int (cs_i S 703 b57)) rfl dX11_count_105 ?_
    exact cs_iret hC hT h dX11_count_108 (Nat.le_refl _) (Nat.le_refl _)

