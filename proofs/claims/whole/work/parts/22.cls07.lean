/-! Jx4a65c_size_8abf5 -/
abbrev rm_Jx4a65c_size_8abf5 : Room := { frames := 0, cells := 0, slots := 0, locals := 0 }
def wp_Jx4a65c_size_8abf5 (post : Int32 → cs_S → Prop) (G : Nat → Nat) (S : cs_S) (o : Nat) : Prop := cs_k S o = 1 ∧ post (cs_i S 2 o) S
set_option maxRecDepth 100000 in
set_option maxHeartbeats 4000000 in
theorem c_Jx4a65c_size_8abf5 {l : Launch} {P : hw_G} {G : Nat → Nat} {S : cs_S} {sz : Nat} {o : Nat} {post : Int32 → cs_S → Prop} (h : wp_Jx4a65c_size_8abf5 post G S o) : Met l yJx4a65c_size_8abf5 [Cond.code yJx4a65c_size_8abf5 cJx4a65c_size_8abf5 1 (some .int)] rm_Jx4a65c_size_8abf5 (cs_Pc P G S sz [.ref o]) (cs_Qi P (cs_A S sz) post) 0 0 (cs_A S sz) := by
  refine cs_met (by decide) rfl (Nat.le_of_ble_eq_true rfl) ?_
  intro p e s m below meth c ls hC hin hO hT hl
  obtain ⟨hx, hb, hml, hown, hK, -, -⟩ := id hC
  replace hl : lv_has ls 1 [(0, .ref o)] := hl
  refine lv_aload_n (x := o) hx hb dJx4a65c_size_8abf5_0 rfl (lv_at hl 0 rfl) ?_
  obtain ⟨hk2_, h⟩ := h
  refine cs_get hx hb hK hT hown 0 hk2_ (by decide) rfl 2 (by decide) kfJx4a65c_48 (v := .int (cs_i S 2 o)) rfl dJx4a65c_size_8abf5_1 ?_
  exact cs_iret hC hT h dJx4a65c_size_8abf5_4 (Nat.le_refl _) (Nat.le_refl _)
/-! J15_checkIndex_7cf53 -/
abbrev rm_J15_checkIndex_7cf53 : Room := { frames := 1, cells := 0, slots := 0, locals := 22 }
def wp_J15_checkIndex_7cf53 (post : Int32 → cs_S → Prop) (G : Nat → Nat) (S : cs_S) (p0 : Int32) (p1 : Int32) : Prop := wp_J3_checkIndex_8e157 (fun r2 S2 => post r2 S2) G S p0 p1 none
set_option maxRecDepth 100000 in
set_option maxHeartbeats 4000000 in
theorem c_J15_checkIndex_7cf53 {l : Launch} {P : hw_G} {G : Nat → Nat} {S : cs_S} {sz : Nat} {p0 : Int32} {p1 : Int32} {post : Int32 → cs_S → Prop} (h : wp_J15_checkIndex_7cf53 post G S p0 p1) : Met l yJ15_checkIndex_7cf53 [Cond.code yJ15_checkIndex_7cf53 cJ15_checkIndex_7cf53 2 (some .int)] rm_J15_checkIndex_7cf53 (cs_Pc P G S sz [.int p0, .int p1]) (cs_Qi P (cs_A S sz) post) 0 0 (cs_A S sz) := by
  refine cs_met (by decide) rfl (Nat.le_of_ble_eq_true rfl) ?_
  intro p e s m below meth c ls hC hin hO hT hl
  obtain ⟨hx, hb, hml, hown, hK, -, -⟩ := id hC
  replace hl : lv_has ls 2 [(0, .int p0), (1, .int p1)] := hl
  refine lv_iload_n hx hb dJ15_checkIndex_7cf53_0 rfl (lv_at hl 0 rfl) ?_
  refine lv_iload_n hx hb dJ15_checkIndex_7cf53_1 rfl (lv_at hl 1 rfl) ?_
  refine hw_null hx hb dJ15_checkIndex_7cf53_2 ?_
  refine cs_calli0 (cs_runS hx hb hml hown hK hO hT (c_J3_checkIndex_8e157 h) rfl rfl klJ15_105 ki_J3_checkIndex_8e157 kn_J3 kc_J3_checkIndex_8e157 3 ⟨by decide, by decide, by decide +kernel⟩ ⟨by decide, by decide⟩ rfl hl.1 rfl (hw_cat8 (Nat.le_of_ble_eq_true rfl)) ⟨(Nat.le_refl _), (Nat.le_refl _)⟩ dJ15_checkIndex_7cf53_3) hT (fun r2 S2 H locs h_ hT_ => ?_)
  replace h := h_
  replace hT := hT_
  exact cs_iret hC hT h dJ15_checkIndex_7cf53_6 (Nat.le_refl _) (Nat.le_refl _)
/-! Jx4a65c_elementData_915e3 -/
abbrev rm_Jx4a65c_elementData_915e3 : Room := { frames := 0, cells := 0, slots := 0, locals := 0 }
def wp_Jx4a65c_elementData_915e3 (post : Option Nat → cs_S → Prop) (G : Nat → Nat) (S : cs_S) (o : Nat) (p1 : Int32) : Prop := cs_k S o = 1 ∧ ∀ r7, r7 = cs_r S 1 o → ∃ b8, r7 = some b8 ∧ cs_k S b8 = 27 ∧ vp_in p1 (cs_n S b8) ∧ ∀ r10, r10 = cs_ar S b8 p1.toNatClampNeg → post r10 S
set_option maxRecDepth 100000 in
set_option maxHeartbeats 4000000 in
theorem c_Jx4a65c_elementData_915e3 {l : Launch} {P : hw_G} {G : Nat → Nat} {S : cs_S} {sz : Nat} {o : Nat} {p1 : Int32} {post : Option Nat → cs_S → Prop} (h : wp_Jx4a65c_elementData_915e3 post G S o p1) : Met l yJx4a65c_elementData_915e3 [Cond.code yJx4a65c_elementData_915e3 cJx4a65c_elementData_915e3 2 (some (.object "java/lang/Object"))] rm_Jx4a65c_elementData_915e3 (cs_Pc P G S sz [.ref o, .int p1]) (cs_Qr P (cs_A S sz) post) 0 0 (cs_A S sz) := by
  refine cs_met (by decide) rfl (Nat.le_of_ble_eq_true rfl) ?_
  intro p e s m below meth c ls hC hin hO hT hl
  obtain ⟨hx, hb, hml, hown, hK, -, -⟩ := id hC
  replace hl : lv_has ls 2 [(0, .ref o), (1, .int p1)] := hl
  refine lv_aload_n (x := o) hx hb dJx4a65c_elementData_915e3_0 rfl (lv_at hl 0 rfl) ?_
  obtain ⟨hk6_, h⟩ := h
  refine cs_get hx hb hK hT hown 0 hk6_ (by decide) rfl 1 (by decide) kfJx4a65c_9 (v := va_rf (cs_r S 1 o)) rfl dJx4a65c_elementData_915e3_1 ?_
  refine hw_topr (fun r7 er7 => ?_)
  replace h := h r7 er7
  refine lv_iload_n hx hb dJx4a65c_elementData_915e3_4 rfl (lv_at hl 1 rfl) ?_
  obtain ⟨b8, rfl, h⟩ := h
  obtain ⟨hk9_, h⟩ := h
  obtain ⟨hi, h⟩ := h
  refine cs_aald hx hb hK hT 27 hk9_ (by decide) rfl (by decide) hi dJx4a65c_elementData_915e3_5 ?_
  refine hw_topr (fun r10 er10 => ?_)
  replace h := h r10 er10
  exact cs_aret (v := r10) hC (Or.inl ⟨_, rfl⟩) hT h dJx4a65c_elementData_915e3_6 (Nat.le_refl _) (Nat.le_refl _)
/-! Jx4a65c_get_915e3 -/
abbrev rm_Jx4a65c_get_915e3 : Room := { frames := 2, cells := 0, slots := 0, locals := 43 }
def wp_Jx4a65c_get_915e3 (post : Option Nat → cs_S → Prop) (G : Nat → Nat) (S : cs_S) (o : Nat) (p1 : Int32) : Prop := cs_k S o = 1 ∧ wp_J15_checkIndex_7cf53 (fun r6 S6 => cs_k S6 o = 1 ∧ wp_Jx4a65c_elementData_915e3 (fun r7 S7 => post r7 S7) G S6 o p1) G S p1 (cs_i S 2 o)
set_option maxRecDepth 100000 in
set_option maxHeartbeats 4000000 in
theorem c_Jx4a65c_get_915e3 {l : Launch} {P : hw_G} {G : Nat → Nat} {S : cs_S} {sz : Nat} {o : Nat} {p1 : Int32} {post : Option Nat → cs_S → Prop} (h : wp_Jx4a65c_get_915e3 post G S o p1) : Met l yJx4a65c_get_915e3 [Cond.code yJx4a65c_get_915e3 cJx4a65c_get_915e3 2 (some (.object "java/lang/Object"))] rm_Jx4a65c_get_915e3 (cs_Pc P G S sz [.ref o, .int p1]) (cs_Qr P (cs_A S sz) post) 0 0 (cs_A S sz) := by
  refine cs_met (by decide) rfl (Nat.le_of_ble_eq_true rfl) ?_
  intro p e s m below meth c ls hC hin hO hT hl
  obtain ⟨hx, hb, hml, hown, hK, -, -⟩ := id hC
  replace hl : lv_has ls 2 [(0, .ref o), (1, .int p1)] := hl
  refine lv_iload_n hx hb dJx4a65c_get_915e3_0 rfl (lv_at hl 1 rfl) ?_
  refine lv_aload_n (x := o) hx hb dJx4a65c_get_915e3_1 rfl (lv_at hl 0 rfl) ?_
  obtain ⟨hk5_, h⟩ := h
  refine cs_get hx hb hK hT hown 0 hk5_ (by decide) rfl 2 (by decide) kfJx4a65c_48 (v := .int (cs_i S 2 o)) rfl dJx4a65c_get_915e3_2 ?_
  refine cs_calli0 (cs_runS hx hb hml hown hK hO hT (c_J15_checkIndex_7cf53 h) rfl rfl klJx4a65c_118 ki_J15_checkIndex_7cf53 kn_J15 kc_J15_checkIndex_7cf53 2 ⟨by decide, by decide, by decide +kernel⟩ ⟨by decide, by decide⟩ rfl hl.1 rfl (hw_cat8 (Nat.le_of_ble_eq_true rfl)) ⟨(Nat.le_refl _), (Nat.le_refl _)⟩ dJx4a65c_get_915e3_5) hT (fun r6 S6 H locs h_ hT_ => ?_)
  replace h := h_
  replace hT := hT_
  refine lv_pop hx hb dJx4a65c_get_915e3_8 rfl ?_
  refine lv_aload_n (x := o) hx hb dJx4a65c_get_915e3_9 rfl (lv_at hl 0 rfl) ?_
  refine lv_iload_n hx hb dJx4a65c_get_915e3_10 rfl (lv_at hl 1 rfl) ?_
  obtain ⟨hk8_, h⟩ := h
  refine cs_callr0 (cs_runV hx hb hml hown hK hO hT 0 hk8_ (by decide) rfl (c_Jx4a65c_elementData_915e3 h) rfl rfl klJx4a65c_123 ki_Jx4a65c_elementData_915e3 ks_Jx4a65c_elementData_915e3 kn_Jx4a65c kc_Jx4a65c_elementData_915e3 1 ⟨rfl, by decide, by decide, by decide +kernel⟩ ⟨by decide, by decide⟩ rfl hl.1 rfl (hw_cat8 (Nat.le_of_ble_eq_true rfl)) ⟨(Nat.le_refl _), (Nat.le_refl _)⟩ dJx4a65c_get_915e3_11) hT (fun r7 S7 H locs h_ hT_ => ?_)
  replace h := h_
  replace hT := hT_
  exact cs_aret (v := r7) hC (Or.inl ⟨_, rfl⟩) hT h dJx4a65c_get_915e3_14 (Nat.le_refl _) (Nat.le_refl _)
/-! X10_toldAt -/
abbrev rm_X10_toldAt : Room := { frames := 3, cells := 0, slots := 0, locals := 64 }
def w_X10_toldAt_30 (post : Option Nat → cs_S → Prop) (G : Nat → Nat) (S : cs_S) (y0 : Option Nat) : Prop := post y0 S
section
variable {p : Program} {l : Launch} {e : Env} {s : State} {m : MethodId} {args : Array Value} {below : List Frame} {meth : Method} {c : Code} {P : hw_G} {G : Nat → Nat} {A : Nat → Prop}
set_option maxRecDepth 100000 in
set_option maxHeartbeats 4000000 in
theorem t_X10_toldAt_30 {post : Option Nat → cs_S → Prop} (hC : rf_C P RX10 p s m meth c cX10_toldAt 2 (some (.object "WatchHouse$Alert"))) (hin : meth.name = yX10_toldAt.name) (hO : cs_O G A s s.heap) (S : cs_S) (y0 : Option Nat) (H : Heap) (locs : List Loc) (ls : Array Slot) (h : w_X10_toldAt_30 post G S y0) (hT : cs_T P s A S H locs) (hl : lv_has ls 2 []) : W p l e rm_X10_toldAt s m args below meth c H locs 0 0 (MQ below (cs_Qr P A post) args s 0 0 A) (F0 m 30 ls [va_rf y0]) := by
  obtain ⟨hx, hb, hml, hown, hK, -, -⟩ := id hC
  exact cs_aret (v := y0) hC (Or.inl ⟨_, rfl⟩) hT h dX10_toldAt_30 (Nat.le_refl _) (Nat.le_refl _)
end
def w_X10_toldAt_15 (post : Option Nat → cs_S → Prop) (G : Nat → Nat) (S : cs_S)  : Prop := w_X10_toldAt_30 post G S none
section
variable {p : Program} {l : Launch} {e : Env} {s : State} {m : MethodId} {args : Array Value} {below : List Frame} {meth : Method} {c : Code} {P : hw_G} {G : Nat → Nat} {A : Nat → Prop}
set_option maxRecDepth 100000 in
set_option maxHeartbeats 4000000 in
theorem t_X10_toldAt_15 {post : Option Nat → cs_S → Prop} (hC : rf_C P RX10 p s m meth c cX10_toldAt 2 (some (.object "WatchHouse$Alert"))) (hin : meth.name = yX10_toldAt.name) (hO : cs_O G A s s.heap) (S : cs_S)  (H : Heap) (locs : List Loc) (ls : Array Slot) (h : w_X10_toldAt_15 post G S ) (hT : cs_T P s A S H locs) (hl : lv_has ls 2 []) : W p l e rm_X10_toldAt s m args below meth c H locs 0 0 (MQ below (cs_Qr P A post) args s 0 0 A) (F0 m 15 ls []) := by
  obtain ⟨hx, hb, hml, hown, hK, -, -⟩ := id hC
  refine hw_null hx hb dX10_toldAt_15 ?_
  refine lv_goto (tgt := 30) hx hb dX10_toldAt_16 (by decide) ?_
  exact t_X10_toldAt_30 hC hin hO S none _ _ _ h hT (lv_sub hl [] rfl)
end
def wp_X10_toldAt (post : Option Nat → cs_S → Prop) (G : Nat → Nat) (S : cs_S) (o : Nat) (p1 : Int32) : Prop := (p1 < 0 → w_X10_toldAt_15 post G S) ∧ (¬ p1 < 0 → cs_k S o = 12 ∧ ∀ r12, r12 = cs_r S 1103 o → ∃ b13, r12 = some b13 ∧ cs_k S b13 = 1 ∧ wp_Jx4a65c_size_8abf5 (fun r14 S14 => (p1 < r14 → cs_k S14 o = 12 ∧ ∀ r17, r17 = cs_r S14 1103 o → ∃ b18, r17 = some b18 ∧ cs_k S14 b18 = 1 ∧ wp_Jx4a65c_get_915e3 (fun r19 S19 => (∀ b, r19 = some b → cs_k S19 b = 2) ∧ w_X10_toldAt_30 post G S19 r19) G S14 b18 p1) ∧ (¬ p1 < r14 → w_X10_toldAt_15 post G S14)) G S b13)
set_option maxRecDepth 100000 in
set_option maxHeartbeats 4000000 in
theorem c_X10_toldAt {l : Launch} {P : hw_G} {G : Nat → Nat} {S : cs_S} {sz : Nat} {o : Nat} {p1 : Int32} {post : Option Nat → cs_S → Prop} (h : wp_X10_toldAt post G S o p1) : Met l yX10_toldAt [Cond.code yX10_toldAt cX10_toldAt 2 (some (.object "WatchHouse$Alert"))] rm_X10_toldAt (cs_Pc P G S sz [.ref o, .int p1]) (cs_Qr P (cs_A S sz) post) 0 0 (cs_A S sz) := by
  refine cs_met (by decide) rfl (Nat.le_of_ble_eq_true rfl) ?_
  intro p e s m below meth c ls hC hin hO hT hl
  obtain ⟨hx, hb, hml, hown, hK, -, -⟩ := id hC
  replace hl : lv_has ls 2 [(0, .ref o), (1, .int p1)] := hl
  refine lv_iload_n hx hb dX10_toldAt_0 rfl (lv_at hl 1 rfl) ?_
  refine lv_if_lt (tgt := 15) hx hb dX10_toldAt_1 (by decide) (fun hc => ?_) (fun hc => ?_)
  · replace h := h.1 hc
    exact t_X10_toldAt_15 hC hin hO S _ _ _ h hT (lv_sub hl [] rfl)
  · replace h := h.2 hc
    refine lv_iload_n hx hb dX10_toldAt_4 rfl (lv_at hl 1 rfl) ?_
    refine lv_aload_n (x := o) hx hb dX10_toldAt_5 rfl (lv_at hl 0 rfl) ?_
    obtain ⟨hk11_, h⟩ := h
    refine cs_get hx hb hK hT hown 11 hk11_ (by decide) rfl 3 (by decide) kfX10_34 (v := va_rf (cs_r S 1103 o)) rfl dX10_toldAt_6 ?_
    refine hw_topr (fun r12 er12 => ?_)
    replace h := h r12 er12
    obtain ⟨b13, rfl, h⟩ := h
    obtain ⟨hk15_, h⟩ := h
    refine cs_calli0 (cs_runV hx hb hml hown hK hO hT 0 hk15_ (by decide) rfl (c_Jx4a65c_size_8abf5 h) rfl rfl klX10_38 ki_Jx4a65c_size_8abf5 ks_Jx4a65c_size_8abf5 kn_Jx4a65c kc_Jx4a65c_size_8abf5 0 ⟨rfl, by decide, by decide, by decide +kernel⟩ ⟨by decide, by decide⟩ rfl hl.1 rfl (hw_cat8 (Nat.le_of_ble_eq_true rfl)) ⟨(Nat.le_refl _), (Nat.le_refl _)⟩ dX10_toldAt_9) hT (fun r14 S14 H locs h_ hT_ => ?_)
    replace h := h_
    replace hT := hT_
    refine lv_icmp_lt (tgt := 19) hx hb dX10_toldAt_12 (by decide) (fun hc => ?_) (fun hc => ?_)
    · replace h := h.1 hc
      refine lv_aload_n (x := o) hx hb dX10_toldAt_19 rfl (lv_at hl 0 rfl) ?_
      obtain ⟨hk16_, h⟩ := h
      refine cs_get hx hb hK hT hown 11 hk16_ (by decide) rfl 3 (by decide) kfX10_34 (v := va_rf (cs_r S14 1103 o)) rfl dX10_toldAt_20 ?_
      refine hw_topr (fun r17 er17 => ?_)
      replace h := h r17 er17
      refine lv_iload_n hx hb dX10_toldAt_23 rfl (lv_at hl 1 rfl) ?_
      obtain ⟨b18, rfl, h⟩ := h
      obtain ⟨hk20_, h⟩ := h
      refine cs_callr0 (cs_runV hx hb hml hown hK hO hT 0 hk20_ (by decide) rfl (c_Jx4a65c_get_915e3 h) rfl rfl klX10_42 ki_Jx4a65c_get_915e3 ks_Jx4a65c_get_915e3 kn_Jx4a65c kc_Jx4a65c_get_915e3 1 ⟨rfl, by decide, by decide, by decide +kernel⟩ ⟨by decide, by decide⟩ rfl hl.1 rfl (hw_cat8 (Nat.le_of_ble_eq_true rfl)) ⟨(Nat.le_refl _), (Nat.le_refl _)⟩ dX10_toldAt_24) hT (fun r19 S19 H locs h_ hT_ => ?_)
      replace h := h_
      replace hT := hT_
      obtain ⟨he, h⟩ := h
      refine cs_cast (x := r19) hx hb hK hT hown 1 (by decide) rfl he kxX10_46 dX10_toldAt_27 ?_
      exact t_X10_toldAt_30 hC hin hO S19 r19 _ _ _ h hT (lv_sub hl [] rfl)
    · replace h := h.2 hc
      exact t_X10_toldAt_15 hC hin hO S14 _ _ _ h hT (lv_sub hl [] rfl)
/-! X10_latestAt -/
abbrev rm_X10_latestAt : Room := { frames := 0, cells := 0, slots := 0, locals := 0 }
def w_X10_latestAt_36 (post : Option Nat → cs_S → Prop) (G : Nat → Nat) (S : cs_S) (y0 : Option Nat) : Prop := post y0 S
section
variable {p : Program} {l : Launch} {e : Env} {s : State} {m : MethodId} {args : Array Value} {below : List Frame} {meth : Method} {c : Code} {P : hw_G} {G : Nat → Nat} {A : Nat → Prop}
set_option maxRecDepth 100000 in
set_option maxHeartbeats 4000000 in
theorem t_X10_latestAt_36 {post : Option Nat → cs_S → Prop} (hC : rf_C P RX10 p s m meth c cX10_latestAt 2 (some (.object "WatchHouse$Event"))) (hin : meth.name = yX10_latestAt.name) (hO : cs_O G A s s.heap) (S : cs_S) (y0 : Option Nat) (H : Heap) (locs : List Loc) (ls : Array Slot) (h : w_X10_latestAt_36 post G S y0) (hT : cs_T P s A S H locs) (hl : lv_has ls 2 []) : W p l e rm_X10_latestAt s m args below meth c H locs 0 0 (MQ below (cs_Qr P A post) args s 0 0 A) (F0 m 36 ls [va_rf y0]) := by
  obtain ⟨hx, hb, hml, hown, hK, -, -⟩ := id hC
  exact cs_aret (v := y0) hC (Or.inl ⟨_, rfl⟩) hT h dX10_latestAt_36 (Nat.le_refl _) (Nat.le_refl _)
end
def w_X10_latestAt_23 (post : Option Nat → cs_S → Prop) (G : Nat → Nat) (S : cs_S)  : Prop := w_X10_latestAt_36 post G S none
section
variable {p : Program} {l : Launch} {e : Env} {s : State} {m : MethodId} {args : Array Value} {below : List Frame} {meth : Method} {c : Code} {P : hw_G} {G : Nat → Nat} {A : Nat → Prop}
set_option maxRecDepth 100000 in
set_option maxHeartbeats 4000000 in
theorem t_X10_latestAt_23 {post : Option Nat → cs_S → Prop} (hC : rf_C P RX10 p s m meth c cX10_latestAt 2 (some (.object "WatchHouse$Event"))) (hin : meth.name = yX10_latestAt.name) (hO : cs_O G A s s.heap) (S : cs_S)  (H : Heap) (locs : List Loc) (ls : Array Slot) (h : w_X10_latestAt_23 post G S ) (hT : cs_T P s A S H locs) (hl : lv_has ls 2 []) : W p l e rm_X10_latestAt s m args below meth c H locs 0 0 (MQ below (cs_Qr P A post) args s 0 0 A) (F0 m 23 ls []) := by
  obtain ⟨hx, hb, hml, hown, hK, -, -⟩ := id hC
  refine hw_null hx hb dX10_latestAt_23 ?_
  refine lv_goto (tgt := 36) hx hb dX10_latestAt_24 (by decide) ?_
  exact t_X10_latestAt_36 hC hin hO S none _ _ _ h hT (lv_sub hl [] rfl)
end
def wp_X10_latestAt (post : Option Nat → cs_S → Prop) (G : Nat → Nat) (S : cs_S) (o : Nat) (p1 : Int32) : Prop := (p1 < 0 → w_X10_latestAt_23 post G S) ∧ (¬ p1 < 0 → cs_k S o = 12 ∧ ((cs_i S 1104 o) ≤ p1 → w_X10_latestAt_23 post G S) ∧ (¬ (cs_i S 1104 o) ≤ p1 → (((cs_i S 1104 o) - 64) ≤ p1 → ∀ r7, r7 = cs_r S 1102 o → ¬ (64 : Int32) = 0 ∧ ∃ b8, r7 = some b8 ∧ cs_k S b8 = 23 ∧ vp_in (p1 - p1 / 64 * 64) (cs_n S b8) ∧ ∀ r10, r10 = cs_ar S b8 (p1 - p1 / 64 * 64).toNatClampNeg → w_X10_latestAt_36 post G S r10) ∧ (¬ ((cs_i S 1104 o) - 64) ≤ p1 → w_X10_latestAt_23 post G S)))
set_option maxRecDepth 100000 in
set_option maxHeartbeats 4000000 in
theorem c_X10_latestAt {l : Launch} {P : hw_G} {G : Nat → Nat} {S : cs_S} {sz : Nat} {o : Nat} {p1 : Int32} {post : Option Nat → cs_S → Prop} (h : wp_X10_latestAt post G S o p1) : Met l yX10_latestAt [Cond.code yX10_latestAt cX10_latestAt 2 (some (.object "WatchHouse$Event"))] rm_X10_latestAt (cs_Pc P G S sz [.ref o, .int p1]) (cs_Qr P (cs_A S sz) post) 0 0 (cs_A S sz) := by
  refine cs_met (by decide) rfl (Nat.le_of_ble_eq_true rfl) ?_
  intro p e s m below meth c ls hC hin hO hT hl
  obtain ⟨hx, hb, hml, hown, hK, -, -⟩ := id hC
  replace hl : lv_has ls 2 [(0, .ref o), (1, .int p1)] := hl
  refine lv_iload_n hx hb dX10_latestAt_0 rfl (lv_at hl 1 rfl) ?_
  refine lv_if_lt (tgt := 23) hx hb dX10_latestAt_1 (by decide) (fun hc => ?_) (fun hc => ?_)
  · replace h := h.1 hc
    exact t_X10_latestAt_23 hC hin hO S _ _ _ h hT (lv_sub hl [] rfl)
  · replace h := h.2 hc
    refine lv_iload_n hx hb dX10_latestAt_4 rfl (lv_at hl 1 rfl) ?_
    refine lv_aload_n (x := o) hx hb dX10_latestAt_5 rfl (lv_at hl 0 rfl) ?_
    obtain ⟨hk6_, h⟩ := h
    refine cs_get hx hb hK hT hown 11 hk6_ (by decide) rfl 4 (by decide) kfX10_48 (v := .int (cs_i S 1104 o)) rfl dX10_latestAt_6 ?_
    refine lv_icmp_ge (tgt := 23) hx hb dX10_latestAt_9 (by decide) (fun hc => ?_) (fun hc => ?_)
    · replace h := h.1 hc
      exact t_X10_latestAt_23 hC hin hO S _ _ _ h hT (lv_sub hl [] rfl)
    · replace h := h.2 hc
      refine lv_iload_n hx hb dX10_latestAt_12 rfl (lv_at hl 1 rfl) ?_
      refine lv_aload_n (x := o) hx hb dX10_latestAt_13 rfl (lv_at hl 0 rfl) ?_
      refine cs_get hx hb hK hT hown 11 hk6_ (by decide) rfl 4 (by decide) kfX10_48 (v := .int (cs_i S 1104 o)) rfl dX10_latestAt_14 ?_
      refine lv_bipush (v := 64) hx hb dX10_latestAt_17 (by decide) ?_
      refine lv_isub hx hb dX10_latestAt_19 ?_
      refine lv_icmp_ge (tgt := 27) hx hb dX10_latestAt_20 (by decide) (fun hc => ?_) (fun hc => ?_)
      · replace h := h.1 hc
        refine lv_aload_n (x := o) hx hb dX10_latestAt_27 rfl (lv_at hl 0 rfl) ?_
        refine cs_get hx hb hK hT hown 11 hk6_ (by decide) rfl 2 (by decide) kfX10_27 (v := va_rf (cs_r S 1102 o)) rfl dX10_latestAt_28 ?_
        refine hw_topr (fun r7 er7 => ?_)
        replace h := h r7 er7
        refine lv_iload_n hx hb dX10_latestAt_31 rfl (lv_at hl 1 rfl) ?_
        refine lv_bipush (v := 64) hx hb dX10_latestAt_32 (by decide) ?_
        obtain ⟨hi, h⟩ := h
        refine lv_irem hx hb dX10_latestAt_34 hi ?_
        obtain ⟨b8, rfl, h⟩ := h
        obtain ⟨hk9_, h⟩ := h
        obtain ⟨hi, h⟩ := h
        refine cs_aald hx hb hK hT 23 hk9_ (by decide) rfl (by decide) hi dX10_latestAt_35 ?_
        refine hw_topr (fun r10 er10 => ?_)
        replace h := h r10 er10
        exact t_X10_latestAt_36 hC hin hO S r10 _ _ _ h hT (lv_sub hl [] rfl)
      · replace h := h.2 hc
        exact t_X10_latestAt_23 hC hin hO S _ _ _ h hT (lv_sub hl [] rfl)
/-! X10_leastDue -/
abbrev rm_X10_leastDue : Room := { frames := 1, cells := 0, slots := 0, locals := 20 }
def w_X10_leastDue_49 (post : Int32 → cs_S → Prop) (G : Nat → Nat) (k4 : cs_S → Nat → Int32 → Int32 → Int32 → Prop) (S : cs_S) (x0 : Nat) (x1 : Int32) (x2 : Int32) (x3 : Int32) : Prop := k4 S x0 x1 x2 (x3 + 1)
section
variable {p : Program} {l : Launch} {e : Env} {s : State} {m : MethodId} {args : Array Value} {below : List Frame} {meth : Method} {c : Code} {P : hw_G} {G : Nat → Nat} {A : Nat → Prop}
set_option maxRecDepth 100000 in
set_option maxHeartbeats 4000000 in
theorem t_X10_leastDue_49 {post : Int32 → cs_S → Prop} {k4 : cs_S → Nat → Int32 → Int32 → Int32 → Prop} (hC : rf_C P RX10 p s m meth c cX10_leastDue 5 (some .int)) (hin : meth.name = yX10_leastDue.name) (hO : cs_O G A s s.heap) (hk4 : ∀ (S : cs_S) (x0 : Nat) (x1 : Int32) (x2 : Int32) (x3 : Int32) (H : Heap) (locs : List Loc) (ls : Array Slot), k4 S x0 x1 x2 x3 → cs_T P s A S H locs → lv_has ls 5 [(0, .ref x0), (1, .int x1), (2, .int x2), (3, .int x3)] → W p l e rm_X10_leastDue s m args below meth c H locs 0 0 (MQ below (cs_Qi P A post) args s 0 0 A) (F0 m 4 ls [])) (S : cs_S) (x0 : Nat) (x1 : Int32) (x2 : Int32) (x3 : Int32) (H : Heap) (locs : List Loc) (ls : Array Slot) (h : w_X10_leastDue_49 post G k4 S x0 x1 x2 x3) (hT : cs_T P s A S H locs) (hl : lv_has ls 5 [(0, .ref x0), (1, .int x1), (2, .int x2), (3, .int x3)]) : W p l e rm_X10_leastDue s m args below meth c H locs 0 0 (MQ below (cs_Qi P A post) args s 0 0 A) (F0 m 49 ls []) := by
  obtain ⟨hx, hb, hml, hown, hK, -, -⟩ := id hC
  refine lv_iinc (v := x3 + 1) (lv' := [(3, _), (0, _), (1, _), (2, _)]) hx hb dX10_leastDue_49 hl (k := 3) rfl rfl (by decide) rfl (fun ls hl_ => ?_)
  replace hl := hl_
  refine lv_goto (tgt := 4) hx hb dX10_leastDue_52 (by decide) ?_
  exact hk4 S x0 x1 x2 (x3 + 1) _ _ _ h hT (lv_sub hl [1, 2, 3, 0] rfl)
end
def w_X10_leastDue_46 (post : Int32 → cs_S → Prop) (G : Nat → Nat) (k4 : cs_S → Nat → Int32 → Int32 → Int32 → Prop) (S : cs_S) (x0 : Nat) (x1 : Int32) (x3 : Int32) (x4 : Int32) : Prop := w_X10_leastDue_49 post G k4 S x0 x1 x4 x3
section
variable {p : Program} {l : Launch} {e : Env} {s : State} {m : MethodId} {args : Array Value} {below : List Frame} {meth : Method} {c : Code} {P : hw_G} {G : Nat → Nat} {A : Nat → Prop}
set_option maxRecDepth 100000 in
set_option maxHeartbeats 4000000 in
theorem t_X10_leastDue_46 {post : Int32 → cs_S → Prop} {k4 : cs_S → Nat → Int32 → Int32 → Int32 → Prop} (hC : rf_C P RX10 p s m meth c cX10_leastDue 5 (some .int)) (hin : meth.name = yX10_leastDue.name) (hO : cs_O G A s s.heap) (hk4 : ∀ (S : cs_S) (x0 : Nat) (x1 : Int32) (x2 : Int32) (x3 : Int32) (H : Heap) (locs : List Loc) (ls : Array Slot), k4 S x0 x1 x2 x3 → cs_T P s A S H locs → lv_has ls 5 [(0, .ref x0), (1, .int x1), (2, .int x2), (3, .int x3)] → W p l e rm_X10_leastDue s m args below meth c H locs 0 0 (MQ below (cs_Qi P A post) args s 0 0 A) (F0 m 4 ls [])) (S : cs_S) (x0 : Nat) (x1 : Int32) (x3 : Int32) (x4 : Int32) (H : Heap) (locs : List Loc) (ls : Array Slot) (h : w_X10_leastDue_46 post G k4 S x0 x1 x3 x4) (hT : cs_T P s A S H locs) (hl : lv_has ls 5 [(0, .ref x0), (1, .int x1), (3, .int x3), (4, .int x4)]) : W p l e rm_X10_leastDue s m args below meth c H locs 0 0 (MQ below (cs_Qi P A post) args s 0 0 A) (F0 m 46 ls []) := by
  obtain ⟨hx, hb, hml, hown, hK, -, -⟩ := id hC
  refine lv_iload hx hb dX10_leastDue_46 (lv_at hl 3 rfl) ?_
  refine lv_istore_n (lv' := [(2, _), (0, _), (1, _), (3, _), (4, _)]) hx hb dX10_leastDue_48 rfl hl (by decide) rfl (fun ls hl_ => ?_)
  replace hl := hl_
  exact t_X10_leastDue_49 hC hin hO hk4 S x0 x1 x4 x3 _ _ _ h hT (lv_sub hl [1, 2, 0, 3] rfl)
end
def w_X10_leastDue_4 (post : Int32 → cs_S → Prop) (G : Nat → Nat) : Nat → cs_S → Nat → Int32 → Int32 → Int32 → Prop
  | 0, _, _, _, _, _ => False
  | n + 1, S, x0, x1, x2, x3 => cs_k S x0 = 12 ∧ ((cs_i S 1101 x0) ≤ x3 → post x2 S) ∧ (¬ (cs_i S 1101 x0) ≤ x3 → ∀ r10, r10 = cs_r S 1100 x0 → ∃ b11, r10 = some b11 ∧ cs_k S b11 = 22 ∧ vp_in x3 (cs_n S b11) ∧ ∀ r13, r13 = cs_ar S b11 x3.toNatClampNeg → ∃ b14, r13 = some b14 ∧ cs_k S b14 = 9 ∧ wp_X7_nextDue (fun r15 S15 => (r15 = ((-1)) → w_X10_leastDue_49 post G (w_X10_leastDue_4 post G n) S15 x0 x1 x2 x3) ∧ (¬ r15 = ((-1)) → (x1 ≤ r15 → w_X10_leastDue_49 post G (w_X10_leastDue_4 post G n) S15 x0 x1 x2 x3) ∧ (¬ x1 ≤ r15 → (x2 = ((-1)) → w_X10_leastDue_46 post G (w_X10_leastDue_4 post G n) S15 x0 x1 x3 r15) ∧ (¬ x2 = ((-1)) → (x2 ≤ r15 → w_X10_leastDue_49 post G (w_X10_leastDue_4 post G n) S15 x0 x1 x2 x3) ∧ (¬ x2 ≤ r15 → w_X10_leastDue_46 post G (w_X10_leastDue_4 post G n) S15 x0 x1 x3 r15))))) G S b14)
section
variable {p : Program} {l : Launch} {e : Env} {s : State} {m : MethodId} {args : Array Value} {below : List Frame} {meth : Method} {c : Code} {P : hw_G} {G : Nat → Nat} {A : Nat → Prop}
set_option maxRecDepth 100000 in
set_option maxHeartbeats 4000000 in
theorem t_X10_leastDue_4 {post : Int32 → cs_S → Prop} (hC : rf_C P RX10 p s m meth c cX10_leastDue 5 (some .int)) (hin : meth.name = yX10_leastDue.name) (hO : cs_O G A s s.heap) : ∀ (n : Nat) (S : cs_S) (x0 : Nat) (x1 : Int32) (x2 : Int32) (x3 : Int32) (H : Heap) (locs : List Loc) (ls : Array Slot), w_X10_leastDue_4 post G n S x0 x1 x2 x3 → cs_T P s A S H locs → lv_has ls 5 [(0, .ref x0), (1, .int x1), (2, .int x2), (3, .int x3)] → W p l e rm_X10_leastDue s m args below meth c H locs 0 0 (MQ below (cs_Qi P A post) args s 0 0 A) (F0 m 4 ls []) := by
  obtain ⟨hx, hb, hml, hown, hK, -, -⟩ := id hC
  intro n
  induction n with
  | zero => intro S x0 x1 x2 x3 H locs ls h; exact False.elim h
  | succ n ih =>
    intro S x0 x1 x2 x3 H locs ls h hT hl
    refine lv_iload_n hx hb dX10_leastDue_4 rfl (lv_at hl 3 rfl) ?_
    refine lv_aload_n (x := x0) hx hb dX10_leastDue_5 rfl (lv_at hl 0 rfl) ?_
    obtain ⟨hk9_, h⟩ := h
    refine cs_get hx hb hK hT hown 11 hk9_ (by decide) rfl 1 (by decide) kfX10_21 (v := .int (cs_i S 1101 x0)) rfl dX10_leastDue_6 ?_
    refine lv_icmp_ge (tgt := 55) hx hb dX10_leastDue_9 (by decide) (fun hc => ?_) (fun hc => ?_)
    · replace h := h.1 hc
      refine lv_iload_n hx hb dX10_leastDue_55 rfl (lv_at hl 2 rfl) ?_
      exact cs_iret hC hT h dX10_leastDue_56 (Nat.le_refl _) (Nat.le_refl _)
    · replace h := h.2 hc
      refine lv_aload_n (x := x0) hx hb dX10_leastDue_12 rfl (lv_at hl 0 rfl) ?_
      refine cs_get hx hb hK hT hown 11 hk9_ (by decide) rfl 0 (by decide) kfX10_9 (v := va_rf (cs_r S 1100 x0)) rfl dX10_leastDue_13 ?_
      refine hw_topr (fun r10 er10 => ?_)
      replace h := h r10 er10
      refine lv_iload_n hx hb dX10_leastDue_16 rfl (lv_at hl 3 rfl) ?_
      obtain ⟨b11, rfl, h⟩ := h
      obtain ⟨hk12_, h⟩ := h
      obtain ⟨hi, h⟩ := h
      refine cs_aald hx hb hK hT 22 hk12_ (by decide) rfl (by decide) hi dX10_leastDue_17 ?_
      refine hw_topr (fun r13 er13 => ?_)
      replace h := h r13 er13
      obtain ⟨b14, rfl, h⟩ := h
      obtain ⟨hk16_, h⟩ := h
      refine cs_calli0 (cs_runV hx hb hml hown hK hO hT 8 hk16_ (by decide) rfl (c_X7_nextDue h) rfl rfl klX10_66 ki_X7_nextDue ks_X7_nextDue kn_X7 kc_X7_nextDue 0 ⟨rfl, by decide, by decide, by decide +kernel⟩ ⟨by decide, by decide⟩ rfl hl.1 rfl (hw_cat8 (Nat.le_of_ble_eq_true rfl)) ⟨(Nat.le_refl _), (Nat.le_refl _)⟩ dX10_leastDue_18) hT (fun r15 S15 H locs h_ hT_ => ?_)
      replace h := h_
      replace hT := hT_
      refine lv_istore (lv' := [(4, _), (0, _), (1, _), (2, _), (3, _)]) hx hb dX10_leastDue_21 hl (by decide) rfl (fun ls hl_ => ?_)
      replace hl := hl_
      refine lv_iload hx hb dX10_leastDue_23 (lv_at hl 0 rfl) ?_
      refine lv_iconst (v := (-1)) hx hb dX10_leastDue_25 (by decide) ?_
      refine lv_icmp_eq (tgt := 49) hx hb dX10_leastDue_26 (by decide) (fun hc => ?_) (fun hc => ?_)
      · replace h := h.1 hc
        exact t_X10_leastDue_49 hC hin hO ih S15 x0 x1 x2 x3 _ _ _ h hT (lv_sub hl [1, 2, 3, 4] rfl)
      · replace h := h.2 hc
        refine lv_iload hx hb dX10_leastDue_29 (lv_at hl 0 rfl) ?_
        refine lv_iload_n hx hb dX10_leastDue_31 rfl (lv_at hl 2 rfl) ?_
        refine lv_icmp_ge (tgt := 49) hx hb dX10_leastDue_32 (by decide) (fun hc => ?_) (fun hc => ?_)
        · replace h := h.1 hc
          exact t_X10_leastDue_49 hC hin hO ih S15 x0 x1 x2 x3 _ _ _ h hT (lv_sub hl [1, 2, 3, 4] rfl)
        · replace h := h.2 hc
          refine lv_iload_n hx hb dX10_leastDue_35 rfl (lv_at hl 3 rfl) ?_
          refine lv_iconst (v := (-1)) hx hb dX10_leastDue_36 (by decide) ?_
          refine lv_icmp_eq (tgt := 46) hx hb dX10_leastDue_37 (by decide) (fun hc => ?_) (fun hc => ?_)
          · replace h := h.1 hc
            exact t_X10_leastDue_46 hC hin hO ih S15 x0 x1 x3 r15 _ _ _ h hT (lv_sub hl [1, 2, 4, 0] rfl)
          · replace h := h.2 hc
            refine lv_iload hx hb dX10_leastDue_40 (lv_at hl 0 rfl) ?_
            refine lv_iload_n hx hb dX10_leastDue_42 rfl (lv_at hl 3 rfl) ?_
            refine lv_icmp_ge (tgt := 49) hx hb dX10_leastDue_43 (by decide) (fun hc => ?_) (fun hc => ?_)
            · replace h := h.1 hc
              exact t_X10_leastDue_49 hC hin hO ih S15 x0 x1 x2 x3 _ _ _ h hT (lv_sub hl [1, 2, 3, 4] rfl)
            · replace h := h.2 hc
              exact t_X10_leastDue_46 hC hin hO ih S15 x0 x1 x3 r15 _ _ _ h hT (lv_sub hl [1, 2, 4, 0] rfl)
end
def wp_X10_leastDue (post : Int32 → cs_S → Prop) (G : Nat → Nat) (S : cs_S) (o : Nat) (p1 : Int32) : Prop := ∃ n9, w_X10_leastDue_4 post G n9 S o p1 ((-1)) 0
set_option maxRecDepth 100000 in
set_option maxHeartbeats 4000000 in
theorem c_X10_leastDue {l : Launch} {P : hw_G} {G : Nat → Nat} {S : cs_S} {sz : Nat} {o : Nat} {p1 : Int32} {post : Int32 → cs_S → Prop} (h : wp_X10_leastDue post G S o p1) : Met l yX10_leastDue [Cond.code yX10_leastDue cX10_leastDue 5 (some .int)] rm_X10_leastDue (cs_Pc P G S sz [.ref o, .int p1]) (cs_Qi P (cs_A S sz) post) 0 0 (cs_A S sz) := by
  refine cs_met (by decide) rfl (Nat.le_of_ble_eq_true rfl) ?_
  intro p e s m below meth c ls hC hin hO hT hl
  obtain ⟨hx, hb, hml, hown, hK, -, -⟩ := id hC
  replace hl : lv_has ls 5 [(0, .ref o), (1, .int p1)] := hl
  refine lv_iconst (v := (-1)) hx hb dX10_leastDue_0 (by decide) ?_
  refine lv_istore_n (lv' := [(2, _), (0, _), (1, _)]) hx hb dX10_leastDue_1 rfl hl (by decide) rfl (fun ls hl_ => ?_)
  replace hl := hl_
  refine lv_iconst (v := 0) hx hb dX10_leastDue_2 (by decide) ?_
  refine lv_istore_n (lv' := [(3, _), (2, _), (0, _), (1, _)]) hx hb dX10_leastDue_3 rfl hl (by decide) rfl (fun ls hl_ => ?_)
  replace hl := hl_
  obtain ⟨n9, h⟩ := h
  exact t_X10_leastDue_4 hC hin hO n9 S o p1 ((-1)) 0 _ _ _ h hT (lv_sub hl [2, 3, 1, 0] rfl)
/-! J8_newLength_cabcc -/
abbrev rm_J8_newLength_cabcc : Room := { frames := 1, cells := 0, slots := 0, locals := 24 }
def w_J8_newLength_cabcc_21 (post : Int32 → cs_S → Prop) (G : Nat → Nat) (S : cs_S) (x0 : Int32) (x1 : Int32) : Prop := False
section
variable {p : Program} {l : Launch} {e : Env} {s : State} {m : MethodId} {args : Array Value} {below : List Frame} {meth : Method} {c : Code} {P : hw_G} {G : Nat → Nat} {A : Nat → Prop}
set_option maxRecDepth 100000 in
set_option maxHeartbeats 4000000 in
theorem t_J8_newLength_cabcc_21 {post : Int32 → cs_S → Prop} (hC : rf_C P RJ8 p s m meth c cJ8_newLength_cabcc 4 (some .int)) (hin : meth.name = yJ8_newLength_cabcc.name) (hO : cs_O G A s s.heap) (S : cs_S) (x0 : Int32) (x1 : Int32) (H : Heap) (locs : List Loc) (ls : Array Slot) (h : w_J8_newLength_cabcc_21 post G S x0 x1) (hT : cs_T P s A S H locs) (hl : lv_has ls 4 [(0, .int x0), (1, .int x1)]) : W p l e rm_J8_newLength_cabcc s m args below meth c H locs 0 0 (MQ below (cs_Qi P A post) args s 0 0 A) (F0 m 21 ls []) := by
  obtain ⟨hx, hb, hml, hown, hK, -, -⟩ := id hC
  refine lv_iload_n hx hb dJ8_newLength_cabcc_21 rfl (lv_at hl 0 rfl) ?_
  refine lv_iload_n hx hb dJ8_newLength_cabcc_22 rfl (lv_at hl 1 rfl) ?_
  exact h.elim
end
def wp_J8_newLength_cabcc (post : Int32 → cs_S → Prop) (G : Nat → Nat) (S : cs_S) (p0 : Int32) (p1 : Int32) (p2 : Int32) : Prop := ((p0 + (if p1 < p2 then p2 else p1)) ≤ (0 : Int32) → w_J8_newLength_cabcc_21 post G S p0 p1) ∧ (¬ (p0 + (if p1 < p2 then p2 else p1)) ≤ (0 : Int32) → (2147483639 < (p0 + (if p1 < p2 then p2 else p1)) → w_J8_newLength_cabcc_21 post G S p0 p1) ∧ (¬ 2147483639 < (p0 + (if p1 < p2 then p2 else p1)) → post (p0 + (if p1 < p2 then p2 else p1)) S))
set_option maxRecDepth 100000 in
set_option maxHeartbeats 4000000 in
theorem c_J8_newLength_cabcc {l : Launch} {P : hw_G} {G : Nat → Nat} {S : cs_S} {sz : Nat} {p0 : Int32} {p1 : Int32} {p2 : Int32} {post : Int32 → cs_S → Prop} (h : wp_J8_newLength_cabcc post G S p0 p1 p2) : Met l yJ8_newLength_cabcc [Cond.code yJ8_newLength_cabcc cJ8_newLength_cabcc 4 (some .int)] rm_J8_newLength_cabcc (cs_Pc P G S sz [.int p0, .int p1, .int p2]) (cs_Qi P (cs_A S sz) post) 0 0 (cs_A S sz) := by
  refine cs_met (by decide) rfl (Nat.le_of_ble_eq_true rfl) ?_
  intro p e s m below meth c ls hC hin hO hT hl
  obtain ⟨hx, hb, hml, hown, hK, -, -⟩ := id hC
  replace hl : lv_has ls 4 [(0, .int p0), (1, .int p1), (2, .int p2)] := hl
  refine lv_iload_n hx hb dJ8_newLength_cabcc_0 rfl (lv_at hl 0 rfl) ?_
  refine lv_iload_n hx hb dJ8_newLength_cabcc_1 rfl (lv_at hl 1 rfl) ?_
  refine lv_iload_n hx hb dJ8_newLength_cabcc_2 rfl (lv_at hl 2 rfl) ?_
  refine va_mmax hx hb (hml.trans hl.1.symm) hown (hK.word klJ8_194m rfl) (hK.word ki_mmax rfl) (hK.word kn_J9 rfl) (hK.word kc_mmax rfl) (Nat.le_of_ble_eq_true rfl) (hw_catN (Nat.le_of_ble_eq_true rfl) (Nat.le_of_ble_eq_true rfl)) (Nat.le_refl _) (Nat.le_refl _) dJ8_newLength_cabcc_3 ?_
  refine lv_iadd hx hb dJ8_newLength_cabcc_6 ?_
  refine lv_istore_n (lv' := [(3, _), (0, _), (1, _), (2, _)]) hx hb dJ8_newLength_cabcc_7 rfl hl (by decide) rfl (fun ls hl_ => ?_)
  replace hl := hl_
  refine lv_iconst (v := 0) hx hb dJ8_newLength_cabcc_8 (by decide) ?_
  refine lv_iload_n hx hb dJ8_newLength_cabcc_9 rfl (lv_at hl 0 rfl) ?_
  refine lv_icmp_ge (tgt := 21) hx hb dJ8_newLength_cabcc_10 (by decide) (fun hc => ?_) (fun hc => ?_)
  · replace h := h.1 hc
    exact t_J8_newLength_cabcc_21 hC hin hO S p0 p1 _ _ _ h hT (lv_sub hl [1, 2] rfl)
  · replace h := h.2 hc
    refine lv_iload_n hx hb dJ8_newLength_cabcc_13 rfl (lv_at hl 0 rfl) ?_
    refine lv_ldc (v := 2147483639) hx hb hown (hK.word kkJ8_200 rfl) dJ8_newLength_cabcc_14 ?_
    refine lv_icmp_gt (tgt := 21) hx hb dJ8_newLength_cabcc_16 (by decide) (fun hc => ?_) (fun hc => ?_)
    · replace h := h.1 hc
      exact t_J8_newLength_cabcc_21 hC hin hO S p0 p1 _ _ _ h hT (lv_sub hl [1, 2] rfl)
    · replace h := h.2 hc
      refine lv_iload_n hx hb dJ8_newLength_cabcc_19 rfl (lv_at hl 0 rfl) ?_
      exact cs_iret hC hT h dJ8_newLength_cabcc_20 (Nat.le_refl _) (Nat.le_refl _)
/-! J7_copyOf_6403c -/
abbrev rm_J7_copyOf_6403c (mc ms : Nat) : Room := { frames := 1, cells := mc, slots := ms, locals := 40 }
def w_J7_copyOf_6403c_24 (post : Option Nat → cs_S → Prop) (G : Nat → Nat) (mc ms : Nat) (S : cs_S) (u v : Nat) (x0 : Option Nat) (x1 : Int32) (y0 : Option Nat) : Prop := u ≤ mc ∧ v ≤ ms ∧ ∃ b7, x0 = some b7 ∧ cs_k S b7 = 27 ∧ ∃ b9, y0 = some b9 ∧ cs_k S b9 = 27 ∧ ¬ cs_n S b7 = 0 ∧ ¬ cs_n S b9 = 0 ∧ ¬ (if x1 < Int32.ofNat (cs_n S b7) then x1 else Int32.ofNat (cs_n S b7)) < 0 ∧ (if x1 < Int32.ofNat (cs_n S b7) then x1 else Int32.ofNat (cs_n S b7)).toNatClampNeg ≤ cs_n S b7 ∧ (if x1 < Int32.ofNat (cs_n S b7) then x1 else Int32.ofNat (cs_n S b7)).toNatClampNeg ≤ cs_n S b9 ∧ (∀ j, j < (if x1 < Int32.ofNat (cs_n S b7) then x1 else Int32.ofNat (cs_n S b7)).toNatClampNeg → ∀ b, cs_ar S b7 j = some b → cs_k S b = 2) ∧ ∀ S11, S11 = cs_cpr S b7 b9 (if x1 < Int32.ofNat (cs_n S b7) then x1 else Int32.ofNat (cs_n S b7)).toNatClampNeg → post (some b9) S11
section
variable {p : Program} {l : Launch} {e : Env} {s : State} {m : MethodId} {args : Array Value} {below : List Frame} {meth : Method} {c : Code} {P : hw_G} {G : Nat → Nat} {A : Nat → Prop}
set_option maxRecDepth 100000 in
set_option maxHeartbeats 4000000 in
theorem t_J7_copyOf_6403c_24 {post : Option Nat → cs_S → Prop} {mc ms : Nat} (hC : rf_C P RJ7 p s m meth c cJ7_copyOf_6403c 4 (some (.array (.object "java/lang/Object")))) (hin : meth.name = yJ7_copyOf_6403c.name) (hO : cs_O G A s s.heap) (S : cs_S) (u v : Nat) (x0 : Option Nat) (x1 : Int32) (y0 : Option Nat) (H : Heap) (locs : List Loc) (ls : Array Slot) (h : w_J7_copyOf_6403c_24 post G mc ms S u v x0 x1 y0) (hT : cs_T P s A S H locs) (hl : lv_has ls 4 [(0, va_rf x0), (1, .int x1)]) : W p l e (rm_J7_copyOf_6403c mc ms) s m args below meth c H locs u v (MQ below (cs_Qr P A post) args s mc ms A) (F0 m 24 ls [va_rf y0]) := by
  obtain ⟨hx, hb, hml, hown, hK, -, -⟩ := id hC
  obtain ⟨hu, hv, h⟩ := h
  refine hw_astore_n (lv' := [(3, _), (0, _), (1, _)]) (x := y0) hx hb dJ7_copyOf_6403c_24 rfl hl (by decide) rfl (fun ls hl_ => ?_)
  replace hl := hl_
  refine hw_aload_n (x := x0) hx hb dJ7_copyOf_6403c_25 rfl (lv_at hl 1 rfl) ?_
  refine lv_iconst (v := 0) hx hb dJ7_copyOf_6403c_26 (by decide) ?_
  refine hw_aload_n (x := y0) hx hb dJ7_copyOf_6403c_27 rfl (lv_at hl 0 rfl) ?_
  refine lv_iconst (v := 0) hx hb dJ7_copyOf_6403c_28 (by decide) ?_
  refine hw_aload_n (x := x0) hx hb dJ7_copyOf_6403c_29 rfl (lv_at hl 1 rfl) ?_
  obtain ⟨b7, rfl, h⟩ := h
  obtain ⟨hk8_, h⟩ := h
  refine cs_alen hx hb hK hT 27 hk8_ (by decide) (by decide) dJ7_copyOf_6403c_30 ?_
  refine lv_iload_n hx hb dJ7_copyOf_6403c_31 rfl (lv_at hl 2 rfl) ?_
  refine va_mmin hx hb (hml.trans hl.1.symm) hown (hK.word klJ7_304m rfl) (hK.word ki_mmin rfl) (hK.word kn_J9 rfl) (hK.word kc_mmin rfl) (Nat.le_of_ble_eq_true rfl) (hw_catN (Nat.le_of_ble_eq_true rfl) (Nat.le_of_ble_eq_true rfl)) hu hv dJ7_copyOf_6403c_32 ?_
  obtain ⟨b9, rfl, h⟩ := h
  obtain ⟨hk10_, h⟩ := h
  obtain ⟨hi1, hi2, hi3, hi4, hi5, hi6, h⟩ := h
  refine cs_acp hx hb hml hl.1 hown hK hO hT hk8_ hk10_ hi1 hi2 hi3 hi4 hi5 hi6 klJ7_150 (Nat.le_of_ble_eq_true rfl) (hw_catN (Nat.le_of_ble_eq_true rfl) (Nat.le_of_ble_eq_true rfl)) dJ7_copyOf_6403c_35 (fun H locs hT_ => ?_)
  replace hT := hT_
  obtain ⟨S11, eS11⟩ : ∃ z, z = cs_cpr S b7 b9 (if x1 < Int32.ofNat (cs_n S b7) then x1 else Int32.ofNat (cs_n S b7)).toNatClampNeg := ⟨_, rfl⟩
  rw [← eS11] at hT
  replace h := h S11 eS11
  refine lv_aload_n (x := b9) hx hb dJ7_copyOf_6403c_38 rfl (lv_at hl 0 rfl) ?_
  exact cs_aret (v := (some b9)) hC (Or.inr ⟨_, rfl⟩) hT h dJ7_copyOf_6403c_39 hu hv
end
def wp_J7_copyOf_6403c (post : Option Nat → cs_S → Prop) (G : Nat → Nat) (mc ms : Nat) (S : cs_S) (p0 : Option Nat) (p1 : Int32) (p2 : Option Nat) : Prop := (¬ p2 = (some (G 2)) → False) ∧ (p2 = (some (G 2)) → ¬ p1 < 0 ∧ p1.toNatClampNeg * 4 ≤ 536870912 ∧ 0 + 1 ≤ mc ∧ 0 + p1.toNatClampNeg ≤ ms ∧ ∀ q12, cs_k S q12 = 0 → ∀ S13, S13 = cs_newA S q12 27 p1.toNatClampNeg → w_J7_copyOf_6403c_24 post G mc ms S13 (0 + 1) (0 + p1.toNatClampNeg) p0 p1 (some q12))
set_option maxRecDepth 100000 in
set_option maxHeartbeats 4000000 in
theorem c_J7_copyOf_6403c {l : Launch} {P : hw_G} {G : Nat → Nat} {S : cs_S} {sz : Nat} {mc ms : Nat} {p0 : Option Nat} {p1 : Int32} {p2 : Option Nat} {post : Option Nat → cs_S → Prop} (h : wp_J7_copyOf_6403c post G mc ms S p0 p1 p2) : Met l yJ7_copyOf_6403c [Cond.code yJ7_copyOf_6403c cJ7_copyOf_6403c 4 (some (.array (.object "java/lang/Object")))] (rm_J7_copyOf_6403c mc ms) (cs_Pc P G S sz [va_rf p0, .int p1, va_rf p2]) (cs_Qr P (cs_A S sz) post) mc ms (cs_A S sz) := by
  refine cs_met (by decide) rfl (by cases p0 <;> cases p2 <;> exact Nat.le_of_ble_eq_true rfl) ?_
  intro p e s m below meth c ls hC hin hO hT hl
  obtain ⟨hx, hb, hml, hown, hK, -, -⟩ := id hC
  replace hl : lv_has ls 4 [(0, va_rf p0), (1, .int p1), (2, va_rf p2)] := by cases p0 <;> cases p2 <;> exact hl
  refine hw_aload_n (x := p2) hx hb dJ7_copyOf_6403c_0 rfl (lv_at hl 2 rfl) ?_
  refine va_ldcM hx hb hown (hK.word kxJ7_110 rfl) hO.2.2.2.2.2.2.2.2.2 dJ7_copyOf_6403c_1 ?_
  refine lv_acmp_ne (rx := p2) (ry := (some (G 2))) (tgt := 13) hx hb dJ7_copyOf_6403c_3 (by decide) (fun hc => ?_) (fun hc => ?_)
  · replace h := h.1 hc
    refine hw_aload_n (x := p2) hx hb dJ7_copyOf_6403c_13 rfl (lv_at hl 2 rfl) ?_
    exact h.elim
  · replace h := h.2 hc
    refine lv_iload_n hx hb dJ7_copyOf_6403c_6 rfl (lv_at hl 1 rfl) ?_
    obtain ⟨hn1, hn2, hu12, hv12, h⟩ := h
    refine cs_anew hx hb hK hT hown 27 rfl kxJ7_2 (by decide) (by decide) (by decide) hn1 hn2 hu12 hv12 dJ7_copyOf_6403c_7 (fun q12 H hq12 hT_ => ?_)
    replace h := h q12 hq12
    replace hT := hT_
    obtain ⟨S13, eS13⟩ : ∃ z, z = cs_newA S q12 27 p1.toNatClampNeg := ⟨_, rfl⟩
    rw [← eS13] at hT
    replace h := h S13 eS13
    refine lv_goto (tgt := 24) hx hb dJ7_copyOf_6403c_10 (by decide) ?_
    exact t_J7_copyOf_6403c_24 hC hin hO S13 (0 + 1) (0 + p1.toNatClampNeg) p0 p1 (some q12) _ _ _ h hT (lv_sub hl [0, 1] rfl)
/-! J7_copyOf_1904c -/
abbrev rm_J7_copyOf_1904c (mc ms : Nat) : Room := { frames := 2, cells := mc, slots := ms, locals := 63 }
def wp_J7_copyOf_1904c (post : Option Nat → cs_S → Prop) (G : Nat → Nat) (mc ms : Nat) (S : cs_S) (p0 : Option Nat) (p1 : Int32) : Prop := ∃ b4, p0 = some b4 ∧ cs_k S b4 = 27 ∧ ¬ cs_n S b4 = 0 ∧ ∃ m6 n6, 0 + m6 ≤ mc ∧ 0 + n6 ≤ ms ∧ wp_J7_copyOf_6403c (fun r6 S6 => post r6 S6) G m6 n6 S (some b4) p1 (some (G 2))
set_option maxRecDepth 100000 in
set_option maxHeartbeats 4000000 in
theorem c_J7_copyOf_1904c {l : Launch} {P : hw_G} {G : Nat → Nat} {S : cs_S} {sz : Nat} {mc ms : Nat} {p0 : Option Nat} {p1 : Int32} {post : Option Nat → cs_S → Prop} (h : wp_J7_copyOf_1904c post G mc ms S p0 p1) : Met l yJ7_copyOf_1904c [Cond.code yJ7_copyOf_1904c cJ7_copyOf_1904c 2 (some (.array (.object "java/lang/Object")))] (rm_J7_copyOf_1904c mc ms) (cs_Pc P G S sz [va_rf p0, .int p1]) (cs_Qr P (cs_A S sz) post) mc ms (cs_A S sz) := by
  refine cs_met (by decide) rfl (by cases p0 <;> exact Nat.le_of_ble_eq_true rfl) ?_
  intro p e s m below meth c ls hC hin hO hT hl
  obtain ⟨hx, hb, hml, hown, hK, -, -⟩ := id hC
  replace hl : lv_has ls 2 [(0, va_rf p0), (1, .int p1)] := by cases p0 <;> exact hl
  refine hw_aload_n (x := p0) hx hb dJ7_copyOf_1904c_0 rfl (lv_at hl 0 rfl) ?_
  refine lv_iload_n hx hb dJ7_copyOf_1904c_1 rfl (lv_at hl 1 rfl) ?_
  refine hw_aload_n (x := p0) hx hb dJ7_copyOf_1904c_2 rfl (lv_at hl 0 rfl) ?_
  obtain ⟨b4, rfl, h⟩ := h
  obtain ⟨hk5_, h⟩ := h
  obtain ⟨hi, h⟩ := h
  refine cs_getC hx hb hml hl.1 hown hK hO hT hk5_ hi klJ7_86 (Nat.le_of_ble_eq_true rfl) (hw_catN (Nat.le_of_ble_eq_true rfl) (Nat.le_of_ble_eq_true rfl)) dJ7_copyOf_1904c_3 ?_
  obtain ⟨m6, n6, hu6, hv6, h⟩ := h
  refine cs_callr (cs_runS hx hb hml hown hK hO hT (c_J7_copyOf_6403c h) rfl rfl klJ7_300 ki_J7_copyOf_6403c kn_J7 kc_J7_copyOf_6403c 3 ⟨by decide, by decide, by decide +kernel⟩ ⟨Nat.le_of_ble_eq_true rfl, Nat.le_of_ble_eq_true rfl⟩ rfl hl.1 rfl (hw_cat8 (Nat.le_of_ble_eq_true rfl)) ⟨hu6, hv6⟩ dJ7_copyOf_1904c_6) hT (fun r6 S6 H locs h_ hT_ => ?_)
  replace h := h_
  replace hT := hT_
  exact cs_aret (v := r6) hC (Or.inr ⟨_, rfl⟩) hT h dJ7_copyOf_1904c_9 hu6 hv6
/-! Jx4a65c_grow_92f84 -/
abbrev rm_Jx4a65c_grow_92f84 (mc ms : Nat) : Room := { frames := 3, cells := mc, slots := ms, locals := 84 }
def w_Jx4a65c_grow_92f84_20 (post : Option Nat → cs_S → Prop) (G : Nat → Nat) (mc ms : Nat) (S : cs_S) (u v : Nat) (x0 : Nat) (x1 : Int32) (x2 : Int32) : Prop := u ≤ mc ∧ v ≤ ms ∧ wp_J8_newLength_cabcc (fun r16 S16 => cs_k S16 x0 = 1 ∧ ∀ r18, r18 = cs_r S16 1 x0 → ∃ m19 n19, u + m19 ≤ mc ∧ v + n19 ≤ ms ∧ wp_J7_copyOf_1904c (fun r19 S19 => cs_k S19 x0 = 1 ∧ ∀ S21, S21 = cs_ur S19 1 x0 r19 → post r19 S21) G m19 n19 S16 r18 r16) G S x2 (x1 - x2) (x2 >>> (1 &&& 31))
section
variable {p : Program} {l : Launch} {e : Env} {s : State} {m : MethodId} {args : Array Value} {below : List Frame} {meth : Method} {c : Code} {P : hw_G} {G : Nat → Nat} {A : Nat → Prop}
set_option maxRecDepth 100000 in
set_option maxHeartbeats 4000000 in
theorem t_Jx4a65c_grow_92f84_20 {post : Option Nat → cs_S → Prop} {mc ms : Nat} (hC : rf_C P RJx4a65c p s m meth c cJx4a65c_grow_92f84 4 (some (.array (.object "java/lang/Object")))) (hin : meth.name = yJx4a65c_grow_92f84.name) (hO : cs_O G A s s.heap) (S : cs_S) (u v : Nat) (x0 : Nat) (x1 : Int32) (x2 : Int32) (H : Heap) (locs : List Loc) (ls : Array Slot) (h : w_Jx4a65c_grow_92f84_20 post G mc ms S u v x0 x1 x2) (hT : cs_T P s A S H locs) (hl : lv_has ls 4 [(0, .ref x0), (1, .int x1), (2, .int x2)]) : W p l e (rm_Jx4a65c_grow_92f84 mc ms) s m args below meth c H locs u v (MQ below (cs_Qr P A post) args s mc ms A) (F0 m 20 ls []) := by
  obtain ⟨hx, hb, hml, hown, hK, -, -⟩ := id hC
  obtain ⟨hu, hv, h⟩ := h
  refine lv_iload_n hx hb dJx4a65c_grow_92f84_20 rfl (lv_at hl 2 rfl) ?_
  refine lv_iload_n hx hb dJx4a65c_grow_92f84_21 rfl (lv_at hl 1 rfl) ?_
  refine lv_iload_n hx hb dJx4a65c_grow_92f84_22 rfl (lv_at hl 2 rfl) ?_
  refine lv_isub hx hb dJx4a65c_grow_92f84_23 ?_
  refine lv_iload_n hx hb dJx4a65c_grow_92f84_24 rfl (lv_at hl 2 rfl) ?_
  refine lv_iconst (v := 1) hx hb dJx4a65c_grow_92f84_25 (by decide) ?_
  refine lv_ishr hx hb dJx4a65c_grow_92f84_26 ?_
  refine cs_calli0 (cs_runS hx hb hml hown hK hO hT (c_J8_newLength_cabcc h) rfl rfl klJx4a65c_73 ki_J8_newLength_cabcc kn_J8 kc_J8_newLength_cabcc 3 ⟨by decide, by decide, by decide +kernel⟩ ⟨Nat.le_of_ble_eq_true rfl, Nat.le_of_ble_eq_true rfl⟩ rfl hl.1 rfl (hw_cat8 (Nat.le_of_ble_eq_true rfl)) ⟨hu, hv⟩ dJx4a65c_grow_92f84_27) hT (fun r16 S16 H locs h_ hT_ => ?_)
  replace h := h_
  replace hT := hT_
  refine lv_istore_n (lv' := [(3, _), (0, _), (1, _), (2, _)]) hx hb dJx4a65c_grow_92f84_30 rfl hl (by decide) rfl (fun ls hl_ => ?_)
  replace hl := hl_
  refine lv_aload_n (x := x0) hx hb dJx4a65c_grow_92f84_31 rfl (lv_at hl 1 rfl) ?_
  refine lv_aload_n (x := x0) hx hb dJx4a65c_grow_92f84_32 rfl (lv_at hl 1 rfl) ?_
  obtain ⟨hk17_, h⟩ := h
  refine cs_get hx hb hK hT hown 0 hk17_ (by decide) rfl 1 (by decide) kfJx4a65c_9 (v := va_rf (cs_r S16 1 x0)) rfl dJx4a65c_grow_92f84_33 ?_
  refine hw_topr (fun r18 er18 => ?_)
  replace h := h r18 er18
  refine lv_iload_n hx hb dJx4a65c_grow_92f84_36 rfl (lv_at hl 0 rfl) ?_
  obtain ⟨m19, n19, hu19, hv19, h⟩ := h
  refine cs_callr (cs_runS hx hb hml hown hK hO hT (c_J7_copyOf_1904c h) rfl rfl klJx4a65c_66 ki_J7_copyOf_1904c kn_J7 kc_J7_copyOf_1904c 2 ⟨by decide, by decide, by decide +kernel⟩ ⟨Nat.le_of_ble_eq_true rfl, Nat.le_of_ble_eq_true rfl⟩ rfl hl.1 rfl (hw_cat8 (Nat.le_of_ble_eq_true rfl)) ⟨hu19, hv19⟩ dJx4a65c_grow_92f84_37) hT (fun r19 S19 H locs h_ hT_ => ?_)
  replace h := h_
  replace hT := hT_
  refine lv_dup_x1 hx hb dJx4a65c_grow_92f84_40 (va_rf_cat _) rfl ?_
  obtain ⟨hk20_, h⟩ := h
  refine cs_putr (x := r19) hx hb hK hT hown 0 hk20_ (by decide) rfl 1 (by decide) kfJx4a65c_9 rfl (tyJx4a65c_ok 1 (by decide)) rfl 1 rfl dJx4a65c_grow_92f84_41 (fun H locs hT_ => ?_)
  replace hT := hT_
  obtain ⟨S21, eS21⟩ : ∃ z, z = cs_ur S19 1 x0 r19 := ⟨_, rfl⟩
  rw [← eS21] at hT
  replace h := h S21 eS21
  exact cs_aret (v := r19) hC (Or.inr ⟨_, rfl⟩) hT h dJx4a65c_grow_92f84_44 hu19 hv19
end
def wp_Jx4a65c_grow_92f84 (post : Option Nat → cs_S → Prop) (G : Nat → Nat) (mc ms : Nat) (S : cs_S) (o : Nat) (p1 : Int32) : Prop := cs_k S o = 1 ∧ ∀ r23, r23 = cs_r S 1 o → ∃ b24, r23 = some b24 ∧ cs_k S b24 = 27 ∧ (0 < (Int32.ofNat (cs_n S b24)) → w_Jx4a65c_grow_92f84_20 post G mc ms S 0 0 o p1 (Int32.ofNat (cs_n S b24))) ∧ (¬ 0 < (Int32.ofNat (cs_n S b24)) → ∀ r26, r26 = cs_r S 1 o → (r26 = (some (G 1)) → ¬ (if 10 < p1 then p1 else 10) < 0 ∧ (if 10 < p1 then p1 else 10).toNatClampNeg * 4 ≤ 536870912 ∧ 0 + 1 ≤ mc ∧ 0 + (if 10 < p1 then p1 else 10).toNatClampNeg ≤ ms ∧ ∀ q27, cs_k S q27 = 0 → ∀ S28, S28 = cs_newA S q27 27 (if 10 < p1 then p1 else 10).toNatClampNeg → cs_k S28 o = 1 ∧ ∀ S30, S30 = cs_ur S28 1 o (some q27) → post (some q27) S30) ∧ (¬ r26 = (some (G 1)) → w_Jx4a65c_grow_92f84_20 post G mc ms S 0 0 o p1 (Int32.ofNat (cs_n S b24))))
set_option maxRecDepth 100000 in
set_option maxHeartbeats 4000000 in
theorem c_Jx4a65c_grow_92f84 {l : Launch} {P : hw_G} {G : Nat → Nat} {S : cs_S} {sz : Nat} {mc ms : Nat} {o : Nat} {p1 : Int32} {post : Option Nat → cs_S → Prop} (h : wp_Jx4a65c_grow_92f84 post G mc ms S o p1) : Met l yJx4a65c_grow_92f84 [Cond.code yJx4a65c_grow_92f84 cJx4a65c_grow_92f84 4 (some (.array (.object "java/lang/Object")))] (rm_Jx4a65c_grow_92f84 mc ms) (cs_Pc P G S sz [.ref o, .int p1]) (cs_Qr P (cs_A S sz) post) mc ms (cs_A S sz) := by
  refine cs_met (by decide) rfl (Nat.le_of_ble_eq_true rfl) ?_
  intro p e s m below meth c ls hC hin hO hT hl
  obtain ⟨hx, hb, hml, hown, hK, -, -⟩ := id hC
  replace hl : lv_has ls 4 [(0, .ref o), (1, .int p1)] := hl
  refine lv_aload_n (x := o) hx hb dJx4a65c_grow_92f84_0 rfl (lv_at hl 0 rfl) ?_
  obtain ⟨hk22_, h⟩ := h
  refine cs_get hx hb hK hT hown 0 hk22_ (by decide) rfl 1 (by decide) kfJx4a65c_9 (v := va_rf (cs_r S 1 o)) rfl dJx4a65c_grow_92f84_1 ?_
  refine hw_topr (fun r23 er23 => ?_)
  replace h := h r23 er23
  obtain ⟨b24, rfl, h⟩ := h
  obtain ⟨hk25_, h⟩ := h
  refine cs_alen hx hb hK hT 27 hk25_ (by decide) (by decide) dJx4a65c_grow_92f84_4 ?_
  refine lv_istore_n (lv' := [(2, _), (0, _), (1, _)]) hx hb dJx4a65c_grow_92f84_5 rfl hl (by decide) rfl (fun ls hl_ => ?_)
  replace hl := hl_
  refine lv_iload_n hx hb dJx4a65c_grow_92f84_6 rfl (lv_at hl 0 rfl) ?_
  refine lv_if_gt (tgt := 20) hx hb dJx4a65c_grow_92f84_7 (by decide) (fun hc => ?_) (fun hc => ?_)
  · replace h := h.1 hc
    exact t_Jx4a65c_grow_92f84_20 hC hin hO S 0 0 o p1 (Int32.ofNat (cs_n S b24)) _ _ _ h hT (lv_sub hl [1, 2, 0] rfl)
  · replace h := h.2 hc
    refine lv_aload_n (x := o) hx hb dJx4a65c_grow_92f84_10 rfl (lv_at hl 1 rfl) ?_
    refine cs_get hx hb hK hT hown 0 hk22_ (by decide) rfl 1 (by decide) kfJx4a65c_9 (v := va_rf (cs_r S 1 o)) rfl dJx4a65c_grow_92f84_11 ?_
    refine hw_topr (fun r26 er26 => ?_)
    replace h := h r26 er26
    refine cs_gets hx hb hO.2.1 hK hT hown kfJx4a65c_39 dJx4a65c_grow_92f84_14 ?_
    refine lv_acmp_eq (rx := r26) (ry := (some (G 1))) (tgt := 45) hx hb dJx4a65c_grow_92f84_17 (by decide) (fun hc => ?_) (fun hc => ?_)
    · replace h := h.1 hc
      refine lv_aload_n (x := o) hx hb dJx4a65c_grow_92f84_45 rfl (lv_at hl 1 rfl) ?_
      refine lv_bipush (v := 10) hx hb dJx4a65c_grow_92f84_46 (by decide) ?_
      refine lv_iload_n hx hb dJx4a65c_grow_92f84_48 rfl (lv_at hl 2 rfl) ?_
      refine va_mmax hx hb (hml.trans hl.1.symm) hown (hK.word klJx4a65c_79m rfl) (hK.word ki_mmax rfl) (hK.word kn_J9 rfl) (hK.word kc_mmax rfl) (Nat.le_of_ble_eq_true rfl) (hw_catN (Nat.le_of_ble_eq_true rfl) (Nat.le_of_ble_eq_true rfl)) (Nat.zero_le _) (Nat.zero_le _) dJx4a65c_grow_92f84_49 ?_
      obtain ⟨hn1, hn2, hu27, hv27, h⟩ := h
      refine cs_anew hx hb hK hT hown 27 rfl kxJx4a65c_7 (by decide) (by decide) (by decide) hn1 hn2 hu27 hv27 dJx4a65c_grow_92f84_52 (fun q27 H hq27 hT_ => ?_)
      replace h := h q27 hq27
      replace hT := hT_
      obtain ⟨S28, eS28⟩ : ∃ z, z = cs_newA S q27 27 (if 10 < p1 then p1 else 10).toNatClampNeg := ⟨_, rfl⟩
      rw [← eS28] at hT
      replace h := h S28 eS28
      refine lv_dup_x1 hx hb dJx4a65c_grow_92f84_55 rfl rfl ?_
      obtain ⟨hk29_, h⟩ := h
      refine cs_putr (x := (some q27)) hx hb hK hT hown 0 hk29_ (by decide) rfl 1 (by decide) kfJx4a65c_9 rfl (tyJx4a65c_ok 1 (by decide)) rfl 1 rfl dJx4a65c_grow_92f84_56 (fun H locs hT_ => ?_)
      replace hT := hT_
      obtain ⟨S30, eS30⟩ : ∃ z, z = cs_ur S28 1 o (some q27) := ⟨_, rfl⟩
      rw [← eS30] at hT
      replace h := h S30 eS30
      exact cs_aret (v := (some q27)) hC (Or.inr ⟨_, rfl⟩) hT h dJx4a65c_grow_92f84_59 hu27 hv27
    · replace h := h.2 hc
      exact t_Jx4a65c_grow_92f84_20 hC hin hO S 0 0 o p1 (Int32.ofNat (cs_n S b24)) _ _ _ h hT (lv_sub hl [1, 2, 0] rfl)
/-! Jx4a65c_grow_d5877 -/
abbrev rm_Jx4a65c_grow_d5877 (mc ms : Nat) : Room := { frames := 4, cells := mc, slots := ms, locals := 107 }
def wp_Jx4a65c_grow_d5877 (post : Option Nat → cs_S → Prop) (G : Nat → Nat) (mc ms : Nat) (S : cs_S) (o : Nat) : Prop := cs_k S o = 1 ∧ ∃ m4 n4, 0 + m4 ≤ mc ∧ 0 + n4 ≤ ms ∧ wp_Jx4a65c_grow_92f84 (fun r4 S4 => post r4 S4) G m4 n4 S o ((cs_i S 2 o) + 1)
set_option maxRecDepth 100000 in
set_option maxHeartbeats 4000000 in
theorem c_Jx4a65c_grow_d5877 {l : Launch} {P : hw_G} {G : Nat → Nat} {S : cs_S} {sz : Nat} {mc ms : Nat} {o : Nat} {post : Option Nat → cs_S → Prop} (h : wp_Jx4a65c_grow_d5877 post G mc ms S o) : Met l yJx4a65c_grow_d5877 [Cond.code yJx4a65c_grow_d5877 cJx4a65c_grow_d5877 1 (some (.array (.object "java/lang/Object")))] (rm_Jx4a65c_grow_d5877 mc ms) (cs_Pc P G S sz [.ref o]) (cs_Qr P (cs_A S sz) post) mc ms (cs_A S sz) := by
  refine cs_met (by decide) rfl (Nat.le_of_ble_eq_true rfl) ?_
  intro p e s m below meth c ls hC hin hO hT hl
  obtain ⟨hx, hb, hml, hown, hK, -, -⟩ := id hC
  replace hl : lv_has ls 1 [(0, .ref o)] := hl
  refine lv_aload_n (x := o) hx hb dJx4a65c_grow_d5877_0 rfl (lv_at hl 0 rfl) ?_
  refine lv_aload_n (x := o) hx hb dJx4a65c_grow_d5877_1 rfl (lv_at hl 0 rfl) ?_
  obtain ⟨hk3_, h⟩ := h
  refine cs_get hx hb hK hT hown 0 hk3_ (by decide) rfl 2 (by decide) kfJx4a65c_48 (v := .int (cs_i S 2 o)) rfl dJx4a65c_grow_d5877_2 ?_
  refine lv_iconst (v := 1) hx hb dJx4a65c_grow_d5877_5 (by decide) ?_
  refine lv_iadd hx hb dJx4a65c_grow_d5877_6 ?_
  obtain ⟨m4, n4, hu4, hv4, h⟩ := h
  refine cs_callr (cs_runV hx hb hml hown hK hO hT 0 hk3_ (by decide) rfl (c_Jx4a65c_grow_92f84 h) rfl rfl klJx4a65c_69 ki_Jx4a65c_grow_92f84 ks_Jx4a65c_grow_92f84 kn_Jx4a65c kc_Jx4a65c_grow_92f84 1 ⟨rfl, by decide, by decide, by decide +kernel⟩ ⟨Nat.le_of_ble_eq_true rfl, Nat.le_of_ble_eq_true rfl⟩ rfl hl.1 rfl (hw_cat8 (Nat.le_of_ble_eq_true rfl)) ⟨hu4, hv4⟩ dJx4a65c_grow_d5877_7) hT (fun r4 S4 H locs h_ hT_ => ?_)
  replace h := h_
  replace hT := hT_
  exact cs_aret (v := r4) hC (Or.inr ⟨_, rfl⟩) hT h dJx4a65c_grow_d5877_10 hu4 hv4
/-! Jx4a65c_add_72be8 -/
abbrev rm_Jx4a65c_add_72be8 (mc ms : Nat) : Room := { frames := 5, cells := mc, slots := ms, locals := 127 }
def w_Jx4a65c_add_72be8_11 (post : cs_S → Prop) (G : Nat → Nat) (mc ms : Nat) (S : cs_S) (u v : Nat) (x0 : Nat) (x1 : Option Nat) (x2 : Option Nat) (x3 : Int32) : Prop := u ≤ mc ∧ v ≤ ms ∧ ∃ b8, x2 = some b8 ∧ cs_k S b8 = 27 ∧ vp_in x3 (cs_n S b8) ∧ (∀ b, x1 = some b → cs_k S b = 2) ∧ ∀ S10, S10 = cs_uar S b8 x3.toNatClampNeg x1 → cs_k S10 x0 = 1 ∧ ∀ S12, S12 = cs_ui S10 2 x0 (x3 + 1) → post S12
section
variable {p : Program} {l : Launch} {e : Env} {s : State} {m : MethodId} {args : Array Value} {below : List Frame} {meth : Method} {c : Code} {P : hw_G} {G : Nat → Nat} {A : Nat → Prop}
set_option maxRecDepth 100000 in
set_option maxHeartbeats 4000000 in
theorem t_Jx4a65c_add_72be8_11 {post : cs_S → Prop} {mc ms : Nat} (hC : rf_C P RJx4a65c p s m meth c cJx4a65c_add_72be8 4 none) (hin : meth.name = yJx4a65c_add_72be8.name) (hO : cs_O G A s s.heap) (S : cs_S) (u v : Nat) (x0 : Nat) (x1 : Option Nat) (x2 : Option Nat) (x3 : Int32) (H : Heap) (locs : List Loc) (ls : Array Slot) (h : w_Jx4a65c_add_72be8_11 post G mc ms S u v x0 x1 x2 x3) (hT : cs_T P s A S H locs) (hl : lv_has ls 4 [(0, .ref x0), (1, va_rf x1), (2, va_rf x2), (3, .int x3)]) : W p l e (rm_Jx4a65c_add_72be8 mc ms) s m args below meth c H locs u v (MQ below (cs_Qv P A post) args s mc ms A) (F0 m 11 ls []) := by
  obtain ⟨hx, hb, hml, hown, hK, -, -⟩ := id hC
  obtain ⟨hu, hv, h⟩ := h
  refine hw_aload_n (x := x2) hx hb dJx4a65c_add_72be8_11 rfl (lv_at hl 2 rfl) ?_
  refine lv_iload_n hx hb dJx4a65c_add_72be8_12 rfl (lv_at hl 3 rfl) ?_
  refine hw_aload_n (x := x1) hx hb dJx4a65c_add_72be8_13 rfl (lv_at hl 1 rfl) ?_
  obtain ⟨b8, rfl, h⟩ := h
  obtain ⟨hk9_, h⟩ := h
  obtain ⟨hi, h⟩ := h
  obtain ⟨he, h⟩ := h
  refine cs_aastO (x := x1) hx hb hK hT hk9_ (ci := 1) rfl (by decide) (hO.2.2.2.2.2.2.2.2.1 _ kca_X0 rfl) hi he dJx4a65c_add_72be8_14 (fun H locs hT_ => ?_)
  replace hT := hT_
  obtain ⟨S10, eS10⟩ : ∃ z, z = cs_uar S b8 x3.toNatClampNeg x1 := ⟨_, rfl⟩
  rw [← eS10] at hT
  replace h := h S10 eS10
  refine lv_aload_n (x := x0) hx hb dJx4a65c_add_72be8_15 rfl (lv_at hl 0 rfl) ?_
  refine lv_iload_n hx hb dJx4a65c_add_72be8_16 rfl (lv_at hl 3 rfl) ?_
  refine lv_iconst (v := 1) hx hb dJx4a65c_add_72be8_17 (by decide) ?_
  refine lv_iadd hx hb dJx4a65c_add_72be8_18 ?_
  obtain ⟨hk11_, h⟩ := h
  refine cs_puti (x := (x3 + 1)) hx hb hK hT hown 0 hk11_ (by decide) rfl 2 (by decide) kfJx4a65c_48 rfl (tyJx4a65c_ok 2 (by decide)) rfl 2 rfl dJx4a65c_add_72be8_19 (fun H locs hT_ => ?_)
  replace hT := hT_
  obtain ⟨S12, eS12⟩ : ∃ z, z = cs_ui S10 2 x0 (x3 + 1) := ⟨_, rfl⟩
  rw [← eS12] at hT
  replace h := h S12 eS12
  exact cs_vret hC hT h dJx4a65c_add_72be8_22 hu hv
end
def wp_Jx4a65c_add_72be8 (post : cs_S → Prop) (G : Nat → Nat) (mc ms : Nat) (S : cs_S) (o : Nat) (p1 : Option Nat) (p2 : Option Nat) (p3 : Int32) : Prop := ∃ b13, p2 = some b13 ∧ cs_k S b13 = 27 ∧ (¬ p3 = (Int32.ofNat (cs_n S b13)) → w_Jx4a65c_add_72be8_11 post G mc ms S 0 0 o p1 (some b13) p3) ∧ (p3 = (Int32.ofNat (cs_n S b13)) → cs_k S o = 1 ∧ ∃ m15 n15, 0 + m15 ≤ mc ∧ 0 + n15 ≤ ms ∧ wp_Jx4a65c_grow_d5877 (fun r15 S15 => w_Jx4a65c_add_72be8_11 post G mc ms S15 (0 + m15) (0 + n15) o p1 r15 p3) G m15 n15 S o)
set_option maxRecDepth 100000 in
set_option maxHeartbeats 4000000 in
theorem c_Jx4a65c_add_72be8 {l : Launch} {P : hw_G} {G : Nat → Nat} {S : cs_S} {sz : Nat} {mc ms : Nat} {o : Nat} {p1 : Option Nat} {p2 : Option Nat} {p3 : Int32} {post : cs_S → Prop} (h : wp_Jx4a65c_add_72be8 post G mc ms S o p1 p2 p3) : Met l yJx4a65c_add_72be8 [Cond.code yJx4a65c_add_72be8 cJx4a65c_add_72be8 4 none] (rm_Jx4a65c_add_72be8 mc ms) (cs_Pc P G S sz [.ref o, va_rf p1, va_rf p2, .int p3]) (cs_Qv P (cs_A S sz) post) mc ms (cs_A S sz) := by
  refine cs_met (by decide) rfl (by cases p1 <;> cases p2 <;> exact Nat.le_of_ble_eq_true rfl) ?_
  intro p e s m below meth c ls hC hin hO hT hl
  obtain ⟨hx, hb, hml, hown, hK, -, -⟩ := id hC
  replace hl : lv_has ls 4 [(0, .ref o), (1, va_rf p1), (2, va_rf p2), (3, .int p3)] := by cases p1 <;> cases p2 <;> exact hl
  refine lv_iload_n hx hb dJx4a65c_add_72be8_0 rfl (lv_at hl 3 rfl) ?_
  refine hw_aload_n (x := p2) hx hb dJx4a65c_add_72be8_1 rfl (lv_at hl 2 rfl) ?_
  obtain ⟨b13, rfl, h⟩ := h
  obtain ⟨hk14_, h⟩ := h
  refine cs_alen hx hb hK hT 27 hk14_ (by decide) (by decide) dJx4a65c_add_72be8_2 ?_
  refine lv_icmp_ne (tgt := 11) hx hb dJx4a65c_add_72be8_3 (by decide) (fun hc => ?_) (fun hc => ?_)
  · replace h := h.1 hc
    exact t_Jx4a65c_add_72be8_11 hC hin hO S 0 0 o p1 (some b13) p3 _ _ _ h hT (lv_sub hl [0, 1, 2, 3] rfl)
  · replace h := h.2 hc
    refine lv_aload_n (x := o) hx hb dJx4a65c_add_72be8_6 rfl (lv_at hl 0 rfl) ?_
    obtain ⟨hk16_, h⟩ := h
    obtain ⟨m15, n15, hu15, hv15, h⟩ := h
    refine cs_callr (cs_runV hx hb hml hown hK hO hT 0 hk16_ (by decide) rfl (c_Jx4a65c_grow_d5877 h) rfl rfl klJx4a65c_129 ki_Jx4a65c_grow_d5877 ks_Jx4a65c_grow_d5877 kn_Jx4a65c kc_Jx4a65c_grow_d5877 0 ⟨rfl, by decide, by decide, by decide +kernel⟩ ⟨Nat.le_of_ble_eq_true rfl, Nat.le_of_ble_eq_true rfl⟩ rfl hl.1 rfl (hw_cat8 (Nat.le_of_ble_eq_true rfl)) ⟨hu15, hv15⟩ dJx4a65c_add_72be8_7) hT (fun r15 S15 H locs h_ hT_ => ?_)
    replace h := h_
    replace hT := hT_
    refine hw_astore_n (lv' := [(2, _), (0, _), (1, _), (3, _)]) (x := r15) hx hb dJx4a65c_add_72be8_10 rfl hl (by decide) (congrArg (List.cons _) ((hw_flt (fun q hq => by simp only [List.mem_cons, List.not_mem_nil, or_false] at hq; rcases hq with rfl | rfl | rfl | rfl <;> first | exact fun _ => rfl | exact fun _ => va_rf_cat _ | (intro h; simp at h))).trans rfl)) (fun ls hl_ => ?_)
    replace hl := hl_
    exact t_Jx4a65c_add_72be8_11 hC hin hO S15 (0 + m15) (0 + n15) o p1 r15 p3 _ _ _ h hT (lv_sub hl [1, 2, 0, 3] rfl)
/-! Jx4a65c_add_9ea2d -/
abbrev rm_Jx4a65c_add_9ea2d (mc ms : Nat) : Room := { frames := 6, cells := mc, slots := ms, locals := 150 }
def wp_Jx4a65c_add_9ea2d (post : Int32 → cs_S → Prop) (G : Nat → Nat) (mc ms : Nat) (S : cs_S) (o : Nat) (p1 : Option Nat) : Prop := cs_k S o = 1 ∧ ∀ S7, S7 = cs_ui S 0 o ((cs_i S 0 o) + 1) → cs_k S7 o = 1 ∧ ∀ r9, r9 = cs_r S7 1 o → ∃ m10 n10, 0 + m10 ≤ mc ∧ 0 + n10 ≤ ms ∧ wp_Jx4a65c_add_72be8 (fun S10 => post 1 S10) G m10 n10 S7 o p1 r9 (cs_i S7 2 o)
set_option maxRecDepth 100000 in
set_option maxHeartbeats 4000000 in
theorem c_Jx4a65c_add_9ea2d {l : Launch} {P : hw_G} {G : Nat → Nat} {S : cs_S} {sz : Nat} {mc ms : Nat} {o : Nat} {p1 : Option Nat} {post : Int32 → cs_S → Prop} (h : wp_Jx4a65c_add_9ea2d post G mc ms S o p1) : Met l yJx4a65c_add_9ea2d [Cond.code yJx4a65c_add_9ea2d cJx4a65c_add_9ea2d 2 (some .boolean)] (rm_Jx4a65c_add_9ea2d mc ms) (cs_Pc P G S sz [.ref o, va_rf p1]) (cs_Qi P (cs_A S sz) post) mc ms (cs_A S sz) := by
  refine cs_met (by decide) rfl (by cases p1 <;> exact Nat.le_of_ble_eq_true rfl) ?_
  intro p e s m below meth c ls hC hin hO hT hl
  obtain ⟨hx, hb, hml, hown, hK, -, -⟩ := id hC
  replace hl : lv_has ls 2 [(0, .ref o), (1, va_rf p1)] := by cases p1 <;> exact hl
  refine lv_aload_n (x := o) hx hb dJx4a65c_add_9ea2d_0 rfl (lv_at hl 0 rfl) ?_
  refine lv_dup hx hb dJx4a65c_add_9ea2d_1 rfl ?_
  obtain ⟨hk6_, h⟩ := h
  refine cs_getS hx hb hK hT hown 0 hk6_ (by decide) rfl 0 (by decide) kfJx4a65c_63 ksf_mod (v := .int (cs_i S 0 o)) rfl dJx4a65c_add_9ea2d_2 ?_
  refine lv_iconst (v := 1) hx hb dJx4a65c_add_9ea2d_5 (by decide) ?_
  refine lv_iadd hx hb dJx4a65c_add_9ea2d_6 ?_
  refine cs_putiS (x := ((cs_i S 0 o) + 1)) hx hb hK hT hown 0 hk6_ (by decide) rfl 0 (by decide) kfJx4a65c_63 ksf_mod rfl (tyJx4a65c_ok 0 (by decide)) rfl 0 rfl dJx4a65c_add_9ea2d_7 (fun H locs hT_ => ?_)
  replace hT := hT_
  obtain ⟨S7, eS7⟩ : ∃ z, z = cs_ui S 0 o ((cs_i S 0 o) + 1) := ⟨_, rfl⟩
  rw [← eS7] at hT
  replace h := h S7 eS7
  refine lv_aload_n (x := o) hx hb dJx4a65c_add_9ea2d_10 rfl (lv_at hl 0 rfl) ?_
  refine hw_aload_n (x := p1) hx hb dJx4a65c_add_9ea2d_11 rfl (lv_at hl 1 rfl) ?_
  refine lv_aload_n (x := o) hx hb dJx4a65c_add_9ea2d_12 rfl (lv_at hl 0 rfl) ?_
  obtain ⟨hk8_, h⟩ := h
  refine cs_get hx hb hK hT hown 0 hk8_ (by decide) rfl 1 (by decide) kfJx4a65c_9 (v := va_rf (cs_r S7 1 o)) rfl dJx4a65c_add_9ea2d_13 ?_
  refine hw_topr (fun r9 er9 => ?_)
  replace h := h r9 er9
  refine lv_aload_n (x := o) hx hb dJx4a65c_add_9ea2d_16 rfl (lv_at hl 0 rfl) ?_
  refine cs_get hx hb hK hT hown 0 hk8_ (by decide) rfl 2 (by decide) kfJx4a65c_48 (v := .int (cs_i S7 2 o)) rfl dJx4a65c_add_9ea2d_17 ?_
  obtain ⟨m10, n10, hu10, hv10, h⟩ := h
  refine cs_callv (cs_runV hx hb hml hown hK hO hT 0 hk8_ (by decide) rfl (c_Jx4a65c_add_72be8 h) rfl rfl klJx4a65c_131 ki_Jx4a65c_add_72be8 ks_Jx4a65c_add_72be8 kn_Jx4a65c kc_Jx4a65c_add_72be8 3 ⟨rfl, by decide, by decide, by decide +kernel⟩ ⟨Nat.le_of_ble_eq_true rfl, Nat.le_of_ble_eq_true rfl⟩ rfl hl.1 rfl (hw_cat8 (Nat.le_of_ble_eq_true rfl)) ⟨hu10, hv10⟩ dJx4a65c_add_9ea2d_20) hT (fun S10 H locs h_ hT_ => ?_)
  replace h := h_
  replace hT := hT_
  refine lv_iconst (v := 1) hx hb dJx4a65c_add_9ea2d_23 (by decide) ?_
  exact cs_zret hC hT rfl h dJx4a65c_add_9ea2d_24 hu10 hv10
/-! X10_makeEvent -/
abbrev rm_X10_makeEvent (mc ms : Nat) : Room := { frames := 2, cells := mc, slots := ms, locals := 50 }
def w_X10_makeEvent_177 (post : cs_S → Prop) (G : Nat → Nat) (mc ms : Nat) (S : cs_S) (u v : Nat) (x0 : Nat) (x7 : Option Nat) : Prop := u ≤ mc ∧ v ≤ ms ∧ cs_k S x0 = 12 ∧ ∀ S49, S49 = cs_ur S 1111 x0 x7 → post S49
section
variable {p : Program} {l : Launch} {e : Env} {s : State} {m : MethodId} {args : Array Value} {below : List Frame} {meth : Method} {c : Code} {P : hw_G} {G : Nat → Nat} {A : Nat → Prop}
set_option maxRecDepth 100000 in
set_option maxHeartbeats 4000000 in
theorem t_X10_makeEvent_177 {post : cs_S → Prop} {mc ms : Nat} (hC : rf_C P RX10 p s m meth c cX10_makeEvent 9 none) (hin : meth.name = yX10_makeEvent.name) (hO : cs_O G A s s.heap) (S : cs_S) (u v : Nat) (x0 : Nat) (x7 : Option Nat) (H : Heap) (locs : List Loc) (ls : Array Slot) (h : w_X10_makeEvent_177 post G mc ms S u v x0 x7) (hT : cs_T P s A S H locs) (hl : lv_has ls 9 [(0, .ref x0), (7, va_rf x7)]) : W p l e (rm_X10_makeEvent mc ms) s m args below meth c H locs u v (MQ below (cs_Qv P A post) args s mc ms A) (F0 m 177 ls []) := by
  obtain ⟨hx, hb, hml, hown, hK, -, -⟩ := id hC
  obtain ⟨hu, hv, h⟩ := h
  refine lv_aload_n (x := x0) hx hb dX10_makeEvent_177 rfl (lv_at hl 0 rfl) ?_
  refine hw_aload (x := x7) hx hb dX10_makeEvent_178 (lv_at hl 1 rfl) ?_
  obtain ⟨hk48_, h⟩ := h
  refine cs_putr (x := x7) hx hb hK hT hown 11 hk48_ (by decide) rfl 11 (by decide) kfX10_122 rfl (tyX10_ok 11 (by decide)) rfl 1111 rfl dX10_makeEvent_180 (fun H locs hT_ => ?_)
  replace hT := hT_
  obtain ⟨S49, eS49⟩ : ∃ z, z = cs_ur S 1111 x0 x7 := ⟨_, rfl⟩
  rw [← eS49] at hT
  replace h := h S49 eS49
  exact cs_vret hC hT h dX10_makeEvent_183 hu hv
end
def w_X10_makeEvent_159 (post : cs_S → Prop) (G : Nat → Nat) (mc ms : Nat) (S : cs_S) (u v : Nat) (x0 : Nat) (x7 : Option Nat) : Prop := u ≤ mc ∧ v ≤ ms ∧ cs_k S x0 = 12 ∧ ∀ S51, S51 = cs_ur S 1110 x0 x7 → w_X10_makeEvent_177 post G mc ms S51 u v x0 x7
section
variable {p : Program} {l : Launch} {e : Env} {s : State} {m : MethodId} {args : Array Value} {below : List Frame} {meth : Method} {c : Code} {P : hw_G} {G : Nat → Nat} {A : Nat → Prop}
set_option maxRecDepth 100000 in
set_option maxHeartbeats 4000000 in
theorem t_X10_makeEvent_159 {post : cs_S → Prop} {mc ms : Nat} (hC : rf_C P RX10 p s m meth c cX10_makeEvent 9 none) (hin : meth.name = yX10_makeEvent.name) (hO : cs_O G A s s.heap) (S : cs_S) (u v : Nat) (x0 : Nat) (x7 : Option Nat) (H : Heap) (locs : List Loc) (ls : Array Slot) (h : w_X10_makeEvent_159 post G mc ms S u v x0 x7) (hT : cs_T P s A S H locs) (hl : lv_has ls 9 [(0, .ref x0), (7, va_rf x7)]) : W p l e (rm_X10_makeEvent mc ms) s m args below meth c H locs u v (MQ below (cs_Qv P A post) args s mc ms A) (F0 m 159 ls []) := by
  obtain ⟨hx, hb, hml, hown, hK, -, -⟩ := id hC
  obtain ⟨hu, hv, h⟩ := h
  refine lv_aload_n (x := x0) hx hb dX10_makeEvent_159 rfl (lv_at hl 0 rfl) ?_
  refine hw_aload (x := x7) hx hb dX10_makeEvent_160 (lv_at hl 1 rfl) ?_
  obtain ⟨hk50_, h⟩ := h
  refine cs_putr (x := x7) hx hb hK hT hown 11 hk50_ (by decide) rfl 10 (by decide) kfX10_113 rfl (tyX10_ok 10 (by decide)) rfl 1110 rfl dX10_makeEvent_162 (fun H locs hT_ => ?_)
  replace hT := hT_
  obtain ⟨S51, eS51⟩ : ∃ z, z = cs_ur S 1110 x0 x7 := ⟨_, rfl⟩
  rw [← eS51] at hT
  replace h := h S51 eS51
  refine lv_goto (tgt := 177) hx hb dX10_makeEvent_165 (by decide) ?_
  exact t_X10_makeEvent_177 hC hin hO S51 u v x0 x7 _ _ _ h hT (lv_sub hl [0, 1] rfl)
end
def w_X10_makeEvent_94 (post : cs_S → Prop) (G : Nat → Nat) (mc ms : Nat) (k30 : cs_S → Nat → Nat → Nat → Option Nat → Option Nat → Int32 → Int32 → Option Nat → Option Nat → Int32 → Prop) (S : cs_S) (u v : Nat) (x0 : Nat) (x1 : Option Nat) (x2 : Option Nat) (x3 : Int32) (x4 : Int32) (x5 : Option Nat) (x6 : Option Nat) (x7 : Int32) (x8 : Int32) : Prop := u ≤ mc ∧ v ≤ ms ∧ ∃ b52, x1 = some b52 ∧ cs_k S b52 = 9 ∧ ∀ r54, r54 = cs_r S 808 b52 → ∃ b55, r54 = some b55 ∧ cs_k S b55 = 21 ∧ vp_in x7 (cs_n S b55) ∧ ∃ b57, x5 = some b57 ∧ cs_k S b57 = 21 ∧ vp_in x8 (cs_n S b57) ∧ ∀ S59, S59 = cs_ual S b57 x8.toNatClampNeg (cs_al S b55 x7.toNatClampNeg) → ∃ b60, x2 = some b60 ∧ cs_k S59 b60 = 6 ∧ ∀ r62, r62 = cs_r S59 500 b60 → ∃ b63, r62 = some b63 ∧ cs_k S59 b63 = 26 ∧ vp_in x7 (cs_n S59 b63) ∧ ∀ r65, r65 = cs_ar S59 b63 x7.toNatClampNeg → ∃ b66, x6 = some b66 ∧ cs_k S59 b66 = 26 ∧ vp_in x8 (cs_n S59 b66) ∧ (∀ b, r65 = some b → cs_k S59 b = 11) ∧ ∀ S68, S68 = cs_uar S59 b66 x8.toNatClampNeg r65 → k30 S68 u v x0 (some b52) (some b60) x3 x4 (some b57) (some b66) (x7 + 1)
section
variable {p : Program} {l : Launch} {e : Env} {s : State} {m : MethodId} {args : Array Value} {below : List Frame} {meth : Method} {c : Code} {P : hw_G} {G : Nat → Nat} {A : Nat → Prop}
set_option maxRecDepth 100000 in
set_option maxHeartbeats 4000000 in
theorem t_X10_makeEvent_94 {post : cs_S → Prop} {mc ms : Nat} {k30 : cs_S → Nat → Nat → Nat → Option Nat → Option Nat → Int32 → Int32 → Option Nat → Option Nat → Int32 → Prop} (hC : rf_C P RX10 p s m meth c cX10_makeEvent 9 none) (hin : meth.name = yX10_makeEvent.name) (hO : cs_O G A s s.heap) (hk30 : ∀ (S : cs_S) (u v : Nat) (x0 : Nat) (x1 : Option Nat) (x2 : Option Nat) (x3 : Int32) (x4 : Int32) (x5 : Option Nat) (x6 : Option Nat) (x7 : Int32) (H : Heap) (locs : List Loc) (ls : Array Slot), k30 S u v x0 x1 x2 x3 x4 x5 x6 x7 → cs_T P s A S H locs → lv_has ls 9 [(0, .ref x0), (1, va_rf x1), (2, va_rf x2), (3, .int x3), (4, .int x4), (5, va_rf x5), (6, va_rf x6), (7, .int x7)] → W p l e (rm_X10_makeEvent mc ms) s m args below meth c H locs u v (MQ below (cs_Qv P A post) args s mc ms A) (F0 m 30 ls [])) (S : cs_S) (u v : Nat) (x0 : Nat) (x1 : Option Nat) (x2 : Option Nat) (x3 : Int32) (x4 : Int32) (x5 : Option Nat) (x6 : Option Nat) (x7 : Int32) (x8 : Int32) (H : Heap) (locs : List Loc) (ls : Array Slot) (h : w_X10_makeEvent_94 post G mc ms k30 S u v x0 x1 x2 x3 x4 x5 x6 x7 x8) (hT : cs_T P s A S H locs) (hl : lv_has ls 9 [(0, .ref x0), (1, va_rf x1), (2, va_rf x2), (3, .int x3), (4, .int x4), (5, va_rf x5), (6, va_rf x6), (7, .int x7), (8, .int x8)]) : W p l e (rm_X10_makeEvent mc ms) s m args below meth c H locs u v (MQ below (cs_Qv P A post) args s mc ms A) (F0 m 94 ls []) := by
  obtain ⟨hx, hb, hml, hown, hK, -, -⟩ := id hC
  obtain ⟨hu, hv, h⟩ := h
  refine hw_aload (x := x5) hx hb dX10_makeEvent_94 (lv_at hl 5 rfl) ?_
  refine lv_iload hx hb dX10_makeEvent_96 (lv_at hl 8 rfl) ?_
  refine hw_aload_n (x := x1) hx hb dX10_makeEvent_98 rfl (lv_at hl 1 rfl) ?_
  obtain ⟨b52, rfl, h⟩ := h
  obtain ⟨hk53_, h⟩ := h
  refine cs_get hx hb hK hT hown 8 hk53_ (by decide) rfl 8 (by decide) kfX10_166 (v := va_rf (cs_r S 808 b52)) rfl dX10_makeEvent_99 ?_
  refine hw_topr (fun r54 er54 => ?_)
  replace h := h r54 er54
  refine lv_iload hx hb dX10_makeEvent_102 (lv_at hl 7 rfl) ?_
  obtain ⟨b55, rfl, h⟩ := h
  obtain ⟨hk56_, h⟩ := h
  obtain ⟨hi, h⟩ := h
  refine cs_lald hx hb hK hT hk56_ hi dX10_makeEvent_104 ?_
  obtain ⟨b57, rfl, h⟩ := h
  obtain ⟨hk58_, h⟩ := h
  obtain ⟨hi, h⟩ := h
  refine cs_last hx hb hK hT hk58_ hi dX10_makeEvent_105 (fun H locs hT_ => ?_)
  replace hT := hT_
  obtain ⟨S59, eS59⟩ : ∃ z, z = cs_ual S b57 x8.toNatClampNeg (cs_al S b55 x7.toNatClampNeg) := ⟨_, rfl⟩
  rw [← eS59] at hT
  replace h := h S59 eS59
  refine hw_aload (x := x6) hx hb dX10_makeEvent_106 (lv_at hl 6 rfl) ?_
  refine lv_iload hx hb dX10_makeEvent_108 (lv_at hl 8 rfl) ?_
  refine hw_aload_n (x := x2) hx hb dX10_makeEvent_110 rfl (lv_at hl 2 rfl) ?_
  obtain ⟨b60, rfl, h⟩ := h
  obtain ⟨hk61_, h⟩ := h
  refine cs_get hx hb hK hT hown 5 hk61_ (by decide) rfl 0 (by decide) kfX10_160 (v := va_rf (cs_r S59 500 b60)) rfl dX10_makeEvent_111 ?_
  refine hw_topr (fun r62 er62 => ?_)
  replace h := h r62 er62
  refine lv_iload hx hb dX10_makeEvent_114 (lv_at hl 7 rfl) ?_
  obtain ⟨b63, rfl, h⟩ := h
  obtain ⟨hk64_, h⟩ := h
  obtain ⟨hi, h⟩ := h
  refine cs_aald hx hb hK hT 26 hk64_ (by decide) rfl (by decide) hi dX10_makeEvent_116 ?_
  refine hw_topr (fun r65 er65 => ?_)
  replace h := h r65 er65
  obtain ⟨b66, rfl, h⟩ := h
  obtain ⟨hk67_, h⟩ := h
  obtain ⟨hi, h⟩ := h
  obtain ⟨he, h⟩ := h
  refine cs_aast (x := r65) hx hb hK hT 26 hk67_ (by decide) (ci := 10) rfl (by decide) rfl (by decide) hi he dX10_makeEvent_117 (fun H locs hT_ => ?_)
  replace hT := hT_
  obtain ⟨S68, eS68⟩ : ∃ z, z = cs_uar S59 b66 x8.toNatClampNeg r65 := ⟨_, rfl⟩
  rw [← eS68] at hT
  replace h := h S68 eS68
  refine lv_iinc (v := x7 + 1) (lv' := [(7, _), (0, _), (1, _), (2, _), (3, _), (4, _), (5, _), (6, _), (8, _)]) hx hb dX10_makeEvent_118 hl (k := 7) rfl rfl (by decide) rfl (fun ls hl_ => ?_)
  replace hl := hl_
  refine lv_goto (tgt := 30) hx hb dX10_makeEvent_121 (by decide) ?_
  exact hk30 S68 u v x0 (some b52) (some b60) x3 x4 (some b57) (some b66) (x7 + 1) _ _ _ h hT (lv_sub hl [1, 2, 3, 4, 5, 6, 7, 0] rfl)
end
def w_X10_makeEvent_41 (post : cs_S → Prop) (G : Nat → Nat) (mc ms : Nat) (k30 : cs_S → Nat → Nat → Nat → Option Nat → Option Nat → Int32 → Int32 → Option Nat → Option Nat → Int32 → Prop) : Nat → cs_S → Nat → Nat → Nat → Option Nat → Option Nat → Int32 → Int32 → Option Nat → Option Nat → Int32 → Int32 → Prop
  | 0, _, _, _, _, _, _, _, _, _, _, _, _ => False
  | n + 1, S, u, v, x0, x1, x2, x3, x4, x5, x6, x7, x8 => u ≤ mc ∧ v ≤ ms ∧ (x8 ≤ 0 → w_X10_makeEvent_94 post G mc ms k30 S u v x0 x1 x2 x3 x4 x5 x6 x7 x8) ∧ (¬ x8 ≤ 0 → ∃ b69, x5 = some b69 ∧ cs_k S b69 = 21 ∧ vp_in (x8 - 1) (cs_n S b69) ∧ ∃ b71, x1 = some b71 ∧ cs_k S b71 = 9 ∧ ∀ r73, r73 = cs_r S 808 b71 → ∃ b74, r73 = some b74 ∧ cs_k S b74 = 21 ∧ vp_in x7 (cs_n S b74) ∧ ((lg_cmp (cs_al S b69 (x8 - 1).toNatClampNeg) (cs_al S b74 x7.toNatClampNeg)) ≤ 0 → w_X10_makeEvent_94 post G mc ms k30 S u v x0 (some b71) x2 x3 x4 (some b69) x6 x7 x8) ∧ (¬ (lg_cmp (cs_al S b69 (x8 - 1).toNatClampNeg) (cs_al S b74 x7.toNatClampNeg)) ≤ 0 → vp_in (x8 - 1) (cs_n S b69) ∧ vp_in x8 (cs_n S b69) ∧ ∀ S76, S76 = cs_ual S b69 x8.toNatClampNeg (cs_al S b69 (x8 - 1).toNatClampNeg) → ∃ b77, x6 = some b77 ∧ cs_k S76 b77 = 26 ∧ vp_in (x8 - 1) (cs_n S76 b77) ∧ ∀ r79, r79 = cs_ar S76 b77 (x8 - 1).toNatClampNeg → vp_in x8 (cs_n S76 b77) ∧ (∀ b, r79 = some b → cs_k S76 b = 11) ∧ ∀ S80, S80 = cs_uar S76 b77 x8.toNatClampNeg r79 → w_X10_makeEvent_41 post G mc ms k30 n S80 u v x0 (some b71) x2 x3 x4 (some b69) (some b77) x7 (x8 + (-1))))
section
variable {p : Program} {l : Launch} {e : Env} {s : State} {m : MethodId} {args : Array Value} {below : List Frame} {meth : Method} {c : Code} {P : hw_G} {G : Nat → Nat} {A : Nat → Prop}
set_option maxRecDepth 100000 in
set_option maxHeartbeats 4000000 in
theorem t_X10_makeEvent_41 {post : cs_S → Prop} {mc ms : Nat} {k30 : cs_S → Nat → Nat → Nat → Option Nat → Option Nat → Int32 → Int32 → Option Nat → Option Nat → Int32 → Prop} (hC : rf_C P RX10 p s m meth c cX10_makeEvent 9 none) (hin : meth.name = yX10_makeEvent.name) (hO : cs_O G A s s.heap) (hk30 : ∀ (S : cs_S) (u v : Nat) (x0 : Nat) (x1 : Option Nat) (x2 : Option Nat) (x3 : Int32) (x4 : Int32) (x5 : Option Nat) (x6 : Option Nat) (x7 : Int32) (H : Heap) (locs : List Loc) (ls : Array Slot), k30 S u v x0 x1 x2 x3 x4 x5 x6 x7 → cs_T P s A S H locs → lv_has ls 9 [(0, .ref x0), (1, va_rf x1), (2, va_rf x2), (3, .int x3), (4, .int x4), (5, va_rf x5), (6, va_rf x6), (7, .int x7)] → W p l e (rm_X10_makeEvent mc ms) s m args below meth c H locs u v (MQ below (cs_Qv P A post) args s mc ms A) (F0 m 30 ls [])) : ∀ (n : Nat) (S : cs_S) (u v : Nat) (x0 : Nat) (x1 : Option Nat) (x2 : Option Nat) (x3 : Int32) (x4 : Int32) (x5 : Option Nat) (x6 : Option Nat) (x7 : Int32) (x8 : Int32) (H : Heap) (locs : List Loc) (ls : Array Slot), w_X10_makeEvent_41 post G mc ms k30 n S u v x0 x1 x2 x3 x4 x5 x6 x7 x8 → cs_T P s A S H locs → lv_has ls 9 [(0, .ref x0), (1, va_rf x1), (2, va_rf x2), (3, .int x3), (4, .int x4), (5, va_rf x5), (6, va_rf x6), (7, .int x7), (8, .int x8)] → W p l e (rm_X10_makeEvent mc ms) s m args below meth c H locs u v (MQ below (cs_Qv P A post) args s mc ms A) (F0 m 41 ls []) := by
  obtain ⟨hx, hb, hml, hown, hK, -, -⟩ := id hC
  intro n
  induction n with
  | zero => intro S u v x0 x1 x2 x3 x4 x5 x6 x7 x8 H locs ls h; exact False.elim h
  | succ n ih =>
    intro S u v x0 x1 x2 x3 x4 x5 x6 x7 x8 H locs ls h hT hl
    obtain ⟨hu, hv, h⟩ := h
    refine lv_iload hx hb dX10_makeEvent_41 (lv_at hl 8 rfl) ?_
    refine lv_if_le (tgt := 94) hx hb dX10_makeEvent_43 (by decide) (fun hc => ?_) (fun hc => ?_)
    · replace h := h.1 hc
      exact t_X10_makeEvent_94 hC hin hO hk30 S u v x0 x1 x2 x3 x4 x5 x6 x7 x8 _ _ _ h hT (lv_sub hl [0, 1, 2, 3, 4, 5, 6, 7, 8] rfl)
    · replace h := h.2 hc
      refine hw_aload (x := x5) hx hb dX10_makeEvent_46 (lv_at hl 5 rfl) ?_
      refine lv_iload hx hb dX10_makeEvent_48 (lv_at hl 8 rfl) ?_
      refine lv_iconst (v := 1) hx hb dX10_makeEvent_50 (by decide) ?_
      refine lv_isub hx hb dX10_makeEvent_51 ?_
      obtain ⟨b69, rfl, h⟩ := h
      obtain ⟨hk70_, h⟩ := h
      obtain ⟨hi, h⟩ := h
      refine cs_lald hx hb hK hT hk70_ hi dX10_makeEvent_52 ?_
      refine hw_aload_n (x := x1) hx hb dX10_makeEvent_53 rfl (lv_at hl 1 rfl) ?_
      obtain ⟨b71, rfl, h⟩ := h
      obtain ⟨hk72_, h⟩ := h
      refine cs_get hx hb hK hT hown 8 hk72_ (by decide) rfl 8 (by decide) kfX10_166 (v := va_rf (cs_r S 808 b71)) rfl dX10_makeEvent_54 ?_
      refine hw_topr (fun r73 er73 => ?_)
      replace h := h r73 er73
      refine lv_iload hx hb dX10_makeEvent_57 (lv_at hl 7 rfl) ?_
      obtain ⟨b74, rfl, h⟩ := h
      obtain ⟨hk75_, h⟩ := h
      obtain ⟨hi, h⟩ := h
      refine cs_lald hx hb hK hT hk75_ hi dX10_makeEvent_59 ?_
      refine W.lcmp hx hb dX10_makeEvent_60 ?_
      refine lv_if_le (tgt := 94) hx hb dX10_makeEvent_61 (by decide) (fun hc => ?_) (fun hc => ?_)
      · replace h := h.1 hc
        exact t_X10_makeEvent_94 hC hin hO hk30 S u v x0 (some b71) x2 x3 x4 (some b69) x6 x7 x8 _ _ _ h hT (lv_sub hl [0, 1, 2, 3, 4, 5, 6, 7, 8] rfl)
      · replace h := h.2 hc
        refine lv_aload (x := b69) hx hb dX10_makeEvent_64 (lv_at hl 5 rfl) ?_
        refine lv_iload hx hb dX10_makeEvent_66 (lv_at hl 8 rfl) ?_
        refine lv_aload (x := b69) hx hb dX10_makeEvent_68 (lv_at hl 5 rfl) ?_
        refine lv_iload hx hb dX10_makeEvent_70 (lv_at hl 8 rfl) ?_
        refine lv_iconst (v := 1) hx hb dX10_makeEvent_72 (by decide) ?_
        refine lv_isub hx hb dX10_makeEvent_73 ?_
        obtain ⟨hi, h⟩ := h
        refine cs_lald hx hb hK hT hk70_ hi dX10_makeEvent_74 ?_
        obtain ⟨hi, h⟩ := h
        refine cs_last hx hb hK hT hk70_ hi dX10_makeEvent_75 (fun H locs hT_ => ?_)
        replace hT := hT_
        obtain ⟨S76, eS76⟩ : ∃ z, z = cs_ual S b69 x8.toNatClampNeg (cs_al S b69 (x8 - 1).toNatClampNeg) := ⟨_, rfl⟩
        rw [← eS76] at hT
        replace h := h S76 eS76
        refine hw_aload (x := x6) hx hb dX10_makeEvent_76 (lv_at hl 6 rfl) ?_
        refine lv_iload hx hb dX10_makeEvent_78 (lv_at hl 8 rfl) ?_
        refine hw_aload (x := x6) hx hb dX10_makeEvent_80 (lv_at hl 6 rfl) ?_
        refine lv_iload hx hb dX10_makeEvent_82 (lv_at hl 8 rfl) ?_
        refine lv_iconst (v := 1) hx hb dX10_makeEvent_84 (by decide) ?_
        refine lv_isub hx hb dX10_makeEvent_85 ?_
        obtain ⟨b77, rfl, h⟩ := h
        obtain ⟨hk78_, h⟩ := h
        obtain ⟨hi, h⟩ := h
        refine cs_aald hx hb hK hT 26 hk78_ (by decide) rfl (by decide) hi dX10_makeEvent_86 ?_
        refine hw_topr (fun r79 er79 => ?_)
        replace h := h r79 er79
        obtain ⟨hi, h⟩ := h
        obtain ⟨he, h⟩ := h
        refine cs_aast (x := r79) hx hb hK hT 26 hk78_ (by decide) (ci := 10) rfl (by decide) rfl (by decide) hi he dX10_makeEvent_87 (fun H locs hT_ => ?_)
        replace hT := hT_
        obtain ⟨S80, eS80⟩ : ∃ z, z = cs_uar S76 b77 x8.toNatClampNeg r79 := ⟨_, rfl⟩
        rw [← eS80] at hT
        replace h := h S80 eS80
        refine lv_iinc (v := x8 + (-1)) (lv' := [(8, _), (0, _), (1, _), (2, _), (3, _), (4, _), (5, _), (6, _), (7, _)]) hx hb dX10_makeEvent_88 hl (k := 8) rfl rfl (by decide) rfl (fun ls hl_ => ?_)
        replace hl := hl_
        refine lv_goto (tgt := 41) hx hb dX10_makeEvent_91 (by decide) ?_
        exact ih S80 u v x0 (some b71) x2 x3 x4 (some b69) (some b77) x7 (x8 + (-1)) _ _ _ h hT (lv_sub hl [1, 2, 3, 4, 5, 6, 7, 8, 0] rfl)
end
def w_X10_makeEvent_30 (post : cs_S → Prop) (G : Nat → Nat) (mc ms : Nat) : Nat → cs_S → Nat → Nat → Nat → Option Nat → Option Nat → Int32 → Int32 → Option Nat → Option Nat → Int32 → Prop
  | 0, _, _, _, _, _, _, _, _, _, _, _ => False
  | n + 1, S, u, v, x0, x1, x2, x3, x4, x5, x6, x7 => u ≤ mc ∧ v ≤ ms ∧ (x4 ≤ x7 → u + 1 ≤ mc ∧ v + 7 ≤ ms ∧ ∀ q81, cs_k S q81 = 0 → ∀ S82, S82 = cs_new S q81 4 → ∃ b83, x1 = some b83 ∧ cs_k S82 b83 = 9 ∧ wp_X3_init (fun S85 => cs_k S85 x0 = 12 ∧ ∀ r87, r87 = cs_r S85 1110 x0 → (r87 = none → w_X10_makeEvent_159 post G mc ms S85 (u + 1) (v + 7) x0 (some q81)) ∧ (∀ b88, r87 = some b88 → ∀ r89, r89 = cs_r S85 1111 x0 → (r89 = none → w_X10_makeEvent_159 post G mc ms S85 (u + 1) (v + 7) x0 (some q81)) ∧ (∀ b90, r89 = some b90 → ∀ r91, r91 = cs_r S85 1111 x0 → ∃ b92, r91 = some b92 ∧ cs_k S85 b92 = 5 ∧ ∀ S94, S94 = cs_ur S85 406 b92 (some q81) → w_X10_makeEvent_177 post G mc ms S94 (u + 1) (v + 7) x0 (some q81)))) G S82 q81 x3 49735996165586944 (cs_i S82 800 b83) x5 x6) ∧ (¬ x4 ≤ x7 → ∃ n9, w_X10_makeEvent_41 post G mc ms (w_X10_makeEvent_30 post G mc ms n) n9 S u v x0 x1 x2 x3 x4 x5 x6 x7 x7)
section
variable {p : Program} {l : Launch} {e : Env} {s : State} {m : MethodId} {args : Array Value} {below : List Frame} {meth : Method} {c : Code} {P : hw_G} {G : Nat → Nat} {A : Nat → Prop}
set_option maxRecDepth 100000 in
set_option maxHeartbeats 4000000 in
theorem t_X10_makeEvent_30 {post : cs_S → Prop} {mc ms : Nat} (hC : rf_C P RX10 p s m meth c cX10_makeEvent 9 none) (hin : meth.name = yX10_makeEvent.name) (hO : cs_O G A s s.heap) : ∀ (n : Nat) (S : cs_S) (u v : Nat) (x0 : Nat) (x1 : Option Nat) (x2 : Option Nat) (x3 : Int32) (x4 : Int32) (x5 : Option Nat) (x6 : Option Nat) (x7 : Int32) (H : Heap) (locs : List Loc) (ls : Array Slot), w_X10_makeEvent_30 post G mc ms n S u v x0 x1 x2 x3 x4 x5 x6 x7 → cs_T P s A S H locs → lv_has ls 9 [(0, .ref x0), (1, va_rf x1), (2, va_rf x2), (3, .int x3), (4, .int x4), (5, va_rf x5), (6, va_rf x6), (7, .int x7)] → W p l e (rm_X10_makeEvent mc ms) s m args below meth c H locs u v (MQ below (cs_Qv P A post) args s mc ms A) (F0 m 30 ls []) := by
  obtain ⟨hx, hb, hml, hown, hK, -, -⟩ := id hC
  intro n
  induction n with
  | zero => intro S u v x0 x1 x2 x3 x4 x5 x6 x7 H locs ls h; exact False.elim h
  | succ n ih =>
    intro S u v x0 x1 x2 x3 x4 x5 x6 x7 H locs ls h hT hl
    obtain ⟨hu, hv, h⟩ := h
    refine lv_iload hx hb dX10_makeEvent_30 (lv_at hl 7 rfl) ?_
    refine lv_iload hx hb dX10_makeEvent_32 (lv_at hl 4 rfl) ?_
    refine lv_icmp_ge (tgt := 124) hx hb dX10_makeEvent_34 (by decide) (fun hc => ?_) (fun hc => ?_)
    · replace h := h.1 hc
      obtain ⟨hu81, hv81, h⟩ := h
      refine cs_newo hx hb hK hT hown 4 (by decide) rfl tyX3_ok cs_df4 kxX10_25 kj_X3 kn_X3 hu81 hv81 dX10_makeEvent_124 (fun q81 H hq81 hT_ => ?_)
      replace h := h q81 hq81
      replace hT := hT_
      obtain ⟨S82, eS82⟩ : ∃ z, z = cs_new S q81 4 := ⟨_, rfl⟩
      rw [← eS82] at hT
      replace h := h S82 eS82
      refine lv_dup hx hb dX10_makeEvent_127 rfl ?_
      refine lv_iload_n hx hb dX10_makeEvent_128 rfl (lv_at hl 3 rfl) ?_
      refine lv_ldc2 (v := 49735996165586944) hx hb hown (hK.word kkX10_170 rfl) dX10_makeEvent_129 ?_
      refine hw_aload_n (x := x1) hx hb dX10_makeEvent_132 rfl (lv_at hl 1 rfl) ?_
      obtain ⟨b83, rfl, h⟩ := h
      obtain ⟨hk84_, h⟩ := h
      refine cs_get hx hb hK hT hown 8 hk84_ (by decide) rfl 0 (by decide) kfX10_140 (v := .int (cs_i S82 800 b83)) rfl dX10_makeEvent_133 ?_
      refine hw_aload (x := x5) hx hb dX10_makeEvent_136 (lv_at hl 5 rfl) ?_
      refine hw_aload (x := x6) hx hb dX10_makeEvent_138 (lv_at hl 6 rfl) ?_
      refine cs_callv0 (cs_runI hx hb hml hown hK hO hT (c_X3_init h) rfl rfl klX10_172 ki_X3_init kn_X3 kc_X3_init rfl 5 ⟨by decide, by decide, by decide +kernel⟩ ⟨Nat.le_of_ble_eq_true rfl, Nat.le_of_ble_eq_true rfl⟩ rfl hl.1 rfl (hw_cat8 (Nat.le_of_ble_eq_true rfl)) ⟨hu81, hv81⟩ dX10_makeEvent_140) hT (fun S85 H locs h_ hT_ => ?_)
      replace h := h_
      replace hT := hT_
      refine lv_astore (lv' := [(7, _), (0, _), (1, _), (2, _), (3, _), (4, _), (5, _), (6, _)]) (x := q81) hx hb dX10_makeEvent_143 hl (by decide) (congrArg (List.cons _) ((hw_flt (fun q hq => by simp only [List.mem_cons, List.not_mem_nil, or_false] at hq; rcases hq with rfl | rfl | rfl | rfl | rfl | rfl | rfl | rfl <;> first | exact fun _ => rfl | exact fun _ => va_rf_cat _ | (intro h; simp at h))).trans rfl)) (fun ls hl_ => ?_)
      replace hl := hl_
      refine lv_aload_n (x := x0) hx hb dX10_makeEvent_145 rfl (lv_at hl 1 rfl) ?_
      obtain ⟨hk86_, h⟩ := h
      refine cs_get hx hb hK hT hown 11 hk86_ (by decide) rfl 10 (by decide) kfX10_113 (v := va_rf (cs_r S85 1110 x0)) rfl dX10_makeEvent_146 ?_
      refine hw_topr (fun r87 er87 => ?_)
      replace h := h r87 er87
      refine hw_ifnull (tgt := 159) hx hb dX10_makeEvent_149 (by decide) (fun hc => ?_) (fun b88 hc => ?_)
      · replace h := h.1 hc
        subst hc
        exact t_X10_makeEvent_159 hC hin hO S85 (u + 1) (v + 7) x0 (some q81) _ _ _ h hT (lv_sub hl [1, 0] rfl)
      · replace h := h.2 b88 hc
        subst hc
        refine lv_aload_n (x := x0) hx hb dX10_makeEvent_152 rfl (lv_at hl 1 rfl) ?_
        refine cs_get hx hb hK hT hown 11 hk86_ (by decide) rfl 11 (by decide) kfX10_122 (v := va_rf (cs_r S85 1111 x0)) rfl dX10_makeEvent_153 ?_
        refine hw_topr (fun r89 er89 => ?_)
        replace h := h r89 er89
        refine hw_ifnonnull (tgt := 168) hx hb dX10_makeEvent_156 (by decide) (fun b90 hc => ?_) (fun hc => ?_)
        · replace h := h.2 b90 hc
          subst hc
          refine lv_aload_n (x := x0) hx hb dX10_makeEvent_168 rfl (lv_at hl 1 rfl) ?_
          refine cs_get hx hb hK hT hown 11 hk86_ (by decide) rfl 11 (by decide) kfX10_122 (v := va_rf (cs_r S85 1111 x0)) rfl dX10_makeEvent_169 ?_
          refine hw_topr (fun r91 er91 => ?_)
          replace h := h r91 er91
          refine lv_aload (x := q81) hx hb dX10_makeEvent_172 (lv_at hl 0 rfl) ?_
          obtain ⟨b92, rfl, h⟩ := h
          obtain ⟨hk93_, h⟩ := h
          refine cs_putr (x := (some q81)) hx hb hK hT hown 4 hk93_ (by decide) rfl 6 (by decide) kfX10_116 rfl (tyX3_ok 6 (by decide)) rfl 406 rfl dX10_makeEvent_174 (fun H locs hT_ => ?_)
          replace hT := hT_
          obtain ⟨S94, eS94⟩ : ∃ z, z = cs_ur S85 406 b92 (some q81) := ⟨_, rfl⟩
          rw [← eS94] at hT
          replace h := h S94 eS94
          exact t_X10_makeEvent_177 hC hin hO S94 (u + 1) (v + 7) x0 (some q81) _ _ _ h hT (lv_sub hl [1, 0] rfl)
        · replace h := h.1 hc
          subst hc
          exact t_X10_makeEvent_159 hC hin hO S85 (u + 1) (v + 7) x0 (some q81) _ _ _ h hT (lv_sub hl [1, 0] rfl)
    · replace h := h.2 hc
      refine lv_iload hx hb dX10_makeEvent_37 (lv_at hl 7 rfl) ?_
      refine lv_istore (lv' := [(8, _), (0, _), (1, _), (2, _), (3, _), (4, _), (5, _), (6, _), (7, _)]) hx hb dX10_makeEvent_39 hl (by decide) rfl (fun ls hl_ => ?_)
      replace hl := hl_
      obtain ⟨n9, h⟩ := h
      exact t_X10_makeEvent_41 hC hin hO ih n9 S u v x0 x1 x2 x3 x4 x5 x6 x7 x7 _ _ _ h hT (lv_sub hl [1, 2, 3, 4, 5, 6, 7, 8, 0] rfl)
end
def wp_X10_makeEvent (post : cs_S → Prop) (G : Nat → Nat) (mc ms : Nat) (S : cs_S) (o : Nat) (p1 : Option Nat) (p2 : Option Nat) (p3 : Int32) : Prop := ∃ b95, p1 = some b95 ∧ cs_k S b95 = 9 ∧ ∃ b97, p2 = some b97 ∧ cs_k S b97 = 6 ∧ ∀ r99, r99 = cs_r S 500 b97 → ∃ b100, r99 = some b100 ∧ cs_k S b100 = 26 ∧ ¬ (if Int32.ofNat (cs_n S b100) < cs_i S 809 b95 then Int32.ofNat (cs_n S b100) else cs_i S 809 b95) < 0 ∧ (if Int32.ofNat (cs_n S b100) < cs_i S 809 b95 then Int32.ofNat (cs_n S b100) else cs_i S 809 b95).toNatClampNeg * componentBytes (cs_aty 21) ≤ 536870912 ∧ 0 + 1 ≤ mc ∧ 0 + (if Int32.ofNat (cs_n S b100) < cs_i S 809 b95 then Int32.ofNat (cs_n S b100) else cs_i S 809 b95).toNatClampNeg ≤ ms ∧ ∀ q102, cs_k S q102 = 0 → ∀ S103, S103 = cs_newA S q102 21 (if Int32.ofNat (cs_n S b100) < cs_i S 809 b95 then Int32.ofNat (cs_n S b100) else cs_i S 809 b95).toNatClampNeg → ¬ (if Int32.ofNat (cs_n S b100) < cs_i S 809 b95 then Int32.ofNat (cs_n S b100) else cs_i S 809 b95) < 0 ∧ (if Int32.ofNat (cs_n S b100) < cs_i S 809 b95 then Int32.ofNat (cs_n S b100) else cs_i S 809 b95).toNatClampNeg * 4 ≤ 536870912 ∧ 0 + 1 + 1 ≤ mc ∧ 0 + (if Int32.ofNat (cs_n S b100) < cs_i S 809 b95 then Int32.ofNat (cs_n S b100) else cs_i S 809 b95).toNatClampNeg + (if Int32.ofNat (cs_n S b100) < cs_i S 809 b95 then Int32.ofNat (cs_n S b100) else cs_i S 809 b95).toNatClampNeg ≤ ms ∧ ∀ q104, cs_k S103 q104 = 0 → ∀ S105, S105 = cs_newA S103 q104 26 (if Int32.ofNat (cs_n S b100) < cs_i S 809 b95 then Int32.ofNat (cs_n S b100) else cs_i S 809 b95).toNatClampNeg → ∃ n9, w_X10_makeEvent_30 post G mc ms n9 S105 (0 + 1 + 1) (0 + (if Int32.ofNat (cs_n S b100) < cs_i S 809 b95 then Int32.ofNat (cs_n S b100) else cs_i S 809 b95).toNatClampNeg + (if Int32.ofNat (cs_n S b100) < cs_i S 809 b95 then Int32.ofNat (cs_n S b100) else cs_i S 809 b95).toNatClampNeg) o (some b95) (some b97) p3 (if Int32.ofNat (cs_n S b100) < cs_i S 809 b95 then Int32.ofNat (cs_n S b100) else cs_i S 809 b95) (some q102) (some q104) 0
set_option maxRecDepth 100000 in
set_option maxHeartbeats 4000000 in
theorem c_X10_makeEvent {l : Launch} {P : hw_G} {G : Nat → Nat} {S : cs_S} {sz : Nat} {mc ms : Nat} {o : Nat} {p1 : Option Nat} {p2 : Option Nat} {p3 : Int32} {post : cs_S → Prop} (h : wp_X10_makeEvent post G mc ms S o p1 p2 p3) : Met l yX10_makeEvent [Cond.code yX10_makeEvent cX10_makeEvent 9 none] (rm_X10_makeEvent mc ms) (cs_Pc P G S sz [.ref o, va_rf p1, va_rf p2, .int p3]) (cs_Qv P (cs_A S sz) post) mc ms (cs_A S sz) := by
  refine cs_met (by decide) rfl (by cases p1 <;> cases p2 <;> exact Nat.le_of_ble_eq_true rfl) ?_
  intro p e s m below meth c ls hC hin hO hT hl
  obtain ⟨hx, hb, hml, hown, hK, -, -⟩ := id hC
  replace hl : lv_has ls 9 [(0, .ref o), (1, va_rf p1), (2, va_rf p2), (3, .int p3)] := by cases p1 <;> cases p2 <;> exact hl
  refine hw_aload_n (x := p1) hx hb dX10_makeEvent_0 rfl (lv_at hl 1 rfl) ?_
  obtain ⟨b95, rfl, h⟩ := h
  obtain ⟨hk96_, h⟩ := h
  refine cs_get hx hb hK hT hown 8 hk96_ (by decide) rfl 9 (by decide) kfX10_157 (v := .int (cs_i S 809 b95)) rfl dX10_makeEvent_1 ?_
  refine hw_aload_n (x := p2) hx hb dX10_makeEvent_4 rfl (lv_at hl 2 rfl) ?_
  obtain ⟨b97, rfl, h⟩ := h
  obtain ⟨hk98_, h⟩ := h
  refine cs_get hx hb hK hT hown 5 hk98_ (by decide) rfl 0 (by decide) kfX10_160 (v := va_rf (cs_r S 500 b97)) rfl dX10_makeEvent_5 ?_
  refine hw_topr (fun r99 er99 => ?_)
  replace h := h r99 er99
  obtain ⟨b100, rfl, h⟩ := h
  obtain ⟨hk101_, h⟩ := h
  refine cs_alen hx hb hK hT 26 hk101_ (by decide) (by decide) dX10_makeEvent_8 ?_
  refine va_mmin hx hb (hml.trans hl.1.symm) hown (hK.word klX10_15m rfl) (hK.word ki_mmin rfl) (hK.word kn_J9 rfl) (hK.word kc_mmin rfl) (Nat.le_of_ble_eq_true rfl) (hw_catN (Nat.le_of_ble_eq_true rfl) (Nat.le_of_ble_eq_true rfl)) (Nat.zero_le _) (Nat.zero_le _) dX10_makeEvent_9 ?_
  refine lv_istore (lv' := [(4, _), (0, _), (1, _), (2, _), (3, _)]) hx hb dX10_makeEvent_12 hl (by decide) rfl (fun ls hl_ => ?_)
  replace hl := hl_
  refine lv_iload hx hb dX10_makeEvent_14 (lv_at hl 0 rfl) ?_
  obtain ⟨hn1, hn2, hu102, hv102, h⟩ := h
  refine cs_newa hx hb hK hT 21 rfl ka_long (by decide) (by decide) rfl hn1 hn2 hu102 hv102 dX10_makeEvent_16 (fun q102 H hq102 hT_ => ?_)
  replace h := h q102 hq102
  replace hT := hT_
  obtain ⟨S103, eS103⟩ : ∃ z, z = cs_newA S q102 21 (if Int32.ofNat (cs_n S b100) < cs_i S 809 b95 then Int32.ofNat (cs_n S b100) else cs_i S 809 b95).toNatClampNeg := ⟨_, rfl⟩
  rw [← eS103] at hT
  replace h := h S103 eS103
  refine lv_astore (lv' := [(5, _), (4, _), (0, _), (1, _), (2, _), (3, _)]) (x := q102) hx hb dX10_makeEvent_18 hl (by decide) rfl (fun ls hl_ => ?_)
  replace hl := hl_
  refine lv_iload hx hb dX10_makeEvent_20 (lv_at hl 1 rfl) ?_
  obtain ⟨hn1, hn2, hu104, hv104, h⟩ := h
  refine cs_anew hx hb hK hT hown 26 rfl kxX10_164 (by decide) (by decide) (by decide) hn1 hn2 hu104 hv104 dX10_makeEvent_22 (fun q104 H hq104 hT_ => ?_)
  replace h := h q104 hq104
  replace hT := hT_
  obtain ⟨S105, eS105⟩ : ∃ z, z = cs_newA S103 q104 26 (if Int32.ofNat (cs_n S b100) < cs_i S 809 b95 then Int32.ofNat (cs_n S b100) else cs_i S 809 b95).toNatClampNeg := ⟨_, rfl⟩
  rw [← eS105] at hT
  replace h := h S105 eS105
  refine lv_astore (lv' := [(6, _), (5, _), (4, _), (0, _), (1, _), (2, _), (3, _)]) (x := q104) hx hb dX10_makeEvent_25 hl (by decide) rfl (fun ls hl_ => ?_)
  replace hl := hl_
  refine lv_iconst (v := 0) hx hb dX10_makeEvent_27 (by decide) ?_
  refine lv_istore (lv' := [(7, _), (6, _), (5, _), (4, _), (0, _), (1, _), (2, _), (3, _)]) hx hb dX10_makeEvent_28 hl (by decide) rfl (fun ls hl_ => ?_)
  replace hl := hl_
  obtain ⟨n9, h⟩ := h
  exact t_X10_makeEvent_30 hC hin hO n9 S105 (0 + 1 + 1) (0 + (if Int32.ofNat (cs_n S b100) < cs_i S 809 b95 then Int32.ofNat (cs_n S b100) else cs_i S 809 b95).toNatClampNeg + (if Int32.ofNat (cs_n S b100) < cs_i S 809 b95 then Int32.ofNat (cs_n S b100) else cs_i S 809 b95).toNatClampNeg) o (some b95) (some b97) p3 (if Int32.ofNat (cs_n S b100) < cs_i S 809 b95 then Int32.ofNat (cs_n S b100) else cs_i S 809 b95) (some q102) (some q104) 0 _ _ _ h hT (lv_sub hl [4, 5, 6, 7, 3, 2, 1, 0] rfl)
/-! X10_tell -/
abbrev rm_X10_tell (mc ms : Nat) : Room := { frames := 7, cells := mc, slots := ms, locals := 171 }
def w_X10_tell_129 (post : cs_S → Prop) (G : Nat → Nat) (mc ms : Nat) (S : cs_S) (u v : Nat)  : Prop := u ≤ mc ∧ v ≤ ms ∧ post S
section
variable {p : Program} {l : Launch} {e : Env} {s : State} {m : MethodId} {args : Array Value} {below : List Frame} {meth : Method} {c : Code} {P : hw_G} {G : Nat → Nat} {A : Nat → Prop}
set_option maxRecDepth 100000 in
set_option maxHeartbeats 4000000 in
theorem t_X10_tell_129 {post : cs_S → Prop} {mc ms : Nat} (hC : rf_C P RX10 p s m meth c cX10_tell 6 none) (hin : meth.name = yX10_tell.name) (hO : cs_O G A s s.heap) (S : cs_S) (u v : Nat)  (H : Heap) (locs : List Loc) (ls : Array Slot) (h : w_X10_tell_129 post G mc ms S u v ) (hT : cs_T P s A S H locs) (hl : lv_has ls 6 []) : W p l e (rm_X10_tell mc ms) s m args below meth c H locs u v (MQ below (cs_Qv P A post) args s mc ms A) (F0 m 129 ls []) := by
  obtain ⟨hx, hb, hml, hown, hK, -, -⟩ := id hC
  obtain ⟨hu, hv, h⟩ := h
  exact cs_vret hC hT h dX10_tell_129 hu hv
end
def w_X10_tell_93 (post : cs_S → Prop) (G : Nat → Nat) (mc ms : Nat) (S : cs_S) (u v : Nat) (x0 : Nat) (x1 : Option Nat) (x2 : Option Nat) (x3 : Int32) (x4 : Option Nat) : Prop := u ≤ mc ∧ v ≤ ms ∧ cs_k S x0 = 12 ∧ ∀ S37, S37 = cs_ui S 1106 x0 ((cs_i S 1106 x0) + 1) → ∃ b38, x2 = some b38 ∧ cs_k S37 b38 = 6 ∧ ∀ S40, S40 = cs_ui S37 504 b38 0 → cs_k S40 b38 = 6 ∧ ∀ S42, S42 = cs_ui S40 503 b38 x3 → ∃ b43, x4 = some b43 ∧ cs_k S42 b43 = 5 ∧ (¬ (cs_i S42 402 b43) = ((-1)) → w_X10_tell_129 post G mc ms S42 u v) ∧ ((cs_i S42 402 b43) = ((-1)) → cs_k S42 x0 = 12 ∧ ∃ m45 n45, u + m45 ≤ mc ∧ v + n45 ≤ ms ∧ wp_X10_makeEvent (fun S45 => w_X10_tell_129 post G mc ms S45 (u + m45) (v + n45)) G m45 n45 S42 x0 x1 (some b38) x3)
section
variable {p : Program} {l : Launch} {e : Env} {s : State} {m : MethodId} {args : Array Value} {below : List Frame} {meth : Method} {c : Code} {P : hw_G} {G : Nat → Nat} {A : Nat → Prop}
set_option maxRecDepth 100000 in
set_option maxHeartbeats 4000000 in
theorem t_X10_tell_93 {post : cs_S → Prop} {mc ms : Nat} (hC : rf_C P RX10 p s m meth c cX10_tell 6 none) (hin : meth.name = yX10_tell.name) (hO : cs_O G A s s.heap) (S : cs_S) (u v : Nat) (x0 : Nat) (x1 : Option Nat) (x2 : Option Nat) (x3 : Int32) (x4 : Option Nat) (H : Heap) (locs : List Loc) (ls : Array Slot) (h : w_X10_tell_93 post G mc ms S u v x0 x1 x2 x3 x4) (hT : cs_T P s A S H locs) (hl : lv_has ls 6 [(0, .ref x0), (1, va_rf x1), (2, va_rf x2), (3, .int x3), (4, va_rf x4)]) : W p l e (rm_X10_tell mc ms) s m args below meth c H locs u v (MQ below (cs_Qv P A post) args s mc ms A) (F0 m 93 ls []) := by
  obtain ⟨hx, hb, hml, hown, hK, -, -⟩ := id hC
  obtain ⟨hu, hv, h⟩ := h
  refine lv_aload_n (x := x0) hx hb dX10_tell_93 rfl (lv_at hl 0 rfl) ?_
  refine lv_dup hx hb dX10_tell_94 rfl ?_
  obtain ⟨hk36_, h⟩ := h
  refine cs_get hx hb hK hT hown 11 hk36_ (by decide) rfl 6 (by decide) kfX10_150 (v := .int (cs_i S 1106 x0)) rfl dX10_tell_95 ?_
  refine lv_iconst (v := 1) hx hb dX10_tell_98 (by decide) ?_
  refine lv_iadd hx hb dX10_tell_99 ?_
  refine cs_puti (x := ((cs_i S 1106 x0) + 1)) hx hb hK hT hown 11 hk36_ (by decide) rfl 6 (by decide) kfX10_150 rfl (tyX10_ok 6 (by decide)) rfl 1106 rfl dX10_tell_100 (fun H locs hT_ => ?_)
  replace hT := hT_
  obtain ⟨S37, eS37⟩ : ∃ z, z = cs_ui S 1106 x0 ((cs_i S 1106 x0) + 1) := ⟨_, rfl⟩
  rw [← eS37] at hT
  replace h := h S37 eS37
  refine hw_aload_n (x := x2) hx hb dX10_tell_103 rfl (lv_at hl 2 rfl) ?_
  refine lv_iconst (v := 0) hx hb dX10_tell_104 (by decide) ?_
  obtain ⟨b38, rfl, h⟩ := h
  obtain ⟨hk39_, h⟩ := h
  refine cs_puti (x := 0) hx hb hK hT hown 5 hk39_ (by decide) rfl 4 (by decide) kfX10_136 rfl (tyX4_ok 4 (by decide)) rfl 504 rfl dX10_tell_105 (fun H locs hT_ => ?_)
  replace hT := hT_
  obtain ⟨S40, eS40⟩ : ∃ z, z = cs_ui S37 504 b38 0 := ⟨_, rfl⟩
  rw [← eS40] at hT
  replace h := h S40 eS40
  refine lv_aload_n (x := b38) hx hb dX10_tell_108 rfl (lv_at hl 2 rfl) ?_
  refine lv_iload_n hx hb dX10_tell_109 rfl (lv_at hl 3 rfl) ?_
  obtain ⟨hk41_, h⟩ := h
  refine cs_puti (x := x3) hx hb hK hT hown 5 hk41_ (by decide) rfl 3 (by decide) kfX10_128 rfl (tyX4_ok 3 (by decide)) rfl 503 rfl dX10_tell_110 (fun H locs hT_ => ?_)
  replace hT := hT_
  obtain ⟨S42, eS42⟩ : ∃ z, z = cs_ui S40 503 b38 x3 := ⟨_, rfl⟩
  rw [← eS42] at hT
  replace h := h S42 eS42
  refine hw_aload (x := x4) hx hb dX10_tell_113 (lv_at hl 4 rfl) ?_
  obtain ⟨b43, rfl, h⟩ := h
  obtain ⟨hk44_, h⟩ := h
  refine cs_get hx hb hK hT hown 4 hk44_ (by decide) rfl 2 (by decide) kfX10_102 (v := .int (cs_i S42 402 b43)) rfl dX10_tell_115 ?_
  refine lv_iconst (v := (-1)) hx hb dX10_tell_118 (by decide) ?_
  refine lv_icmp_ne (tgt := 129) hx hb dX10_tell_119 (by decide) (fun hc => ?_) (fun hc => ?_)
  · replace h := h.1 hc
    exact t_X10_tell_129 hC hin hO S42 u v _ _ _ h hT (lv_sub hl [] rfl)
  · replace h := h.2 hc
    refine lv_aload_n (x := x0) hx hb dX10_tell_122 rfl (lv_at hl 0 rfl) ?_
    refine hw_aload_n (x := x1) hx hb dX10_tell_123 rfl (lv_at hl 1 rfl) ?_
    refine lv_aload_n (x := b38) hx hb dX10_tell_124 rfl (lv_at hl 2 rfl) ?_
    refine lv_iload_n hx hb dX10_tell_125 rfl (lv_at hl 3 rfl) ?_
    obtain ⟨hk46_, h⟩ := h
    obtain ⟨m45, n45, hu45, hv45, h⟩ := h
    refine cs_callv (cs_runV hx hb hml hown hK hO hT 11 hk46_ (by decide) rfl (c_X10_makeEvent h) rfl rfl klX10_153 ki_X10_makeEvent ks_X10_makeEvent kn_X10 kc_X10_makeEvent 3 ⟨rfl, by decide, by decide, by decide +kernel⟩ ⟨Nat.le_of_ble_eq_true rfl, Nat.le_of_ble_eq_true rfl⟩ rfl hl.1 rfl (hw_cat8 (Nat.le_of_ble_eq_true rfl)) ⟨hu45, hv45⟩ dX10_tell_126) hT (fun S45 H locs h_ hT_ => ?_)
    replace h := h_
    replace hT := hT_
    exact t_X10_tell_129 hC hin hO S45 (u + m45) (v + n45) _ _ _ h hT (lv_sub hl [] rfl)
end
def w_X10_tell_52 (post : cs_S → Prop) (G : Nat → Nat) (mc ms : Nat) (S : cs_S) (u v : Nat) (x0 : Nat) (x1 : Option Nat) (x2 : Option Nat) (x3 : Int32) (x4 : Option Nat) (x5 : Int32) : Prop := u ≤ mc ∧ v ≤ ms ∧ cs_k S x0 = 12 ∧ ∀ r48, r48 = cs_r S 1103 x0 → ∃ b49, r48 = some b49 ∧ cs_k S b49 = 1 ∧ wp_Jx4a65c_size_8abf5 (fun r50 S50 => (500 ≤ r50 → w_X10_tell_93 post G mc ms S50 u v x0 x1 x2 x3 x4) ∧ (¬ 500 ≤ r50 → cs_k S50 x0 = 12 ∧ ∀ r53, r53 = cs_r S50 1103 x0 → u + 1 ≤ mc ∧ v + 6 ≤ ms ∧ ∀ q54, cs_k S50 q54 = 0 → ∀ S55, S55 = cs_new S50 q54 1 → ∃ b56, x1 = some b56 ∧ cs_k S55 b56 = 9 ∧ ∃ b58, x4 = some b58 ∧ cs_k S55 b58 = 5 ∧ wp_X0_init (fun S60 => ∃ b61, r53 = some b61 ∧ cs_k S60 b61 = 1 ∧ ∃ m62 n62, u + 1 + m62 ≤ mc ∧ v + 6 + n62 ≤ ms ∧ wp_Jx4a65c_add_9ea2d (fun r62 S62 => w_X10_tell_93 post G mc ms S62 (u + 1 + m62) (v + 6 + n62) x0 (some b56) x2 x3 (some b58)) G m62 n62 S60 b61 (some q54)) G S55 q54 (cs_i S55 800 b56) x3 x5 (cs_i S55 405 b58) x2)) G S b49
section
variable {p : Program} {l : Launch} {e : Env} {s : State} {m : MethodId} {args : Array Value} {below : List Frame} {meth : Method} {c : Code} {P : hw_G} {G : Nat → Nat} {A : Nat → Prop}
set_option maxRecDepth 100000 in
set_option maxHeartbeats 4000000 in
theorem t_X10_tell_52 {post : cs_S → Prop} {mc ms : Nat} (hC : rf_C P RX10 p s m meth c cX10_tell 6 none) (hin : meth.name = yX10_tell.name) (hO : cs_O G A s s.heap) (S : cs_S) (u v : Nat) (x0 : Nat) (x1 : Option Nat) (x2 : Option Nat) (x3 : Int32) (x4 : Option Nat) (x5 : Int32) (H : Heap) (locs : List Loc) (ls : Array Slot) (h : w_X10_tell_52 post G mc ms S u v x0 x1 x2 x3 x4 x5) (hT : cs_T P s A S H locs) (hl : lv_has ls 6 [(0, .ref x0), (1, va_rf x1), (2, va_rf x2), (3, .int x3), (4, va_rf x4), (5, .int x5)]) : W p l e (rm_X10_tell mc ms) s m args below meth c H locs u v (MQ below (cs_Qv P A post) args s mc ms A) (F0 m 52 ls []) := by
  obtain ⟨hx, hb, hml, hown, hK, -, -⟩ := id hC
  obtain ⟨hu, hv, h⟩ := h
  refine lv_aload_n (x := x0) hx hb dX10_tell_52 rfl (lv_at hl 0 rfl) ?_
  obtain ⟨hk47_, h⟩ := h
  refine cs_get hx hb hK hT hown 11 hk47_ (by decide) rfl 3 (by decide) kfX10_34 (v := va_rf (cs_r S 1103 x0)) rfl dX10_tell_53 ?_
  refine hw_topr (fun r48 er48 => ?_)
  replace h := h r48 er48
  obtain ⟨b49, rfl, h⟩ := h
  obtain ⟨hk51_, h⟩ := h
  refine cs_calli0 (cs_runV hx hb hml hown hK hO hT 0 hk51_ (by decide) rfl (c_Jx4a65c_size_8abf5 h) rfl rfl klX10_38 ki_Jx4a65c_size_8abf5 ks_Jx4a65c_size_8abf5 kn_Jx4a65c kc_Jx4a65c_size_8abf5 0 ⟨rfl, by decide, by decide, by decide +kernel⟩ ⟨Nat.le_of_ble_eq_true rfl, Nat.le_of_ble_eq_true rfl⟩ rfl hl.1 rfl (hw_cat8 (Nat.le_of_ble_eq_true rfl)) ⟨hu, hv⟩ dX10_tell_56) hT (fun r50 S50 H locs h_ hT_ => ?_)
  replace h := h_
  replace hT := hT_
  refine lv_sipush (v := 500) hx hb dX10_tell_59 (by decide) ?_
  refine lv_icmp_ge (tgt := 93) hx hb dX10_tell_62 (by decide) (fun hc => ?_) (fun hc => ?_)
  · replace h := h.1 hc
    exact t_X10_tell_93 hC hin hO S50 u v x0 x1 x2 x3 x4 _ _ _ h hT (lv_sub hl [0, 1, 2, 3, 4] rfl)
  · replace h := h.2 hc
    refine lv_aload_n (x := x0) hx hb dX10_tell_65 rfl (lv_at hl 0 rfl) ?_
    obtain ⟨hk52_, h⟩ := h
    refine cs_get hx hb hK hT hown 11 hk52_ (by decide) rfl 3 (by decide) kfX10_34 (v := va_rf (cs_r S50 1103 x0)) rfl dX10_tell_66 ?_
    refine hw_topr (fun r53 er53 => ?_)
    replace h := h r53 er53
    obtain ⟨hu54, hv54, h⟩ := h
    refine cs_newo hx hb hK hT hown 1 (by decide) rfl tyX0_ok cs_df1 kxX10_46 kj_X0 kn_X0 hu54 hv54 dX10_tell_69 (fun q54 H hq54 hT_ => ?_)
    replace h := h q54 hq54
    replace hT := hT_
    obtain ⟨S55, eS55⟩ : ∃ z, z = cs_new S50 q54 1 := ⟨_, rfl⟩
    rw [← eS55] at hT
    replace h := h S55 eS55
    refine lv_dup hx hb dX10_tell_72 rfl ?_
    refine hw_aload_n (x := x1) hx hb dX10_tell_73 rfl (lv_at hl 1 rfl) ?_
    obtain ⟨b56, rfl, h⟩ := h
    obtain ⟨hk57_, h⟩ := h
    refine cs_get hx hb hK hT hown 8 hk57_ (by decide) rfl 0 (by decide) kfX10_140 (v := .int (cs_i S55 800 b56)) rfl dX10_tell_74 ?_
    refine lv_iload_n hx hb dX10_tell_77 rfl (lv_at hl 3 rfl) ?_
    refine lv_iload hx hb dX10_tell_78 (lv_at hl 5 rfl) ?_
    refine hw_aload (x := x4) hx hb dX10_tell_80 (lv_at hl 4 rfl) ?_
    obtain ⟨b58, rfl, h⟩ := h
    obtain ⟨hk59_, h⟩ := h
    refine cs_get hx hb hK hT hown 4 hk59_ (by decide) rfl 5 (by decide) kfX10_85 (v := .int (cs_i S55 405 b58)) rfl dX10_tell_82 ?_
    refine hw_aload_n (x := x2) hx hb dX10_tell_85 rfl (lv_at hl 2 rfl) ?_
    refine cs_callv0 (cs_runI hx hb hml hown hK hO hT (c_X0_init h) rfl rfl klX10_143 ki_X0_init kn_X0 kc_X0_init rfl 5 ⟨by decide, by decide, by decide +kernel⟩ ⟨Nat.le_of_ble_eq_true rfl, Nat.le_of_ble_eq_true rfl⟩ rfl hl.1 rfl (hw_cat8 (Nat.le_of_ble_eq_true rfl)) ⟨hu54, hv54⟩ dX10_tell_86) hT (fun S60 H locs h_ hT_ => ?_)
    replace h := h_
    replace hT := hT_
    obtain ⟨b61, rfl, h⟩ := h
    obtain ⟨hk63_, h⟩ := h
    obtain ⟨m62, n62, hu62, hv62, h⟩ := h
    refine cs_calli (cs_runV hx hb hml hown hK hO hT 0 hk63_ (by decide) rfl (c_Jx4a65c_add_9ea2d h) rfl rfl klX10_146 ki_Jx4a65c_add_9ea2d ks_Jx4a65c_add_9ea2d kn_Jx4a65c kc_Jx4a65c_add_9ea2d 1 ⟨rfl, by decide, by decide, by decide +kernel⟩ ⟨Nat.le_of_ble_eq_true rfl, Nat.le_of_ble_eq_true rfl⟩ rfl hl.1 rfl (hw_cat8 (Nat.le_of_ble_eq_true rfl)) ⟨hu62, hv62⟩ dX10_tell_89) hT (fun r62 S62 H locs h_ hT_ => ?_)
    replace h := h_
    replace hT := hT_
    refine lv_pop hx hb dX10_tell_92 rfl ?_
    exact t_X10_tell_93 hC hin hO S62 (u + 1 + m62) (v + 6 + n62) x0 (some b56) x2 x3 (some b58) _ _ _ h hT (lv_sub hl [0, 1, 2, 3, 4] rfl)
end
def wp_X10_tell (post : cs_S → Prop) (G : Nat → Nat) (mc ms : Nat) (S : cs_S) (o : Nat) (p1 : Option Nat) (p2 : Option Nat) (p3 : Int32) (p4 : Option Nat) (p5 : Int32) : Prop := ∃ b64, p1 = some b64 ∧ cs_k S b64 = 9 ∧ ∀ S66, S66 = cs_ui S 812 b64 ((cs_i S 812 b64) + 1) → ∃ b67, p2 = some b67 ∧ cs_k S66 b67 = 6 ∧ ((cs_i S66 503 b67) = ((-1)) → w_X10_tell_52 post G mc ms S66 0 0 o (some b64) (some b67) p3 p4 p5) ∧ (¬ (cs_i S66 503 b67) = ((-1)) → cs_k S66 b64 = 9 ∧ ((cs_i S66 503 b67) ≤ (p3 - (cs_i S66 811 b64)) → w_X10_tell_52 post G mc ms S66 0 0 o (some b64) (some b67) p3 p4 p5) ∧ (¬ (cs_i S66 503 b67) ≤ (p3 - (cs_i S66 811 b64)) → ∀ S70, S70 = cs_ui S66 504 b67 ((cs_i S66 504 b67) + 1) → cs_k S70 o = 12 ∧ ∀ S72, S72 = cs_ui S70 1107 o ((cs_i S70 1107 o) + 1) → post S72))
set_option maxRecDepth 100000 in
set_option maxHeartbeats 4000000 in
theorem c_X10_tell {l : Launch} {P : hw_G} {G : Nat → Nat} {S : cs_S} {sz : Nat} {mc ms : Nat} {o : Nat} {p1 : Option Nat} {p2 : Option Nat} {p3 : Int32} {p4 : Option Nat} {p5 : Int32} {post : cs_S → Prop} (h : wp_X10_tell post G mc ms S o p1 p2 p3 p4 p5) : Met l yX10_tell [Cond.code yX10_tell cX10_tell 6 none] (rm_X10_tell mc ms) (cs_Pc P G S sz [.ref o, va_rf p1, va_rf p2, .int p3, va_rf p4, .int p5]) (cs_Qv P (cs_A S sz) post) mc ms (cs_A S sz) := by
  refine cs_met (by decide) rfl (by cases p1 <;> cases p2 <;> cases p4 <;> exact Nat.le_of_ble_eq_true rfl) ?_
  intro p e s m below meth c ls hC hin hO hT hl
  obtain ⟨hx, hb, hml, hown, hK, -, -⟩ := id hC
  replace hl : lv_has ls 6 [(0, .ref o), (1, va_rf p1), (2, va_rf p2), (3, .int p3), (4, va_rf p4), (5, .int p5)] := by cases p1 <;> cases p2 <;> cases p4 <;> exact hl
  refine hw_aload_n (x := p1) hx hb dX10_tell_0 rfl (lv_at hl 1 rfl) ?_
  refine lv_dup hx hb dX10_tell_1 (va_rf_cat _) ?_
  obtain ⟨b64, rfl, h⟩ := h
  obtain ⟨hk65_, h⟩ := h
  refine cs_get hx hb hK hT hown 8 hk65_ (by decide) rfl 12 (by decide) kfX10_125 (v := .int (cs_i S 812 b64)) rfl dX10_tell_2 ?_
  refine lv_iconst (v := 1) hx hb dX10_tell_5 (by decide) ?_
  refine lv_iadd hx hb dX10_tell_6 ?_
  refine cs_puti (x := ((cs_i S 812 b64) + 1)) hx hb hK hT hown 8 hk65_ (by decide) rfl 12 (by decide) kfX10_125 rfl (tyX7_ok 12 (by decide)) rfl 812 rfl dX10_tell_7 (fun H locs hT_ => ?_)
  replace hT := hT_
  obtain ⟨S66, eS66⟩ : ∃ z, z = cs_ui S 812 b64 ((cs_i S 812 b64) + 1) := ⟨_, rfl⟩
  rw [← eS66] at hT
  replace h := h S66 eS66
  refine hw_aload_n (x := p2) hx hb dX10_tell_10 rfl (lv_at hl 2 rfl) ?_
  obtain ⟨b67, rfl, h⟩ := h
  obtain ⟨hk68_, h⟩ := h
  refine cs_get hx hb hK hT hown 5 hk68_ (by decide) rfl 3 (by decide) kfX10_128 (v := .int (cs_i S66 503 b67)) rfl dX10_tell_11 ?_
  refine lv_iconst (v := (-1)) hx hb dX10_tell_14 (by decide) ?_
  refine lv_icmp_eq (tgt := 52) hx hb dX10_tell_15 (by decide) (fun hc => ?_) (fun hc => ?_)
  · replace h := h.1 hc
    exact t_X10_tell_52 hC hin hO S66 0 0 o (some b64) (some b67) p3 p4 p5 _ _ _ h hT (lv_sub hl [0, 1, 2, 3, 4, 5] rfl)
  · replace h := h.2 hc
    refine lv_aload_n (x := b67) hx hb dX10_tell_18 rfl (lv_at hl 2 rfl) ?_
    refine cs_get hx hb hK hT hown 5 hk68_ (by decide) rfl 3 (by decide) kfX10_128 (v := .int (cs_i S66 503 b67)) rfl dX10_tell_19 ?_
    refine lv_iload_n hx hb dX10_tell_22 rfl (lv_at hl 3 rfl) ?_
    refine lv_aload_n (x := b64) hx hb dX10_tell_23 rfl (lv_at hl 1 rfl) ?_
    obtain ⟨hk69_, h⟩ := h
    refine cs_get hx hb hK hT hown 8 hk69_ (by decide) rfl 11 (by decide) kfX10_133 (v := .int (cs_i S66 811 b64)) rfl dX10_tell_24 ?_
    refine lv_isub hx hb dX10_tell_27 ?_
    refine lv_icmp_le (tgt := 52) hx hb dX10_tell_28 (by decide) (fun hc => ?_) (fun hc => ?_)
    · replace h := h.1 hc
      exact t_X10_tell_52 hC hin hO S66 0 0 o (some b64) (some b67) p3 p4 p5 _ _ _ h hT (lv_sub hl [0, 1, 2, 3, 4, 5] rfl)
    · replace h := h.2 hc
      refine lv_aload_n (x := b67) hx hb dX10_tell_31 rfl (lv_at hl 2 rfl) ?_
      refine lv_dup hx hb dX10_tell_32 rfl ?_
      refine cs_get hx hb hK hT hown 5 hk68_ (by decide) rfl 4 (by decide) kfX10_136 (v := .int (cs_i S66 504 b67)) rfl dX10_tell_33 ?_
      refine lv_iconst (v := 1) hx hb dX10_tell_36 (by decide) ?_
      refine lv_iadd hx hb dX10_tell_37 ?_
      refine cs_puti (x := ((cs_i S66 504 b67) + 1)) hx hb hK hT hown 5 hk68_ (by decide) rfl 4 (by decide) kfX10_136 rfl (tyX4_ok 4 (by decide)) rfl 504 rfl dX10_tell_38 (fun H locs hT_ => ?_)
      replace hT := hT_
      obtain ⟨S70, eS70⟩ : ∃ z, z = cs_ui S66 504 b67 ((cs_i S66 504 b67) + 1) := ⟨_, rfl⟩
      rw [← eS70] at hT
      replace h := h S70 eS70
      refine lv_aload_n (x := o) hx hb dX10_tell_41 rfl (lv_at hl 0 rfl) ?_
      refine lv_dup hx hb dX10_tell_42 rfl ?_
      obtain ⟨hk71_, h⟩ := h
      refine cs_get hx hb hK hT hown 11 hk71_ (by decide) rfl 7 (by decide) kfX10_139 (v := .int (cs_i S70 1107 o)) rfl dX10_tell_43 ?_
      refine lv_iconst (v := 1) hx hb dX10_tell_46 (by decide) ?_
      refine lv_iadd hx hb dX10_tell_47 ?_
      refine cs_puti (x := ((cs_i S70 1107 o) + 1)) hx hb hK hT hown 11 hk71_ (by decide) rfl 7 (by decide) kfX10_139 rfl (tyX10_ok 7 (by decide)) rfl 1107 rfl dX10_tell_48 (fun H locs hT_ => ?_)
      replace hT := hT_
      obtain ⟨S72, eS72⟩ : ∃ z, z = cs_ui S70 1107 o ((cs_i S70 1107 o) + 1) := ⟨_, rfl⟩
      rw [← eS72] at hT
      replace h := h S72 eS72
      exact cs_vret hC hT h dX10_tell_51 (Nat.zero_le _) (Nat.zero_le _)
/-! X10_tellLacks -/
abbrev rm_X10_tellLacks (mc ms : Nat) : Room := { frames := 8, cells := mc, slots := ms, locals := 196 }
def w_X10_tellLacks_54 (post : cs_S → Prop) (G : Nat → Nat) (mc ms : Nat) (S : cs_S) (u v : Nat)  : Prop := u ≤ mc ∧ v ≤ ms ∧ post S
section
variable {p : Program} {l : Launch} {e : Env} {s : State} {m : MethodId} {args : Array Value} {below : List Frame} {meth : Method} {c : Code} {P : hw_G} {G : Nat → Nat} {A : Nat → Prop}
set_option maxRecDepth 100000 in
set_option maxHeartbeats 4000000 in
theorem t_X10_tellLacks_54 {post : cs_S → Prop} {mc ms : Nat} (hC : rf_C P RX10 p s m meth c cX10_tellLacks 5 none) (hin : meth.name = yX10_tellLacks.name) (hO : cs_O G A s s.heap) (S : cs_S) (u v : Nat)  (H : Heap) (locs : List Loc) (ls : Array Slot) (h : w_X10_tellLacks_54 post G mc ms S u v ) (hT : cs_T P s A S H locs) (hl : lv_has ls 5 []) : W p l e (rm_X10_tellLacks mc ms) s m args below meth c H locs u v (MQ below (cs_Qv P A post) args s mc ms A) (F0 m 54 ls []) := by
  obtain ⟨hx, hb, hml, hown, hK, -, -⟩ := id hC
  obtain ⟨hu, hv, h⟩ := h
  exact cs_vret hC hT h dX10_tellLacks_54 hu hv
end
def w_X10_tellLacks_9 (post : cs_S → Prop) (G : Nat → Nat) (mc ms : Nat) : Nat → cs_S → Nat → Nat → Nat → Option Nat → Int32 → Option Nat → Int32 → Prop
  | 0, _, _, _, _, _, _, _, _ => False
  | n + 1, S, u, v, x0, x1, x2, x3, x4 => u ≤ mc ∧ v ≤ ms ∧ (4000 ≤ x4 → w_X10_tellLacks_54 post G mc ms S u v) ∧ (¬ 4000 ≤ x4 → (x3 = none → w_X10_tellLacks_54 post G mc ms S u v) ∧ (∀ b15, x3 = some b15 → cs_k S b15 = 4 ∧ ∀ r17, r17 = cs_r S 301 b15 → ∀ r18, r18 = cs_r S 300 b15 → ∀ r19, r19 = cs_r S 300 b15 → ∃ b20, r19 = some b20 ∧ cs_k S b20 = 5 ∧ cs_k S x0 = 12 ∧ ∃ m22 n22, u + m22 ≤ mc ∧ v + n22 ≤ ms ∧ wp_X10_tell (fun S22 => ∃ b24, x1 = some b24 ∧ cs_k S22 b24 = 9 ∧ wp_X7_takeDue (fun r25 S25 => w_X10_tellLacks_9 post G mc ms n S25 (u + m22) (v + n22) x0 (some b24) x2 r25 (x4 + 1)) G S22 b24 x2) G m22 n22 S x0 x1 r17 x2 r18 (cs_i S 405 b20)))
section
variable {p : Program} {l : Launch} {e : Env} {s : State} {m : MethodId} {args : Array Value} {below : List Frame} {meth : Method} {c : Code} {P : hw_G} {G : Nat → Nat} {A : Nat → Prop}
set_option maxRecDepth 100000 in
set_option maxHeartbeats 4000000 in
theorem t_X10_tellLacks_9 {post : cs_S → Prop} {mc ms : Nat} (hC : rf_C P RX10 p s m meth c cX10_tellLacks 5 none) (hin : meth.name = yX10_tellLacks.name) (hO : cs_O G A s s.heap) : ∀ (n : Nat) (S : cs_S) (u v : Nat) (x0 : Nat) (x1 : Option Nat) (x2 : Int32) (x3 : Option Nat) (x4 : Int32) (H : Heap) (locs : List Loc) (ls : Array Slot), w_X10_tellLacks_9 post G mc ms n S u v x0 x1 x2 x3 x4 → cs_T P s A S H locs → lv_has ls 5 [(0, .ref x0), (1, va_rf x1), (2, .int x2), (3, va_rf x3), (4, .int x4)] → W p l e (rm_X10_tellLacks mc ms) s m args below meth c H locs u v (MQ below (cs_Qv P A post) args s mc ms A) (F0 m 9 ls []) := by
  obtain ⟨hx, hb, hml, hown, hK, -, -⟩ := id hC
  intro n
  induction n with
  | zero => intro S u v x0 x1 x2 x3 x4 H locs ls h; exact False.elim h
  | succ n ih =>
    intro S u v x0 x1 x2 x3 x4 H locs ls h hT hl
    obtain ⟨hu, hv, h⟩ := h
    refine lv_iload hx hb dX10_tellLacks_9 (lv_at hl 4 rfl) ?_
    refine lv_sipush (v := 4000) hx hb dX10_tellLacks_11 (by decide) ?_
    refine lv_icmp_ge (tgt := 54) hx hb dX10_tellLacks_14 (by decide) (fun hc => ?_) (fun hc => ?_)
    · replace h := h.1 hc
      exact t_X10_tellLacks_54 hC hin hO S u v _ _ _ h hT (lv_sub hl [] rfl)
    · replace h := h.2 hc
      refine hw_aload_n (x := x3) hx hb dX10_tellLacks_17 rfl (lv_at hl 3 rfl) ?_
      refine hw_ifnull (tgt := 54) hx hb dX10_tellLacks_18 (by decide) (fun hc => ?_) (fun b15 hc => ?_)
      · replace h := h.1 hc
        subst hc
        exact t_X10_tellLacks_54 hC hin hO S u v _ _ _ h hT (lv_sub hl [] rfl)
      · replace h := h.2 b15 hc
        subst hc
        refine lv_aload_n (x := x0) hx hb dX10_tellLacks_21 rfl (lv_at hl 0 rfl) ?_
        refine hw_aload_n (x := x1) hx hb dX10_tellLacks_22 rfl (lv_at hl 1 rfl) ?_
        refine lv_aload_n (x := b15) hx hb dX10_tellLacks_23 rfl (lv_at hl 3 rfl) ?_
        obtain ⟨hk16_, h⟩ := h
        refine cs_get hx hb hK hT hown 3 hk16_ (by decide) rfl 1 (by decide) kfX10_75 (v := va_rf (cs_r S 301 b15)) rfl dX10_tellLacks_24 ?_
        refine hw_topr (fun r17 er17 => ?_)
        replace h := h r17 er17
        refine lv_iload_n hx hb dX10_tellLacks_27 rfl (lv_at hl 2 rfl) ?_
        refine lv_aload_n (x := b15) hx hb dX10_tellLacks_28 rfl (lv_at hl 3 rfl) ?_
        refine cs_get hx hb hK hT hown 3 hk16_ (by decide) rfl 0 (by decide) kfX10_81 (v := va_rf (cs_r S 300 b15)) rfl dX10_tellLacks_29 ?_
        refine hw_topr (fun r18 er18 => ?_)
        replace h := h r18 er18
        refine lv_aload_n (x := b15) hx hb dX10_tellLacks_32 rfl (lv_at hl 3 rfl) ?_
        refine cs_get hx hb hK hT hown 3 hk16_ (by decide) rfl 0 (by decide) kfX10_81 (v := va_rf (cs_r S 300 b15)) rfl dX10_tellLacks_33 ?_
        refine hw_topr (fun r19 er19 => ?_)
        replace h := h r19 er19
        obtain ⟨b20, rfl, h⟩ := h
        obtain ⟨hk21_, h⟩ := h
        refine cs_get hx hb hK hT hown 4 hk21_ (by decide) rfl 5 (by decide) kfX10_85 (v := .int (cs_i S 405 b20)) rfl dX10_tellLacks_36 ?_
        obtain ⟨hk23_, h⟩ := h
        obtain ⟨m22, n22, hu22, hv22, h⟩ := h
        refine cs_callv (cs_runV hx hb hml hown hK hO hT 11 hk23_ (by decide) rfl (c_X10_tell h) rfl rfl klX10_88 ki_X10_tell ks_X10_tell kn_X10 kc_X10_tell 5 ⟨rfl, by decide, by decide, by decide +kernel⟩ ⟨Nat.le_of_ble_eq_true rfl, Nat.le_of_ble_eq_true rfl⟩ rfl hl.1 rfl (hw_cat8 (Nat.le_of_ble_eq_true rfl)) ⟨hu22, hv22⟩ dX10_tellLacks_39) hT (fun S22 H locs h_ hT_ => ?_)
        replace h := h_
        replace hT := hT_
        refine hw_aload_n (x := x1) hx hb dX10_tellLacks_42 rfl (lv_at hl 1 rfl) ?_
        refine lv_iload_n hx hb dX10_tellLacks_43 rfl (lv_at hl 2 rfl) ?_
        obtain ⟨b24, rfl, h⟩ := h
        obtain ⟨hk26_, h⟩ := h
        refine cs_callr0 (cs_runV hx hb hml hown hK hO hT 8 hk26_ (by decide) rfl (c_X7_takeDue h) rfl rfl klX10_71 ki_X7_takeDue ks_X7_takeDue kn_X7 kc_X7_takeDue 1 ⟨rfl, by decide, by decide, by decide +kernel⟩ ⟨Nat.le_of_ble_eq_true rfl, Nat.le_of_ble_eq_true rfl⟩ rfl hl.1 rfl (hw_cat8 (Nat.le_of_ble_eq_true rfl)) ⟨hu22, hv22⟩ dX10_tellLacks_44) hT (fun r25 S25 H locs h_ hT_ => ?_)
        replace h := h_
        replace hT := hT_
        refine hw_astore_n (lv' := [(3, _), (0, _), (1, _), (2, _), (4, _)]) (x := r25) hx hb dX10_tellLacks_47 rfl hl (by decide) rfl (fun ls hl_ => ?_)
        replace hl := hl_
        refine lv_iinc (v := x4 + 1) (lv' := [(4, _), (3, _), (0, _), (1, _), (2, _)]) hx hb dX10_tellLacks_48 hl (k := 4) rfl rfl (by decide) (congrArg (List.cons _) ((hw_flt (fun q hq => by simp only [List.mem_cons, List.not_mem_nil, or_false] at hq; rcases hq with rfl | rfl | rfl | rfl | rfl <;> first | exact fun _ => rfl | exact fun _ => va_rf_cat _ | (intro h; simp at h))).trans rfl)) (fun ls hl_ => ?_)
        replace hl := hl_
        refine lv_goto (tgt := 9) hx hb dX10_tellLacks_51 (by decide) ?_
        exact ih S25 (u + m22) (v + n22) x0 (some b24) x2 r25 (x4 + 1) _ _ _ h hT (lv_sub hl [2, 3, 4, 1, 0] rfl)
end
def wp_X10_tellLacks (post : cs_S → Prop) (G : Nat → Nat) (mc ms : Nat) (S : cs_S) (o : Nat) (p1 : Option Nat) (p2 : Int32) : Prop := ∃ b27, p1 = some b27 ∧ cs_k S b27 = 9 ∧ wp_X7_takeDue (fun r28 S28 => ∃ n9, w_X10_tellLacks_9 post G mc ms n9 S28 0 0 o (some b27) p2 r28 0) G S b27 p2
set_option maxRecDepth 100000 in
set_option maxHeartbeats 4000000 in
theorem c_X10_tellLacks {l : Launch} {P : hw_G} {G : Nat → Nat} {S : cs_S} {sz : Nat} {mc ms : Nat} {o : Nat} {p1 : Option Nat} {p2 : Int32} {post : cs_S → Prop} (h : wp_X10_tellLacks post G mc ms S o p1 p2) : Met l yX10_tellLacks [Cond.code yX10_tellLacks cX10_tellLacks 5 none] (rm_X10_tellLacks mc ms) (cs_Pc P G S sz [.ref o, va_rf p1, .int p2]) (cs_Qv P (cs_A S sz) post) mc ms (cs_A S sz) := by
  refine cs_met (by decide) rfl (by cases p1 <;> exact Nat.le_of_ble_eq_true rfl) ?_
  intro p e s m below meth c ls hC hin hO hT hl
  obtain ⟨hx, hb, hml, hown, hK, -, -⟩ := id hC
  replace hl : lv_has ls 5 [(0, .ref o), (1, va_rf p1), (2, .int p2)] := by cases p1 <;> exact hl
  refine hw_aload_n (x := p1) hx hb dX10_tellLacks_0 rfl (lv_at hl 1 rfl) ?_
  refine lv_iload_n hx hb dX10_tellLacks_1 rfl (lv_at hl 2 rfl) ?_
  obtain ⟨b27, rfl, h⟩ := h
  obtain ⟨hk29_, h⟩ := h
  refine cs_callr0 (cs_runV hx hb hml hown hK hO hT 8 hk29_ (by decide) rfl (c_X7_takeDue h) rfl rfl klX10_71 ki_X7_takeDue ks_X7_takeDue kn_X7 kc_X7_takeDue 1 ⟨rfl, by decide, by decide, by decide +kernel⟩ ⟨Nat.le_of_ble_eq_true rfl, Nat.le_of_ble_eq_true rfl⟩ rfl hl.1 rfl (hw_cat8 (Nat.le_of_ble_eq_true rfl)) ⟨(Nat.zero_le _), (Nat.zero_le _)⟩ dX10_tellLacks_2) hT (fun r28 S28 H locs h_ hT_ => ?_)
  replace h := h_
  replace hT := hT_
  refine hw_astore_n (lv' := [(3, _), (0, _), (1, _), (2, _)]) (x := r28) hx hb dX10_tellLacks_5 rfl hl (by decide) rfl (fun ls hl_ => ?_)
  replace hl := hl_
  refine lv_iconst (v := 0) hx hb dX10_tellLacks_6 (by decide) ?_
  refine lv_istore (lv' := [(4, _), (3, _), (0, _), (1, _), (2, _)]) hx hb dX10_tellLacks_7 hl (by decide) (congrArg (List.cons _) ((hw_flt (fun q hq => by simp only [List.mem_cons, List.not_mem_nil, or_false] at hq; rcases hq with rfl | rfl | rfl | rfl <;> first | exact fun _ => rfl | exact fun _ => va_rf_cat _ | (intro h; simp at h))).trans rfl)) (fun ls hl_ => ?_)
  replace hl := hl_
  obtain ⟨n9, h⟩ := h
  exact t_X10_tellLacks_9 hC hin hO n9 S28 0 0 o (some b27) p2 r28 0 _ _ _ h hT (lv_sub hl [2, 3, 4, 1, 0] rfl)
/-! X10_come -/
abbrev rm_X10_come (mc ms : Nat) : Room := { frames := 64, cells := mc, slots := ms, locals := 2497 }
def w_X10_come_98 (post : cs_S → Prop) (G : Nat → Nat) (mc ms : Nat) (k38 : cs_S → Nat → Nat → Nat → Option Nat → Int32 → Prop) (S : cs_S) (u v : Nat) (x0 : Nat) (x1 : Option Nat) (x2 : Int32) : Prop := u ≤ mc ∧ v ≤ ms ∧ k38 S u v x0 x1 (x2 + 1)
section
variable {p : Program} {l : Launch} {e : Env} {s : State} {m : MethodId} {args : Array Value} {below : List Frame} {meth : Method} {c : Code} {P : hw_G} {G : Nat → Nat} {A : Nat → Prop}
set_option maxRecDepth 100000 in
set_option maxHeartbeats 4000000 in
theorem t_X10_come_98 {post : cs_S → Prop} {mc ms : Nat} {k38 : cs_S → Nat → Nat → Nat → Option Nat → Int32 → Prop} (hC : rf_C P RX10 p s m meth c cX10_come 6 none) (hin : meth.name = yX10_come.name) (hO : cs_O G A s s.heap) (hk38 : ∀ (S : cs_S) (u v : Nat) (x0 : Nat) (x1 : Option Nat) (x2 : Int32) (H : Heap) (locs : List Loc) (ls : Array Slot), k38 S u v x0 x1 x2 → cs_T P s A S H locs → lv_has ls 6 [(0, .ref x0), (1, va_rf x1), (2, .int x2)] → W p l e (rm_X10_come mc ms) s m args below meth c H locs u v (MQ below (cs_Qv P A post) args s mc ms A) (F0 m 38 ls [])) (S : cs_S) (u v : Nat) (x0 : Nat) (x1 : Option Nat) (x2 : Int32) (H : Heap) (locs : List Loc) (ls : Array Slot) (h : w_X10_come_98 post G mc ms k38 S u v x0 x1 x2) (hT : cs_T P s A S H locs) (hl : lv_has ls 6 [(0, .ref x0), (1, va_rf x1), (2, .int x2)]) : W p l e (rm_X10_come mc ms) s m args below meth c H locs u v (MQ below (cs_Qv P A post) args s mc ms A) (F0 m 98 ls []) := by
  obtain ⟨hx, hb, hml, hown, hK, -, -⟩ := id hC
  obtain ⟨hu, hv, h⟩ := h
  refine lv_iinc (v := x2 + 1) (lv' := [(2, _), (0, _), (1, _)]) hx hb dX10_come_98 hl (k := 2) rfl rfl (by decide) (congrArg (List.cons _) ((hw_flt (fun q hq => by simp only [List.mem_cons, List.not_mem_nil, or_false] at hq; rcases hq with rfl | rfl | rfl <;> first | exact fun _ => rfl | exact fun _ => va_rf_cat _ | (intro h; simp at h))).trans rfl)) (fun ls hl_ => ?_)
  replace hl := hl_
  refine lv_goto (tgt := 38) hx hb dX10_come_101 (by decide) ?_
  exact hk38 S u v x0 x1 (x2 + 1) _ _ _ h hT (lv_sub hl [1, 2, 0] rfl)
end
def w_X10_come_76 (post : cs_S → Prop) (G : Nat → Nat) (mc ms : Nat) (k38 : cs_S → Nat → Nat → Nat → Option Nat → Int32 → Prop) (S : cs_S) (u v : Nat) (x0 : Nat) (x1 : Option Nat) (x2 : Int32) (x3 : Option Nat) (x4 : Option Nat) (y0 : Int32) : Prop := u ≤ mc ∧ v ≤ ms ∧ (y0 = ((-1)) → w_X10_come_98 post G mc ms k38 S u v x0 x1 x2) ∧ (¬ y0 = ((-1)) → ∃ b26, x1 = some b26 ∧ cs_k S b26 = 5 ∧ cs_k S x0 = 12 ∧ ∃ m28 n28, u + m28 ≤ mc ∧ v + n28 ≤ ms ∧ wp_X10_tell (fun S28 => w_X10_come_98 post G mc ms k38 S28 (u + m28) (v + n28) x0 (some b26) x2) G m28 n28 S x0 x3 x4 (cs_i S 400 b26) (some b26) y0)
section
variable {p : Program} {l : Launch} {e : Env} {s : State} {m : MethodId} {args : Array Value} {below : List Frame} {meth : Method} {c : Code} {P : hw_G} {G : Nat → Nat} {A : Nat → Prop}
set_option maxRecDepth 100000 in
set_option maxHeartbeats 4000000 in
theorem t_X10_come_76 {post : cs_S → Prop} {mc ms : Nat} {k38 : cs_S → Nat → Nat → Nat → Option Nat → Int32 → Prop} (hC : rf_C P RX10 p s m meth c cX10_come 6 none) (hin : meth.name = yX10_come.name) (hO : cs_O G A s s.heap) (hk38 : ∀ (S : cs_S) (u v : Nat) (x0 : Nat) (x1 : Option Nat) (x2 : Int32) (H : Heap) (locs : List Loc) (ls : Array Slot), k38 S u v x0 x1 x2 → cs_T P s A S H locs → lv_has ls 6 [(0, .ref x0), (1, va_rf x1), (2, .int x2)] → W p l e (rm_X10_come mc ms) s m args below meth c H locs u v (MQ below (cs_Qv P A post) args s mc ms A) (F0 m 38 ls [])) (S : cs_S) (u v : Nat) (x0 : Nat) (x1 : Option Nat) (x2 : Int32) (x3 : Option Nat) (x4 : Option Nat) (y0 : Int32) (H : Heap) (locs : List Loc) (ls : Array Slot) (h : w_X10_come_76 post G mc ms k38 S u v x0 x1 x2 x3 x4 y0) (hT : cs_T P s A S H locs) (hl : lv_has ls 6 [(0, .ref x0), (1, va_rf x1), (2, .int x2), (3, va_rf x3), (4, va_rf x4)]) : W p l e (rm_X10_come mc ms) s m args below meth c H locs u v (MQ below (cs_Qv P A post) args s mc ms A) (F0 m 76 ls [.int y0]) := by
  obtain ⟨hx, hb, hml, hown, hK, -, -⟩ := id hC
  obtain ⟨hu, hv, h⟩ := h
  refine lv_istore (lv' := [(5, _), (0, _), (1, _), (2, _), (3, _), (4, _)]) hx hb dX10_come_76 hl (by decide) (congrArg (List.cons _) ((hw_flt (fun q hq => by simp only [List.mem_cons, List.not_mem_nil, or_false] at hq; rcases hq with rfl | rfl | rfl | rfl | rfl <;> first | exact fun _ => rfl | exact fun _ => va_rf_cat _ | (intro h; simp at h))).trans rfl)) (fun ls hl_ => ?_)
  replace hl := hl_
  refine lv_iload hx hb dX10_come_78 (lv_at hl 0 rfl) ?_
  refine lv_iconst (v := (-1)) hx hb dX10_come_80 (by decide) ?_
  refine lv_icmp_eq (tgt := 98) hx hb dX10_come_81 (by decide) (fun hc => ?_) (fun hc => ?_)
  · replace h := h.1 hc
    exact t_X10_come_98 hC hin hO hk38 S u v x0 x1 x2 _ _ _ h hT (lv_sub hl [1, 2, 3] rfl)
  · replace h := h.2 hc
    refine lv_aload_n (x := x0) hx hb dX10_come_84 rfl (lv_at hl 1 rfl) ?_
    refine hw_aload_n (x := x3) hx hb dX10_come_85 rfl (lv_at hl 4 rfl) ?_
    refine hw_aload (x := x4) hx hb dX10_come_86 (lv_at hl 5 rfl) ?_
    refine hw_aload_n (x := x1) hx hb dX10_come_88 rfl (lv_at hl 2 rfl) ?_
    obtain ⟨b26, rfl, h⟩ := h
    obtain ⟨hk27_, h⟩ := h
    refine cs_get hx hb hK hT hown 4 hk27_ (by decide) rfl 0 (by decide) kfX10_92 (v := .int (cs_i S 400 b26)) rfl dX10_come_89 ?_
    refine lv_aload_n (x := b26) hx hb dX10_come_92 rfl (lv_at hl 2 rfl) ?_
    refine lv_iload hx hb dX10_come_93 (lv_at hl 0 rfl) ?_
    obtain ⟨hk29_, h⟩ := h
    obtain ⟨m28, n28, hu28, hv28, h⟩ := h
    refine cs_callv (cs_runV hx hb hml hown hK hO hT 11 hk29_ (by decide) rfl (c_X10_tell h) rfl rfl klX10_88 ki_X10_tell ks_X10_tell kn_X10 kc_X10_tell 5 ⟨rfl, by decide, by decide, by decide +kernel⟩ ⟨Nat.le_of_ble_eq_true rfl, Nat.le_of_ble_eq_true rfl⟩ rfl hl.1 rfl (hw_cat8 (Nat.le_of_ble_eq_true rfl)) ⟨hu28, hv28⟩ dX10_come_95) hT (fun S28 H locs h_ hT_ => ?_)
    replace h := h_
    replace hT := hT_
    exact t_X10_come_98 hC hin hO hk38 S28 (u + m28) (v + n28) x0 (some b26) x2 _ _ _ h hT (lv_sub hl [1, 2, 3] rfl)
end
def w_X10_come_38 (post : cs_S → Prop) (G : Nat → Nat) (mc ms : Nat) : Nat → cs_S → Nat → Nat → Nat → Option Nat → Int32 → Prop
  | 0, _, _, _, _, _, _ => False
  | n + 1, S, u, v, x0, x1, x2 => u ≤ mc ∧ v ≤ ms ∧ cs_k S x0 = 12 ∧ ((cs_i S 1101 x0) ≤ x2 → post S) ∧ (¬ (cs_i S 1101 x0) ≤ x2 → ∀ r31, r31 = cs_r S 1100 x0 → ∃ b32, r31 = some b32 ∧ cs_k S b32 = 22 ∧ vp_in x2 (cs_n S b32) ∧ ∀ r34, r34 = cs_ar S b32 x2.toNatClampNeg → ∃ b35, r34 = some b35 ∧ cs_k S b35 = 9 ∧ ∃ m36 n36, u + m36 ≤ mc ∧ v + n36 ≤ ms ∧ wp_X7_keyOf (fun r36 S36 => (r36 = none → w_X10_come_76 post G mc ms (w_X10_come_38 post G mc ms n) S36 (u + m36) (v + n36) x0 x1 x2 (some b35) none ((-1))) ∧ (∀ b38, r36 = some b38 → cs_k S36 b35 = 9 ∧ ∃ m39 n39, u + m36 + m39 ≤ mc ∧ v + n36 + n39 ≤ ms ∧ wp_X7_look (fun r39 S39 => w_X10_come_76 post G mc ms (w_X10_come_38 post G mc ms n) S39 (u + m36 + m39) (v + n36 + n39) x0 x1 x2 (some b35) (some b38) r39) G m39 n39 S36 b35 (some b38) x1)) G m36 n36 S b35 x1)
section
variable {p : Program} {l : Launch} {e : Env} {s : State} {m : MethodId} {args : Array Value} {below : List Frame} {meth : Method} {c : Code} {P : hw_G} {G : Nat → Nat} {A : Nat → Prop}
set_option maxRecDepth 100000 in
set_option maxHeartbeats 4000000 in
theorem t_X10_come_38 {post : cs_S → Prop} {mc ms : Nat} (hC : rf_C P RX10 p s m meth c cX10_come 6 none) (hin : meth.name = yX10_come.name) (hO : cs_O G A s s.heap) : ∀ (n : Nat) (S : cs_S) (u v : Nat) (x0 : Nat) (x1 : Option Nat) (x2 : Int32) (H : Heap) (locs : List Loc) (ls : Array Slot), w_X10_come_38 post G mc ms n S u v x0 x1 x2 → cs_T P s A S H locs → lv_has ls 6 [(0, .ref x0), (1, va_rf x1), (2, .int x2)] → W p l e (rm_X10_come mc ms) s m args below meth c H locs u v (MQ below (cs_Qv P A post) args s mc ms A) (F0 m 38 ls []) := by
  obtain ⟨hx, hb, hml, hown, hK, -, -⟩ := id hC
  intro n
  induction n with
  | zero => intro S u v x0 x1 x2 H locs ls h; exact False.elim h
  | succ n ih =>
    intro S u v x0 x1 x2 H locs ls h hT hl
    obtain ⟨hu, hv, h⟩ := h
    refine lv_iload_n hx hb dX10_come_38 rfl (lv_at hl 2 rfl) ?_
    refine lv_aload_n (x := x0) hx hb dX10_come_39 rfl (lv_at hl 0 rfl) ?_
    obtain ⟨hk30_, h⟩ := h
    refine cs_get hx hb hK hT hown 11 hk30_ (by decide) rfl 1 (by decide) kfX10_21 (v := .int (cs_i S 1101 x0)) rfl dX10_come_40 ?_
    refine lv_icmp_ge (tgt := 104) hx hb dX10_come_43 (by decide) (fun hc => ?_) (fun hc => ?_)
    · replace h := h.1 hc
      exact cs_vret hC hT h dX10_come_104 hu hv
    · replace h := h.2 hc
      refine lv_aload_n (x := x0) hx hb dX10_come_46 rfl (lv_at hl 0 rfl) ?_
      refine cs_get hx hb hK hT hown 11 hk30_ (by decide) rfl 0 (by decide) kfX10_9 (v := va_rf (cs_r S 1100 x0)) rfl dX10_come_47 ?_
      refine hw_topr (fun r31 er31 => ?_)
      replace h := h r31 er31
      refine lv_iload_n hx hb dX10_come_50 rfl (lv_at hl 2 rfl) ?_
      obtain ⟨b32, rfl, h⟩ := h
      obtain ⟨hk33_, h⟩ := h
      obtain ⟨hi, h⟩ := h
      refine cs_aald hx hb hK hT 22 hk33_ (by decide) rfl (by decide) hi dX10_come_51 ?_
      refine hw_topr (fun r34 er34 => ?_)
      replace h := h r34 er34
      refine hw_astore_n (lv' := [(3, _), (0, _), (1, _), (2, _)]) (x := r34) hx hb dX10_come_52 rfl hl (by decide) rfl (fun ls hl_ => ?_)
      replace hl := hl_
      refine hw_aload_n (x := r34) hx hb dX10_come_53 rfl (lv_at hl 0 rfl) ?_
      refine hw_aload_n (x := x1) hx hb dX10_come_54 rfl (lv_at hl 2 rfl) ?_
      obtain ⟨b35, rfl, h⟩ := h
      obtain ⟨hk37_, h⟩ := h
      obtain ⟨m36, n36, hu36, hv36, h⟩ := h
      refine cs_callr (cs_runV hx hb hml hown hK hO hT 8 hk37_ (by decide) rfl (c_X7_keyOf h) rfl rfl klX10_105 ki_X7_keyOf ks_X7_keyOf kn_X7 kc_X7_keyOf 1 ⟨rfl, by decide, by decide, by decide +kernel⟩ ⟨Nat.le_of_ble_eq_true rfl, Nat.le_of_ble_eq_true rfl⟩ rfl hl.1 rfl (hw_cat8 (Nat.le_of_ble_eq_true rfl)) ⟨hu36, hv36⟩ dX10_come_55) hT (fun r36 S36 H locs h_ hT_ => ?_)
      replace h := h_
      replace hT := hT_
      refine hw_astore (lv' := [(4, _), (3, _), (0, _), (1, _), (2, _)]) (x := r36) hx hb dX10_come_58 hl (by decide) rfl (fun ls hl_ => ?_)
      replace hl := hl_
      refine hw_aload (x := r36) hx hb dX10_come_60 (lv_at hl 0 rfl) ?_
      refine hw_ifnonnull (tgt := 69) hx hb dX10_come_62 (by decide) (fun b38 hc => ?_) (fun hc => ?_)
      · replace h := h.2 b38 hc
        subst hc
        refine lv_aload_n (x := b35) hx hb dX10_come_69 rfl (lv_at hl 1 rfl) ?_
        refine lv_aload (x := b38) hx hb dX10_come_70 (lv_at hl 0 rfl) ?_
        refine hw_aload_n (x := x1) hx hb dX10_come_72 rfl (lv_at hl 3 rfl) ?_
        obtain ⟨hk40_, h⟩ := h
        obtain ⟨m39, n39, hu39, hv39, h⟩ := h
        refine cs_calli (cs_runV hx hb hml hown hK hO hT 8 hk40_ (by decide) rfl (c_X7_look h) rfl rfl klX10_109 ki_X7_look ks_X7_look kn_X7 kc_X7_look 2 ⟨rfl, by decide, by decide, by decide +kernel⟩ ⟨Nat.le_of_ble_eq_true rfl, Nat.le_of_ble_eq_true rfl⟩ rfl hl.1 rfl (hw_cat8 (Nat.le_of_ble_eq_true rfl)) ⟨hu39, hv39⟩ dX10_come_73) hT (fun r39 S39 H locs h_ hT_ => ?_)
        replace h := h_
        replace hT := hT_
        exact t_X10_come_76 hC hin hO ih S39 (u + m36 + m39) (v + n36 + n39) x0 x1 x2 (some b35) (some b38) r39 _ _ _ h hT (lv_sub hl [2, 3, 4, 1, 0] rfl)
      · replace h := h.1 hc
        subst hc
        refine lv_iconst (v := (-1)) hx hb dX10_come_65 (by decide) ?_
        refine lv_goto (tgt := 76) hx hb dX10_come_66 (by decide) ?_
        exact t_X10_come_76 hC hin hO ih S36 (u + m36) (v + n36) x0 x1 x2 (some b35) none ((-1)) _ _ _ h hT (lv_sub hl [2, 3, 4, 1, 0] rfl)
end
def wp_X10_come (post : cs_S → Prop) (G : Nat → Nat) (mc ms : Nat) (S : cs_S) (o : Nat) (p1 : Option Nat) : Prop := cs_k S o = 12 ∧ ∃ b42, p1 = some b42 ∧ cs_k S b42 = 5 ∧ ∀ S44, S44 = cs_ui S 405 b42 (cs_i S 1104 o) → cs_k S44 o = 12 ∧ ∀ r46, r46 = cs_r S44 1102 o → ¬ (64 : Int32) = 0 ∧ ∃ b47, r46 = some b47 ∧ cs_k S44 b47 = 23 ∧ vp_in ((cs_i S44 1104 o) - (cs_i S44 1104 o) / 64 * 64) (cs_n S44 b47) ∧ (∀ b, (some b42) = some b → cs_k S44 b = 5) ∧ ∀ S49, S49 = cs_uar S44 b47 ((cs_i S44 1104 o) - (cs_i S44 1104 o) / 64 * 64).toNatClampNeg (some b42) → cs_k S49 o = 12 ∧ ∀ S51, S51 = cs_ui S49 1104 o ((cs_i S49 1104 o) + 1) → cs_k S51 b42 = 5 ∧ ∃ n9, w_X10_come_38 post G mc ms n9 S51 0 0 o (some b42) ((cs_i S51 402 b42) + 1)
set_option maxRecDepth 100000 in
set_option maxHeartbeats 4000000 in
theorem c_X10_come {l : Launch} {P : hw_G} {G : Nat → Nat} {S : cs_S} {sz : Nat} {mc ms : Nat} {o : Nat} {p1 : Option Nat} {post : cs_S → Prop} (h : wp_X10_come post G mc ms S o p1) : Met l yX10_come [Cond.code yX10_come cX10_come 6 none] (rm_X10_come mc ms) (cs_Pc P G S sz [.ref o, va_rf p1]) (cs_Qv P (cs_A S sz) post) mc ms (cs_A S sz) := by
  refine cs_met (by decide) rfl (by cases p1 <;> exact Nat.le_of_ble_eq_true rfl) ?_
  intro p e s m below meth c ls hC hin hO hT hl
  obtain ⟨hx, hb, hml, hown, hK, -, -⟩ := id hC
  replace hl : lv_has ls 6 [(0, .ref o), (1, va_rf p1)] := by cases p1 <;> exact hl
  refine hw_aload_n (x := p1) hx hb dX10_come_0 rfl (lv_at hl 1 rfl) ?_
  refine lv_aload_n (x := o) hx hb dX10_come_1 rfl (lv_at hl 0 rfl) ?_
  obtain ⟨hk41_, h⟩ := h
  refine cs_get hx hb hK hT hown 11 hk41_ (by decide) rfl 4 (by decide) kfX10_48 (v := .int (cs_i S 1104 o)) rfl dX10_come_2 ?_
  obtain ⟨b42, rfl, h⟩ := h
  obtain ⟨hk43_, h⟩ := h
  refine cs_puti (x := (cs_i S 1104 o)) hx hb hK hT hown 4 hk43_ (by decide) rfl 5 (by decide) kfX10_85 rfl (tyX3_ok 5 (by decide)) rfl 405 rfl dX10_come_5 (fun H locs hT_ => ?_)
  replace hT := hT_
  obtain ⟨S44, eS44⟩ : ∃ z, z = cs_ui S 405 b42 (cs_i S 1104 o) := ⟨_, rfl⟩
  rw [← eS44] at hT
  replace h := h S44 eS44
  refine lv_aload_n (x := o) hx hb dX10_come_8 rfl (lv_at hl 0 rfl) ?_
  obtain ⟨hk45_, h⟩ := h
  refine cs_get hx hb hK hT hown 11 hk45_ (by decide) rfl 2 (by decide) kfX10_27 (v := va_rf (cs_r S44 1102 o)) rfl dX10_come_9 ?_
  refine hw_topr (fun r46 er46 => ?_)
  replace h := h r46 er46
  refine lv_aload_n (x := o) hx hb dX10_come_12 rfl (lv_at hl 0 rfl) ?_
  refine cs_get hx hb hK hT hown 11 hk45_ (by decide) rfl 4 (by decide) kfX10_48 (v := .int (cs_i S44 1104 o)) rfl dX10_come_13 ?_
  refine lv_bipush (v := 64) hx hb dX10_come_16 (by decide) ?_
  obtain ⟨hi, h⟩ := h
  refine lv_irem hx hb dX10_come_18 hi ?_
  refine lv_aload_n (x := b42) hx hb dX10_come_19 rfl (lv_at hl 1 rfl) ?_
  obtain ⟨b47, rfl, h⟩ := h
  obtain ⟨hk48_, h⟩ := h
  obtain ⟨hi, h⟩ := h
  obtain ⟨he, h⟩ := h
  refine cs_aast (x := (some b42)) hx hb hK hT 23 hk48_ (by decide) (ci := 4) rfl (by decide) rfl (by decide) hi he dX10_come_20 (fun H locs hT_ => ?_)
  replace hT := hT_
  obtain ⟨S49, eS49⟩ : ∃ z, z = cs_uar S44 b47 ((cs_i S44 1104 o) - (cs_i S44 1104 o) / 64 * 64).toNatClampNeg (some b42) := ⟨_, rfl⟩
  rw [← eS49] at hT
  replace h := h S49 eS49
  refine lv_aload_n (x := o) hx hb dX10_come_21 rfl (lv_at hl 0 rfl) ?_
  refine lv_dup hx hb dX10_come_22 rfl ?_
  obtain ⟨hk50_, h⟩ := h
  refine cs_get hx hb hK hT hown 11 hk50_ (by decide) rfl 4 (by decide) kfX10_48 (v := .int (cs_i S49 1104 o)) rfl dX10_come_23 ?_
  refine lv_iconst (v := 1) hx hb dX10_come_26 (by decide) ?_
  refine lv_iadd hx hb dX10_come_27 ?_
  refine cs_puti (x := ((cs_i S49 1104 o) + 1)) hx hb hK hT hown 11 hk50_ (by decide) rfl 4 (by decide) kfX10_48 rfl (tyX10_ok 4 (by decide)) rfl 1104 rfl dX10_come_28 (fun H locs hT_ => ?_)
  replace hT := hT_
  obtain ⟨S51, eS51⟩ : ∃ z, z = cs_ui S49 1104 o ((cs_i S49 1104 o) + 1) := ⟨_, rfl⟩
  rw [← eS51] at hT
  replace h := h S51 eS51
  refine lv_aload_n (x := b42) hx hb dX10_come_31 rfl (lv_at hl 1 rfl) ?_
  obtain ⟨hk52_, h⟩ := h
  refine cs_get hx hb hK hT hown 4 hk52_ (by decide) rfl 2 (by decide) kfX10_102 (v := .int (cs_i S51 402 b42)) rfl dX10_come_32 ?_
  refine lv_iconst (v := 1) hx hb dX10_come_35 (by decide) ?_
  refine lv_iadd hx hb dX10_come_36 ?_
  refine lv_istore_n (lv' := [(2, _), (0, _), (1, _)]) hx hb dX10_come_37 rfl hl (by decide) rfl (fun ls hl_ => ?_)
  replace hl := hl_
  obtain ⟨n9, h⟩ := h
  exact t_X10_come_38 hC hin hO n9 S51 0 0 o (some b42) ((cs_i S51 402 b42) + 1) _ _ _ h hT (lv_sub hl [1, 2, 0] rfl)
/-! X10_comeWaiting -/
abbrev rm_X10_comeWaiting (mc ms : Nat) : Room := { frames := 65, cells := mc, slots := ms, locals := 2522 }
def w_X10_comeWaiting_64 (post : cs_S → Prop) (G : Nat → Nat) (mc ms : Nat) (S : cs_S) (u v : Nat) (x0 : Nat) : Prop := u ≤ mc ∧ v ≤ ms ∧ cs_k S x0 = 12 ∧ ∀ S17, S17 = cs_ur S 1111 x0 none → post S17
section
variable {p : Program} {l : Launch} {e : Env} {s : State} {m : MethodId} {args : Array Value} {below : List Frame} {meth : Method} {c : Code} {P : hw_G} {G : Nat → Nat} {A : Nat → Prop}
set_option maxRecDepth 100000 in
set_option maxHeartbeats 4000000 in
theorem t_X10_comeWaiting_64 {post : cs_S → Prop} {mc ms : Nat} (hC : rf_C P RX10 p s m meth c cX10_comeWaiting 3 none) (hin : meth.name = yX10_comeWaiting.name) (hO : cs_O G A s s.heap) (S : cs_S) (u v : Nat) (x0 : Nat) (H : Heap) (locs : List Loc) (ls : Array Slot) (h : w_X10_comeWaiting_64 post G mc ms S u v x0) (hT : cs_T P s A S H locs) (hl : lv_has ls 3 [(0, .ref x0)]) : W p l e (rm_X10_comeWaiting mc ms) s m args below meth c H locs u v (MQ below (cs_Qv P A post) args s mc ms A) (F0 m 64 ls []) := by
  obtain ⟨hx, hb, hml, hown, hK, -, -⟩ := id hC
  obtain ⟨hu, hv, h⟩ := h
  refine lv_aload_n (x := x0) hx hb dX10_comeWaiting_64 rfl (lv_at hl 0 rfl) ?_
  refine hw_null hx hb dX10_comeWaiting_65 ?_
  obtain ⟨hk16_, h⟩ := h
  refine cs_putr (x := none) hx hb hK hT hown 11 hk16_ (by decide) rfl 11 (by decide) kfX10_122 rfl (tyX10_ok 11 (by decide)) rfl 1111 rfl dX10_comeWaiting_66 (fun H locs hT_ => ?_)
  replace hT := hT_
  obtain ⟨S17, eS17⟩ : ∃ z, z = cs_ur S 1111 x0 none := ⟨_, rfl⟩
  rw [← eS17] at hT
  replace h := h S17 eS17
  exact cs_vret hC hT h dX10_comeWaiting_69 hu hv
end
def w_X10_comeWaiting_58 (post : cs_S → Prop) (G : Nat → Nat) (mc ms : Nat) (k2 : cs_S → Nat → Nat → Nat → Int32 → Prop) (S : cs_S) (u v : Nat) (x0 : Nat) (x1 : Int32) : Prop := u ≤ mc ∧ v ≤ ms ∧ k2 S u v x0 (x1 + 1)
section
variable {p : Program} {l : Launch} {e : Env} {s : State} {m : MethodId} {args : Array Value} {below : List Frame} {meth : Method} {c : Code} {P : hw_G} {G : Nat → Nat} {A : Nat → Prop}
set_option maxRecDepth 100000 in
set_option maxHeartbeats 4000000 in
theorem t_X10_comeWaiting_58 {post : cs_S → Prop} {mc ms : Nat} {k2 : cs_S → Nat → Nat → Nat → Int32 → Prop} (hC : rf_C P RX10 p s m meth c cX10_comeWaiting 3 none) (hin : meth.name = yX10_comeWaiting.name) (hO : cs_O G A s s.heap) (hk2 : ∀ (S : cs_S) (u v : Nat) (x0 : Nat) (x1 : Int32) (H : Heap) (locs : List Loc) (ls : Array Slot), k2 S u v x0 x1 → cs_T P s A S H locs → lv_has ls 3 [(0, .ref x0), (1, .int x1)] → W p l e (rm_X10_comeWaiting mc ms) s m args below meth c H locs u v (MQ below (cs_Qv P A post) args s mc ms A) (F0 m 2 ls [])) (S : cs_S) (u v : Nat) (x0 : Nat) (x1 : Int32) (H : Heap) (locs : List Loc) (ls : Array Slot) (h : w_X10_comeWaiting_58 post G mc ms k2 S u v x0 x1) (hT : cs_T P s A S H locs) (hl : lv_has ls 3 [(0, .ref x0), (1, .int x1)]) : W p l e (rm_X10_comeWaiting mc ms) s m args below meth c H locs u v (MQ below (cs_Qv P A post) args s mc ms A) (F0 m 58 ls []) := by
  obtain ⟨hx, hb, hml, hown, hK, -, -⟩ := id hC
  obtain ⟨hu, hv, h⟩ := h
  refine lv_iinc (v := x1 + 1) (lv' := [(1, _), (0, _)]) hx hb dX10_comeWaiting_58 hl (k := 1) rfl rfl (by decide) rfl (fun ls hl_ => ?_)
  replace hl := hl_
  refine lv_goto (tgt := 2) hx hb dX10_comeWaiting_61 (by decide) ?_
  exact hk2 S u v x0 (x1 + 1) _ _ _ h hT (lv_sub hl [1, 0] rfl)
end
def w_X10_comeWaiting_2 (post : cs_S → Prop) (G : Nat → Nat) (mc ms : Nat) : Nat → cs_S → Nat → Nat → Nat → Int32 → Prop
  | 0, _, _, _, _, _ => False
  | n + 1, S, u, v, x0, x1 => u ≤ mc ∧ v ≤ ms ∧ (1000000 ≤ x1 → w_X10_comeWaiting_64 post G mc ms S u v x0) ∧ (¬ 1000000 ≤ x1 → cs_k S x0 = 12 ∧ ∀ r19, r19 = cs_r S 1110 x0 → (r19 = none → w_X10_comeWaiting_64 post G mc ms S u v x0) ∧ (∀ b20, r19 = some b20 → ∀ r21, r21 = cs_r S 1110 x0 → ∃ b22, r21 = some b22 ∧ cs_k S b22 = 5 ∧ ∀ r24, r24 = cs_r S 406 b22 → ∀ S25, S25 = cs_ur S 1110 x0 r24 → cs_k S25 b22 = 5 ∧ ∀ S27, S27 = cs_ur S25 406 b22 none → cs_k S27 x0 = 12 ∧ (4000 ≤ (cs_i S27 1104 x0) → w_X10_comeWaiting_58 post G mc ms (w_X10_comeWaiting_2 post G mc ms n) S27 u v x0 x1) ∧ (¬ 4000 ≤ (cs_i S27 1104 x0) → ∀ S29, S29 = cs_ui S27 1105 x0 ((cs_i S27 1105 x0) + 1) → cs_k S29 x0 = 12 ∧ ∃ m30 n30, u + m30 ≤ mc ∧ v + n30 ≤ ms ∧ wp_X10_come (fun S30 => w_X10_comeWaiting_58 post G mc ms (w_X10_comeWaiting_2 post G mc ms n) S30 (u + m30) (v + n30) x0 x1) G m30 n30 S29 x0 (some b22))))
section
variable {p : Program} {l : Launch} {e : Env} {s : State} {m : MethodId} {args : Array Value} {below : List Frame} {meth : Method} {c : Code} {P : hw_G} {G : Nat → Nat} {A : Nat → Prop}
set_option maxRecDepth 100000 in
set_option maxHeartbeats 4000000 in
theorem t_X10_comeWaiting_2 {post : cs_S → Prop} {mc ms : Nat} (hC : rf_C P RX10 p s m meth c cX10_comeWaiting 3 none) (hin : meth.name = yX10_comeWaiting.name) (hO : cs_O G A s s.heap) : ∀ (n : Nat) (S : cs_S) (u v : Nat) (x0 : Nat) (x1 : Int32) (H : Heap) (locs : List Loc) (ls : Array Slot), w_X10_comeWaiting_2 post G mc ms n S u v x0 x1 → cs_T P s A S H locs → lv_has ls 3 [(0, .ref x0), (1, .int x1)] → W p l e (rm_X10_comeWaiting mc ms) s m args below meth c H locs u v (MQ below (cs_Qv P A post) args s mc ms A) (F0 m 2 ls []) := by
  obtain ⟨hx, hb, hml, hown, hK, -, -⟩ := id hC
  intro n
  induction n with
  | zero => intro S u v x0 x1 H locs ls h; exact False.elim h
  | succ n ih =>
    intro S u v x0 x1 H locs ls h hT hl
    obtain ⟨hu, hv, h⟩ := h
    refine lv_iload_n hx hb dX10_comeWaiting_2 rfl (lv_at hl 1 rfl) ?_
    refine lv_ldc (v := 1000000) hx hb hown (hK.word kkX10_51 rfl) dX10_comeWaiting_3 ?_
    refine lv_icmp_ge (tgt := 64) hx hb dX10_comeWaiting_5 (by decide) (fun hc => ?_) (fun hc => ?_)
    · replace h := h.1 hc
      exact t_X10_comeWaiting_64 hC hin hO S u v x0 _ _ _ h hT (lv_sub hl [0] rfl)
    · replace h := h.2 hc
      refine lv_aload_n (x := x0) hx hb dX10_comeWaiting_8 rfl (lv_at hl 0 rfl) ?_
      obtain ⟨hk18_, h⟩ := h
      refine cs_get hx hb hK hT hown 11 hk18_ (by decide) rfl 10 (by decide) kfX10_113 (v := va_rf (cs_r S 1110 x0)) rfl dX10_comeWaiting_9 ?_
      refine hw_topr (fun r19 er19 => ?_)
      replace h := h r19 er19
      refine hw_ifnull (tgt := 64) hx hb dX10_comeWaiting_12 (by decide) (fun hc => ?_) (fun b20 hc => ?_)
      · replace h := h.1 hc
        subst hc
        exact t_X10_comeWaiting_64 hC hin hO S u v x0 _ _ _ h hT (lv_sub hl [0] rfl)
      · replace h := h.2 b20 hc
        subst hc
        refine lv_aload_n (x := x0) hx hb dX10_comeWaiting_15 rfl (lv_at hl 0 rfl) ?_
        refine cs_get hx hb hK hT hown 11 hk18_ (by decide) rfl 10 (by decide) kfX10_113 (v := va_rf (cs_r S 1110 x0)) rfl dX10_comeWaiting_16 ?_
        refine hw_topr (fun r21 er21 => ?_)
        replace h := h r21 er21
        refine hw_astore_n (lv' := [(2, _), (0, _), (1, _)]) (x := r21) hx hb dX10_comeWaiting_19 rfl hl (by decide) rfl (fun ls hl_ => ?_)
        replace hl := hl_
        refine lv_aload_n (x := x0) hx hb dX10_comeWaiting_20 rfl (lv_at hl 1 rfl) ?_
        refine hw_aload_n (x := r21) hx hb dX10_comeWaiting_21 rfl (lv_at hl 0 rfl) ?_
        obtain ⟨b22, rfl, h⟩ := h
        obtain ⟨hk23_, h⟩ := h
        refine cs_get hx hb hK hT hown 4 hk23_ (by decide) rfl 6 (by decide) kfX10_116 (v := va_rf (cs_r S 406 b22)) rfl dX10_comeWaiting_22 ?_
        refine hw_topr (fun r24 er24 => ?_)
        replace h := h r24 er24
        refine cs_putr (x := r24) hx hb hK hT hown 11 hk18_ (by decide) rfl 10 (by decide) kfX10_113 rfl (tyX10_ok 10 (by decide)) rfl 1110 rfl dX10_comeWaiting_25 (fun H locs hT_ => ?_)
        replace hT := hT_
        obtain ⟨S25, eS25⟩ : ∃ z, z = cs_ur S 1110 x0 r24 := ⟨_, rfl⟩
        rw [← eS25] at hT
        replace h := h S25 eS25
        refine lv_aload_n (x := b22) hx hb dX10_comeWaiting_28 rfl (lv_at hl 0 rfl) ?_
        refine hw_null hx hb dX10_comeWaiting_29 ?_
        obtain ⟨hk26_, h⟩ := h
        refine cs_putr (x := none) hx hb hK hT hown 4 hk26_ (by decide) rfl 6 (by decide) kfX10_116 rfl (tyX3_ok 6 (by decide)) rfl 406 rfl dX10_comeWaiting_30 (fun H locs hT_ => ?_)
        replace hT := hT_
        obtain ⟨S27, eS27⟩ : ∃ z, z = cs_ur S25 406 b22 none := ⟨_, rfl⟩
        rw [← eS27] at hT
        replace h := h S27 eS27
        refine lv_aload_n (x := x0) hx hb dX10_comeWaiting_33 rfl (lv_at hl 1 rfl) ?_
        obtain ⟨hk28_, h⟩ := h
        refine cs_get hx hb hK hT hown 11 hk28_ (by decide) rfl 4 (by decide) kfX10_48 (v := .int (cs_i S27 1104 x0)) rfl dX10_comeWaiting_34 ?_
        refine lv_sipush (v := 4000) hx hb dX10_comeWaiting_37 (by decide) ?_
        refine lv_icmp_ge (tgt := 58) hx hb dX10_comeWaiting_40 (by decide) (fun hc => ?_) (fun hc => ?_)
        · replace h := h.1 hc
          exact t_X10_comeWaiting_58 hC hin hO ih S27 u v x0 x1 _ _ _ h hT (lv_sub hl [1, 2] rfl)
        · replace h := h.2 hc
          refine lv_aload_n (x := x0) hx hb dX10_comeWaiting_43 rfl (lv_at hl 1 rfl) ?_
          refine lv_dup hx hb dX10_comeWaiting_44 rfl ?_
          refine cs_get hx hb hK hT hown 11 hk28_ (by decide) rfl 5 (by decide) kfX10_119 (v := .int (cs_i S27 1105 x0)) rfl dX10_comeWaiting_45 ?_
          refine lv_iconst (v := 1) hx hb dX10_comeWaiting_48 (by decide) ?_
          refine lv_iadd hx hb dX10_comeWaiting_49 ?_
          refine cs_puti (x := ((cs_i S27 1105 x0) + 1)) hx hb hK hT hown 11 hk28_ (by decide) rfl 5 (by decide) kfX10_119 rfl (tyX10_ok 5 (by decide)) rfl 1105 rfl dX10_comeWaiting_50 (fun H locs hT_ => ?_)
          replace hT := hT_
          obtain ⟨S29, eS29⟩ : ∃ z, z = cs_ui S27 1105 x0 ((cs_i S27 1105 x0) + 1) := ⟨_, rfl⟩
          rw [← eS29] at hT
          replace h := h S29 eS29
          refine lv_aload_n (x := x0) hx hb dX10_comeWaiting_53 rfl (lv_at hl 1 rfl) ?_
          refine lv_aload_n (x := b22) hx hb dX10_comeWaiting_54 rfl (lv_at hl 0 rfl) ?_
          obtain ⟨hk31_, h⟩ := h
          obtain ⟨m30, n30, hu30, hv30, h⟩ := h
          refine cs_callv (cs_runV hx hb hml hown hK hO hT 11 hk31_ (by decide) rfl (c_X10_come h) rfl rfl klX10_98 ki_X10_come ks_X10_come kn_X10 kc_X10_come 1 ⟨rfl, by decide, by decide, by decide +kernel⟩ ⟨Nat.le_of_ble_eq_true rfl, Nat.le_of_ble_eq_true rfl⟩ rfl hl.1 rfl (hw_cat8 (Nat.le_of_ble_eq_true rfl)) ⟨hu30, hv30⟩ dX10_comeWaiting_55) hT (fun S30 H locs h_ hT_ => ?_)
          replace h := h_
          replace hT := hT_
          exact t_X10_comeWaiting_58 hC hin hO ih S30 (u + m30) (v + n30) x0 x1 _ _ _ h hT (lv_sub hl [1, 2] rfl)
end
def wp_X10_comeWaiting (post : cs_S → Prop) (G : Nat → Nat) (mc ms : Nat) (S : cs_S) (o : Nat) : Prop := ∃ n9, w_X10_comeWaiting_2 post G mc ms n9 S 0 0 o 0
set_option maxRecDepth 100000 in
set_option maxHeartbeats 4000000 in
theorem c_X10_comeWaiting {l : Launch} {P : hw_G} {G : Nat → Nat} {S : cs_S} {sz : Nat} {mc ms : Nat} {o : Nat} {post : cs_S → Prop} (h : wp_X10_comeWaiting post G mc ms S o) : Met l yX10_comeWaiting [Cond.code yX10_comeWaiting cX10_comeWaiting 3 none] (rm_X10_comeWaiting mc ms) (cs_Pc P G S sz [.ref o]) (cs_Qv P (cs_A S sz) post) mc ms (cs_A S sz) := by
  refine cs_met (by decide) rfl (Nat.le_of_ble_eq_true rfl) ?_
  intro p e s m below meth c ls hC hin hO hT hl
  obtain ⟨hx, hb, hml, hown, hK, -, -⟩ := id hC
  replace hl : lv_has ls 3 [(0, .ref o)] := hl
  refine lv_iconst (v := 0) hx hb dX10_comeWaiting_0 (by decide) ?_
  refine lv_istore_n (lv' := [(1, _), (0, _)]) hx hb dX10_comeWaiting_1 rfl hl (by decide) rfl (fun ls hl_ => ?_)
  replace hl := hl_
  obtain ⟨n9, h⟩ := h
  exact t_X10_comeWaiting_2 hC hin hO n9 S 0 0 o 0 _ _ _ h hT (lv_sub hl [1, 0] rfl)
