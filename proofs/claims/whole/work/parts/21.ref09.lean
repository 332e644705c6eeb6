/-! X12_octet -/
abbrev rm_X12_octet : Room := { frames := 1, cells := 0, slots := 0, locals := 21 }
def w_X12_octet_38 (post : Int32 → rf_S → Prop) (σ : rf_S) (y0 : Int32) : Prop := post y0 σ
section
variable {p : Program} {l : Launch} {e : Env} {s : State} {m : MethodId} {args : Array Value} {below : List Frame} {meth : Method} {c : Code} {P : hw_G} {o : Nat} {ad : Nat → Nat}
set_option maxRecDepth 100000 in
set_option maxHeartbeats 4000000 in
theorem t_X12_octet_38 {post : Int32 → rf_S → Prop} (hC : rf_C P RX12 p s m meth c cX12_octet 2 (some .int)) (σ : rf_S) (y0 : Int32) (H : Heap) (locs : List Loc) (ls : Array Slot) (h : w_X12_octet_38 post σ y0) (hT : rf_T P s (rf_A o ad) o ad σ H locs) (hl : lv_has ls 2 []) : W p l e rm_X12_octet s m args below meth c H locs 0 0 (MQ below (rf_Qi P o ad post) args s 0 0 (rf_A o ad)) (F0 m 38 ls [.int y0]) := by
  obtain ⟨hx, hb, hml, hown, hK, -, -⟩ := id hC
  exact rf_iret hC hT h dX12_octet_38
end
def w_X12_octet_18 (post : Int32 → rf_S → Prop) (σ : rf_S) (x1 : Int32) (y1 : Int32) : Prop := wp_X12_throwsIf (fun r2 σ2 => (r2 = 0 → vp_in x1 (rf_n 84) ∧ w_X12_octet_38 post σ2 ((σ2.2.2.1 84 x1.toNatClampNeg) &&& 255)) ∧ (¬ r2 = 0 → w_X12_octet_38 post σ2 0)) σ y1
section
variable {p : Program} {l : Launch} {e : Env} {s : State} {m : MethodId} {args : Array Value} {below : List Frame} {meth : Method} {c : Code} {P : hw_G} {o : Nat} {ad : Nat → Nat}
set_option maxRecDepth 100000 in
set_option maxHeartbeats 4000000 in
theorem t_X12_octet_18 {post : Int32 → rf_S → Prop} (hC : rf_C P RX12 p s m meth c cX12_octet 2 (some .int)) (σ : rf_S) (x1 : Int32) (y1 : Int32) (H : Heap) (locs : List Loc) (ls : Array Slot) (h : w_X12_octet_18 post σ x1 y1) (hT : rf_T P s (rf_A o ad) o ad σ H locs) (hl : lv_has ls 2 [(0, .ref o), (1, .int x1)]) : W p l e rm_X12_octet s m args below meth c H locs 0 0 (MQ below (rf_Qi P o ad post) args s 0 0 (rf_A o ad)) (F0 m 18 ls [.int y1, .ref o]) := by
  obtain ⟨hx, hb, hml, hown, hK, -, -⟩ := id hC
  refine rf_calli (rf_runV hx hb hml hown hK hT (c_X12_throwsIf h) rfl rfl klX12_507 ki_X12_throwsIf ks_X12_throwsIf kn_X12 kc_X12_throwsIf 1 ⟨rfl, by decide, by decide, by decide +kernel⟩ ⟨by decide, by decide⟩ rfl hl.1 rfl (Nat.le_of_ble_eq_true rfl) ⟨Nat.le_refl _, Nat.le_refl _⟩ dX12_octet_18) hT (fun r2 σ2 H locs h hT => ?_)
  refine lv_if_eq (tgt := 28) hx hb dX12_octet_21 (by decide) (fun hc => ?_) (fun hc => ?_)
  · have h := h.1 hc
    refine lv_aload_n hx hb dX12_octet_28 rfl (lv_at hl 0 rfl) ?_
    refine rf_get hx hb hK hT hown 84 (by decide) kfX12_296 (v := .ref (ad 84)) rfl dX12_octet_29 ?_
    refine lv_iload_n hx hb dX12_octet_32 rfl (lv_at hl 1 rfl) ?_
    obtain ⟨hi, h⟩ := h
    refine rf_bald hx hb hK hT 84 (by decide) rfl hi (v := σ2.2.2.1 84 x1.toNatClampNeg) rfl dX12_octet_33 ?_
    refine lv_sipush (v := 255) hx hb dX12_octet_34 (by decide) ?_
    refine lv_iand hx hb dX12_octet_37 ?_
    exact t_X12_octet_38 hC σ2 ((σ2.2.2.1 84 x1.toNatClampNeg) &&& 255) _ _ _ h hT (lv_sub hl [] rfl)
  · have h := h.2 hc
    refine lv_iconst (v := 0) hx hb dX12_octet_24 (by decide) ?_
    refine lv_goto (tgt := 38) hx hb dX12_octet_25 (by decide) ?_
    exact t_X12_octet_38 hC σ2 0 _ _ _ h hT (lv_sub hl [] rfl)
end
def w_X12_octet_13 (post : Int32 → rf_S → Prop) (σ : rf_S) (x1 : Int32) : Prop := w_X12_octet_18 post σ x1 1
section
variable {p : Program} {l : Launch} {e : Env} {s : State} {m : MethodId} {args : Array Value} {below : List Frame} {meth : Method} {c : Code} {P : hw_G} {o : Nat} {ad : Nat → Nat}
set_option maxRecDepth 100000 in
set_option maxHeartbeats 4000000 in
theorem t_X12_octet_13 {post : Int32 → rf_S → Prop} (hC : rf_C P RX12 p s m meth c cX12_octet 2 (some .int)) (σ : rf_S) (x1 : Int32) (H : Heap) (locs : List Loc) (ls : Array Slot) (h : w_X12_octet_13 post σ x1) (hT : rf_T P s (rf_A o ad) o ad σ H locs) (hl : lv_has ls 2 [(0, .ref o), (1, .int x1)]) : W p l e rm_X12_octet s m args below meth c H locs 0 0 (MQ below (rf_Qi P o ad post) args s 0 0 (rf_A o ad)) (F0 m 13 ls [.ref o]) := by
  obtain ⟨hx, hb, hml, hown, hK, -, -⟩ := id hC
  refine lv_iconst (v := 1) hx hb dX12_octet_13 (by decide) ?_
  refine lv_goto (tgt := 18) hx hb dX12_octet_14 (by decide) ?_
  exact t_X12_octet_18 hC σ x1 1 _ _ _ h hT (lv_sub hl [0, 1] rfl)
end
def wp_X12_octet (post : Int32 → rf_S → Prop) (σ : rf_S) (p1 : Int32) : Prop := (p1 < 0 → w_X12_octet_13 post σ p1) ∧ (¬ p1 < 0 → (p1 < (σ.1 85) → w_X12_octet_18 post σ p1 0) ∧ (¬ p1 < (σ.1 85) → w_X12_octet_13 post σ p1))
set_option maxRecDepth 100000 in
set_option maxHeartbeats 4000000 in
theorem c_X12_octet {l : Launch} {P : hw_G} {o : Nat} {ad : Nat → Nat} {σ : rf_S} {p1 : Int32} {post : Int32 → rf_S → Prop} (h : wp_X12_octet post σ p1) : Met l yX12_octet [Cond.code yX12_octet cX12_octet 2 (some .int)] rm_X12_octet (rf_Pc P o ad σ [.ref o, .int p1]) (rf_Qi P o ad post) 0 0 (rf_A o ad) := by
  refine rf_met (by decide) rfl (Nat.le_of_ble_eq_true rfl) ?_
  intro p e s m below meth c ls hC hT hl
  obtain ⟨hx, hb, hml, hown, hK, -, -⟩ := id hC
  have hl : lv_has ls 2 [(0, .ref o), (1, .int p1)] := hl
  refine lv_aload_n hx hb dX12_octet_0 rfl (lv_at hl 0 rfl) ?_
  refine lv_iload_n hx hb dX12_octet_1 rfl (lv_at hl 1 rfl) ?_
  refine lv_if_lt (tgt := 13) hx hb dX12_octet_2 (by decide) (fun hc => ?_) (fun hc => ?_)
  · have h := h.1 hc
    exact t_X12_octet_13 hC σ p1 _ _ _ h hT (lv_sub hl [0, 1] rfl)
  · have h := h.2 hc
    refine lv_iload_n hx hb dX12_octet_5 rfl (lv_at hl 1 rfl) ?_
    refine lv_aload_n hx hb dX12_octet_6 rfl (lv_at hl 0 rfl) ?_
    refine rf_get hx hb hK hT hown 85 (by decide) kfX12_504 (v := .int (σ.1 85)) rfl dX12_octet_7 ?_
    refine lv_icmp_lt (tgt := 17) hx hb dX12_octet_10 (by decide) (fun hc => ?_) (fun hc => ?_)
    · have h := h.1 hc
      refine lv_iconst (v := 0) hx hb dX12_octet_17 (by decide) ?_
      exact t_X12_octet_18 hC σ p1 0 _ _ _ h hT (lv_sub hl [0, 1] rfl)
    · have h := h.2 hc
      exact t_X12_octet_13 hC σ p1 _ _ _ h hT (lv_sub hl [0, 1] rfl)

