/-! X12_thrown -/
abbrev rm_X12_thrown : Room := { frames := 0, cells := 0, slots := 0, locals := 0 }
def wp_X12_thrown (post : Int32 → rf_S → Prop) (σ : rf_S)  : Prop := post (σ.1 0) σ
set_option maxRecDepth 100000 in
set_option maxHeartbeats 4000000 in
theorem c_X12_thrown {l : Launch} {P : hw_G} {o : Nat} {ad : Nat → Nat} {σ : rf_S}  {post : Int32 → rf_S → Prop} (h : wp_X12_thrown post σ ) : Met l yX12_thrown [Cond.code yX12_thrown cX12_thrown 1 (some .int)] rm_X12_thrown (rf_Pc P o ad σ [.ref o]) (rf_Qi P o ad post) 0 0 (rf_A o ad) := by
  refine rf_met (by decide) rfl (Nat.le_of_ble_eq_true rfl) ?_
  intro p e s m below meth c ls hC hT hl
  obtain ⟨hx, hb, hml, hown, hK, -, -⟩ := id hC
  have hl : lv_has ls 1 [(0, .ref o)] := hl
  refine lv_aload_n hx hb dX12_thrown_0 rfl (lv_at hl 0 rfl) ?_
  refine rf_get hx hb hK hT hown 0 (by decide) kfX12_3 (v := .int (σ.1 0)) rfl dX12_thrown_1 ?_
  exact rf_iret hC hT h dX12_thrown_4
/-! X12_throwsIf -/
abbrev rm_X12_throwsIf : Room := { frames := 0, cells := 0, slots := 0, locals := 0 }
def w_X12_throwsIf_10 (post : Int32 → rf_S → Prop) (σ : rf_S) (x1 : Int32) (y1 : Int32) : Prop := narrow .boolean (.int x1) = .int x1 ∧ post x1 (rf_ui σ 0 y1)
section
variable {p : Program} {l : Launch} {e : Env} {s : State} {m : MethodId} {args : Array Value} {below : List Frame} {meth : Method} {c : Code} {P : hw_G} {o : Nat} {ad : Nat → Nat}
set_option maxRecDepth 100000 in
set_option maxHeartbeats 4000000 in
theorem t_X12_throwsIf_10 {post : Int32 → rf_S → Prop} (hC : rf_C P RX12 p s m meth c cX12_throwsIf 2 (some .boolean)) (σ : rf_S) (x1 : Int32) (y1 : Int32) (H : Heap) (locs : List Loc) (ls : Array Slot) (h : w_X12_throwsIf_10 post σ x1 y1) (hT : rf_T P s (rf_A o ad) o ad σ H locs) (hl : lv_has ls 2 [(1, .int x1)]) : W p l e rm_X12_throwsIf s m args below meth c H locs 0 0 (MQ below (rf_Qi P o ad post) args s 0 0 (rf_A o ad)) (F0 m 10 ls [.int y1, .ref o]) := by
  obtain ⟨hx, hb, hml, hown, hK, -, -⟩ := id hC
  refine rf_puti hx hb hK hT hown 0 (by decide) kfX12_3 rfl rfl dX12_throwsIf_10 (fun H locs hT => ?_)
  refine lv_iload_n hx hb dX12_throwsIf_13 rfl (lv_at hl 0 rfl) ?_
  exact rf_zret hC hT h.1 h.2 dX12_throwsIf_14
end
def wp_X12_throwsIf (post : Int32 → rf_S → Prop) (σ : rf_S) (p1 : Int32) : Prop := (p1 = 0 → w_X12_throwsIf_10 post σ p1 0) ∧ (¬ p1 = 0 → w_X12_throwsIf_10 post σ p1 1)
set_option maxRecDepth 100000 in
set_option maxHeartbeats 4000000 in
theorem c_X12_throwsIf {l : Launch} {P : hw_G} {o : Nat} {ad : Nat → Nat} {σ : rf_S} {p1 : Int32} {post : Int32 → rf_S → Prop} (h : wp_X12_throwsIf post σ p1) : Met l yX12_throwsIf [Cond.code yX12_throwsIf cX12_throwsIf 2 (some .boolean)] rm_X12_throwsIf (rf_Pc P o ad σ [.ref o, .int p1]) (rf_Qi P o ad post) 0 0 (rf_A o ad) := by
  refine rf_met (by decide) rfl (Nat.le_of_ble_eq_true rfl) ?_
  intro p e s m below meth c ls hC hT hl
  obtain ⟨hx, hb, hml, hown, hK, -, -⟩ := id hC
  have hl : lv_has ls 2 [(0, .ref o), (1, .int p1)] := hl
  refine lv_aload_n hx hb dX12_throwsIf_0 rfl (lv_at hl 0 rfl) ?_
  refine lv_iload_n hx hb dX12_throwsIf_1 rfl (lv_at hl 1 rfl) ?_
  refine lv_if_eq (tgt := 9) hx hb dX12_throwsIf_2 (by decide) (fun hc => ?_) (fun hc => ?_)
  · have h := h.1 hc
    refine lv_iconst (v := 0) hx hb dX12_throwsIf_9 (by decide) ?_
    exact t_X12_throwsIf_10 hC σ p1 0 _ _ _ h hT (lv_sub hl [1] rfl)
  · have h := h.2 hc
    refine lv_iconst (v := 1) hx hb dX12_throwsIf_5 (by decide) ?_
    refine lv_goto (tgt := 10) hx hb dX12_throwsIf_6 (by decide) ?_
    exact t_X12_throwsIf_10 hC σ p1 1 _ _ _ h hT (lv_sub hl [1] rfl)
/-! X12_four -/
abbrev rm_X12_four : Room := { frames := 0, cells := 0, slots := 0, locals := 0 }
def w_X12_four_3 (post : rf_S → Prop) : Nat → rf_S → Int32 → Int32 → Prop
  | 0, _, _, _ => False
  | n + 1, σ, x1, x2 => (x2 < 0 → post σ) ∧ (¬ x2 < 0 → vp_in (σ.1 2) (rf_n 1) ∧ w_X12_four_3 post n (rf_ui (rf_ua σ 1 (σ.1 2).toNatClampNeg (vp_nar .byte ((x1 >>> (x2 &&& 31)).toInt8.toInt32))) 2 ((σ.1 2) + 1)) x1 (x2 + (-8)))
section
variable {p : Program} {l : Launch} {e : Env} {s : State} {m : MethodId} {args : Array Value} {below : List Frame} {meth : Method} {c : Code} {P : hw_G} {o : Nat} {ad : Nat → Nat}
set_option maxRecDepth 100000 in
set_option maxHeartbeats 4000000 in
theorem t_X12_four_3 {post : rf_S → Prop} (hC : rf_C P RX12 p s m meth c cX12_four 3 none) : ∀ (n : Nat) (σ : rf_S) (x1 : Int32) (x2 : Int32) (H : Heap) (locs : List Loc) (ls : Array Slot), w_X12_four_3 post n σ x1 x2 → rf_T P s (rf_A o ad) o ad σ H locs → lv_has ls 3 [(0, .ref o), (1, .int x1), (2, .int x2)] → W p l e rm_X12_four s m args below meth c H locs 0 0 (MQ below (rf_Qv P o ad post) args s 0 0 (rf_A o ad)) (F0 m 3 ls []) := by
  obtain ⟨hx, hb, hml, hown, hK, -, -⟩ := id hC
  intro n
  induction n with
  | zero => intro σ x1 x2 H locs ls h; exact False.elim h
  | succ n ih =>
    intro σ x1 x2 H locs ls h hT hl
    refine lv_iload_n hx hb dX12_four_3 rfl (lv_at hl 2 rfl) ?_
    refine lv_if_lt (tgt := 36) hx hb dX12_four_4 (by decide) (fun hc => ?_) (fun hc => ?_)
    · have h := h.1 hc
      exact rf_vret hC hT h dX12_four_36
    · have h := h.2 hc
      refine lv_aload_n hx hb dX12_four_7 rfl (lv_at hl 0 rfl) ?_
      refine rf_get hx hb hK hT hown 1 (by decide) kfX12_14 (v := .ref (ad 1)) rfl dX12_four_8 ?_
      refine lv_aload_n hx hb dX12_four_11 rfl (lv_at hl 0 rfl) ?_
      refine rf_get hx hb hK hT hown 2 (by decide) kfX12_7 (v := .int (σ.1 2)) rfl dX12_four_12 ?_
      refine lv_iload_n hx hb dX12_four_15 rfl (lv_at hl 1 rfl) ?_
      refine lv_iload_n hx hb dX12_four_16 rfl (lv_at hl 2 rfl) ?_
      refine lv_ishr hx hb dX12_four_17 ?_
      refine lv_i2b (v := (x1 >>> (x2 &&& 31)).toInt8.toInt32) hx hb dX12_four_18 rfl ?_
      obtain ⟨hi, h⟩ := h
      refine rf_bast hx hb hK hT 1 (by decide) rfl hi dX12_four_19 (fun H locs hT => ?_)
      refine lv_aload_n hx hb dX12_four_20 rfl (lv_at hl 0 rfl) ?_
      refine lv_dup hx hb dX12_four_21 rfl ?_
      refine rf_get hx hb hK hT hown 2 (by decide) kfX12_7 (v := .int (σ.1 2)) rfl dX12_four_22 ?_
      refine lv_iconst (v := 1) hx hb dX12_four_25 (by decide) ?_
      refine lv_iadd hx hb dX12_four_26 ?_
      refine rf_puti hx hb hK hT hown 2 (by decide) kfX12_7 rfl rfl dX12_four_27 (fun H locs hT => ?_)
      refine lv_iinc (v := x2 + (-8)) (lv' := [(2, _), (0, _), (1, _)]) hx hb dX12_four_30 hl (k := 2) rfl rfl (by decide) rfl (fun ls hl => ?_)
      refine lv_goto (tgt := 3) hx hb dX12_four_33 (by decide) ?_
      exact ih (rf_ui (rf_ua σ 1 (σ.1 2).toNatClampNeg (vp_nar .byte ((x1 >>> (x2 &&& 31)).toInt8.toInt32))) 2 ((σ.1 2) + 1)) x1 (x2 + (-8)) _ _ _ h hT (lv_sub hl [1, 2, 0] rfl)
end
def wp_X12_four (post : rf_S → Prop) (σ : rf_S) (p1 : Int32) : Prop := ∃ n9, w_X12_four_3 post n9 σ p1 24
set_option maxRecDepth 100000 in
set_option maxHeartbeats 4000000 in
theorem c_X12_four {l : Launch} {P : hw_G} {o : Nat} {ad : Nat → Nat} {σ : rf_S} {p1 : Int32} {post : rf_S → Prop} (h : wp_X12_four post σ p1) : Met l yX12_four [Cond.code yX12_four cX12_four 3 none] rm_X12_four (rf_Pc P o ad σ [.ref o, .int p1]) (rf_Qv P o ad post) 0 0 (rf_A o ad) := by
  refine rf_met (by decide) rfl (Nat.le_of_ble_eq_true rfl) ?_
  intro p e s m below meth c ls hC hT hl
  obtain ⟨hx, hb, hml, hown, hK, -, -⟩ := id hC
  have hl : lv_has ls 3 [(0, .ref o), (1, .int p1)] := hl
  refine lv_bipush (v := 24) hx hb dX12_four_0 (by decide) ?_
  refine lv_istore_n (lv' := [(2, _), (0, _), (1, _)]) hx hb dX12_four_2 rfl hl (by decide) rfl (fun ls hl => ?_)
  obtain ⟨n9, h⟩ := h
  exact t_X12_four_3 hC n9 σ p1 24 _ _ _ h hT (lv_sub hl [1, 2, 0] rfl)
/-! X12_feed -/
abbrev rm_X12_feed : Room := { frames := 1, cells := 0, slots := 0, locals := 22 }
def wp_X12_feed (post : Int32 → rf_S → Prop) (σ : rf_S) (p1 : Int32) (p2 : Int32) (p3 : Int32) (p4 : Int32) (p5 : Int32) : Prop := (((σ.1 2) + 20) ≤ 2100 → wp_X12_four (fun σ6 => wp_X12_four (fun σ7 => wp_X12_four (fun σ8 => wp_X12_four (fun σ9 => wp_X12_four (fun σ10 => post (σ10.1 2) σ10) σ9 p5) σ8 p4) σ7 p3) σ6 p2) (rf_ui σ 0 0) p1) ∧ (¬ ((σ.1 2) + 20) ≤ 2100 → post ((-1)) (rf_ui σ 0 0))
set_option maxRecDepth 100000 in
set_option maxHeartbeats 4000000 in
theorem c_X12_feed {l : Launch} {P : hw_G} {o : Nat} {ad : Nat → Nat} {σ : rf_S} {p1 : Int32} {p2 : Int32} {p3 : Int32} {p4 : Int32} {p5 : Int32} {post : Int32 → rf_S → Prop} (h : wp_X12_feed post σ p1 p2 p3 p4 p5) : Met l yX12_feed [Cond.code yX12_feed cX12_feed 6 (some .int)] rm_X12_feed (rf_Pc P o ad σ [.ref o, .int p1, .int p2, .int p3, .int p4, .int p5]) (rf_Qi P o ad post) 0 0 (rf_A o ad) := by
  refine rf_met (by decide) rfl (Nat.le_of_ble_eq_true rfl) ?_
  intro p e s m below meth c ls hC hT hl
  obtain ⟨hx, hb, hml, hown, hK, -, -⟩ := id hC
  have hl : lv_has ls 6 [(0, .ref o), (1, .int p1), (2, .int p2), (3, .int p3), (4, .int p4), (5, .int p5)] := hl
  refine lv_aload_n hx hb dX12_feed_0 rfl (lv_at hl 0 rfl) ?_
  refine lv_iconst (v := 0) hx hb dX12_feed_1 (by decide) ?_
  refine rf_puti hx hb hK hT hown 0 (by decide) kfX12_3 rfl rfl dX12_feed_2 (fun H locs hT => ?_)
  refine lv_aload_n hx hb dX12_feed_5 rfl (lv_at hl 0 rfl) ?_
  refine rf_get hx hb hK hT hown 2 (by decide) kfX12_7 (v := .int (σ.1 2)) rfl dX12_feed_6 ?_
  refine lv_bipush (v := 20) hx hb dX12_feed_9 (by decide) ?_
  refine lv_iadd hx hb dX12_feed_11 ?_
  refine lv_sipush (v := 2100) hx hb dX12_feed_12 (by decide) ?_
  refine lv_icmp_le (tgt := 20) hx hb dX12_feed_15 (by decide) (fun hc => ?_) (fun hc => ?_)
  · have h := h.1 hc
    refine lv_aload_n hx hb dX12_feed_20 rfl (lv_at hl 0 rfl) ?_
    refine lv_iload_n hx hb dX12_feed_21 rfl (lv_at hl 1 rfl) ?_
    refine rf_callv (rf_runV hx hb hml hown hK hT (c_X12_four h) rfl rfl klX12_10 ki_X12_four ks_X12_four kn_X12 kc_X12_four 1 ⟨rfl, by decide, by decide, by decide +kernel⟩ ⟨by decide, by decide⟩ rfl hl.1 rfl (Nat.le_of_ble_eq_true rfl) ⟨Nat.le_refl _, Nat.le_refl _⟩ dX12_feed_22) hT (fun σ6 H locs h hT => ?_)
    refine lv_aload_n hx hb dX12_feed_25 rfl (lv_at hl 0 rfl) ?_
    refine lv_iload_n hx hb dX12_feed_26 rfl (lv_at hl 2 rfl) ?_
    refine rf_callv (rf_runV hx hb hml hown hK hT (c_X12_four h) rfl rfl klX12_10 ki_X12_four ks_X12_four kn_X12 kc_X12_four 1 ⟨rfl, by decide, by decide, by decide +kernel⟩ ⟨by decide, by decide⟩ rfl hl.1 rfl (Nat.le_of_ble_eq_true rfl) ⟨Nat.le_refl _, Nat.le_refl _⟩ dX12_feed_27) hT (fun σ7 H locs h hT => ?_)
    refine lv_aload_n hx hb dX12_feed_30 rfl (lv_at hl 0 rfl) ?_
    refine lv_iload_n hx hb dX12_feed_31 rfl (lv_at hl 3 rfl) ?_
    refine rf_callv (rf_runV hx hb hml hown hK hT (c_X12_four h) rfl rfl klX12_10 ki_X12_four ks_X12_four kn_X12 kc_X12_four 1 ⟨rfl, by decide, by decide, by decide +kernel⟩ ⟨by decide, by decide⟩ rfl hl.1 rfl (Nat.le_of_ble_eq_true rfl) ⟨Nat.le_refl _, Nat.le_refl _⟩ dX12_feed_32) hT (fun σ8 H locs h hT => ?_)
    refine lv_aload_n hx hb dX12_feed_35 rfl (lv_at hl 0 rfl) ?_
    refine lv_iload hx hb dX12_feed_36 (lv_at hl 4 rfl) ?_
    refine rf_callv (rf_runV hx hb hml hown hK hT (c_X12_four h) rfl rfl klX12_10 ki_X12_four ks_X12_four kn_X12 kc_X12_four 1 ⟨rfl, by decide, by decide, by decide +kernel⟩ ⟨by decide, by decide⟩ rfl hl.1 rfl (Nat.le_of_ble_eq_true rfl) ⟨Nat.le_refl _, Nat.le_refl _⟩ dX12_feed_38) hT (fun σ9 H locs h hT => ?_)
    refine lv_aload_n hx hb dX12_feed_41 rfl (lv_at hl 0 rfl) ?_
    refine lv_iload hx hb dX12_feed_42 (lv_at hl 5 rfl) ?_
    refine rf_callv (rf_runV hx hb hml hown hK hT (c_X12_four h) rfl rfl klX12_10 ki_X12_four ks_X12_four kn_X12 kc_X12_four 1 ⟨rfl, by decide, by decide, by decide +kernel⟩ ⟨by decide, by decide⟩ rfl hl.1 rfl (Nat.le_of_ble_eq_true rfl) ⟨Nat.le_refl _, Nat.le_refl _⟩ dX12_feed_44) hT (fun σ10 H locs h hT => ?_)
    refine lv_aload_n hx hb dX12_feed_47 rfl (lv_at hl 0 rfl) ?_
    refine rf_get hx hb hK hT hown 2 (by decide) kfX12_7 (v := .int (σ10.1 2)) rfl dX12_feed_48 ?_
    exact rf_iret hC hT h dX12_feed_51
  · have h := h.2 hc
    refine lv_iconst (v := (-1)) hx hb dX12_feed_18 (by decide) ?_
    exact rf_iret hC hT h dX12_feed_19
/-! X12_end -/
abbrev rm_X12_end : Room := { frames := 0, cells := 0, slots := 0, locals := 0 }
def w_X12_end_17 (post : Int32 → rf_S → Prop) (σ : rf_S)  : Prop := post 0 σ
section
variable {p : Program} {l : Launch} {e : Env} {s : State} {m : MethodId} {args : Array Value} {below : List Frame} {meth : Method} {c : Code} {P : hw_G} {o : Nat} {ad : Nat → Nat}
set_option maxRecDepth 100000 in
set_option maxHeartbeats 4000000 in
theorem t_X12_end_17 {post : Int32 → rf_S → Prop} (hC : rf_C P RX12 p s m meth c cX12_end 2 (some .boolean)) (σ : rf_S)  (H : Heap) (locs : List Loc) (ls : Array Slot) (h : w_X12_end_17 post σ ) (hT : rf_T P s (rf_A o ad) o ad σ H locs) (hl : lv_has ls 2 []) : W p l e rm_X12_end s m args below meth c H locs 0 0 (MQ below (rf_Qi P o ad post) args s 0 0 (rf_A o ad)) (F0 m 17 ls []) := by
  obtain ⟨hx, hb, hml, hown, hK, -, -⟩ := id hC
  refine lv_iconst (v := 0) hx hb dX12_end_17 (by decide) ?_
  exact rf_zret hC hT rfl h dX12_end_18
end
def wp_X12_end (post : Int32 → rf_S → Prop) (σ : rf_S) (p1 : Int32) : Prop := (p1 < 0 → w_X12_end_17 post (rf_ui σ 0 0)) ∧ (¬ p1 < 0 → (p1 ≤ (σ.1 2) → post 1 (rf_ui (rf_ui σ 0 0) 2 p1)) ∧ (¬ p1 ≤ (σ.1 2) → w_X12_end_17 post (rf_ui σ 0 0)))
set_option maxRecDepth 100000 in
set_option maxHeartbeats 4000000 in
theorem c_X12_end {l : Launch} {P : hw_G} {o : Nat} {ad : Nat → Nat} {σ : rf_S} {p1 : Int32} {post : Int32 → rf_S → Prop} (h : wp_X12_end post σ p1) : Met l yX12_end [Cond.code yX12_end cX12_end 2 (some .boolean)] rm_X12_end (rf_Pc P o ad σ [.ref o, .int p1]) (rf_Qi P o ad post) 0 0 (rf_A o ad) := by
  refine rf_met (by decide) rfl (Nat.le_of_ble_eq_true rfl) ?_
  intro p e s m below meth c ls hC hT hl
  obtain ⟨hx, hb, hml, hown, hK, -, -⟩ := id hC
  have hl : lv_has ls 2 [(0, .ref o), (1, .int p1)] := hl
  refine lv_aload_n hx hb dX12_end_0 rfl (lv_at hl 0 rfl) ?_
  refine lv_iconst (v := 0) hx hb dX12_end_1 (by decide) ?_
  refine rf_puti hx hb hK hT hown 0 (by decide) kfX12_3 rfl rfl dX12_end_2 (fun H locs hT => ?_)
  refine lv_iload_n hx hb dX12_end_5 rfl (lv_at hl 1 rfl) ?_
  refine lv_if_lt (tgt := 17) hx hb dX12_end_6 (by decide) (fun hc => ?_) (fun hc => ?_)
  · have h := h.1 hc
    exact t_X12_end_17 hC (rf_ui σ 0 0) _ _ _ h hT (lv_sub hl [] rfl)
  · have h := h.2 hc
    refine lv_iload_n hx hb dX12_end_9 rfl (lv_at hl 1 rfl) ?_
    refine lv_aload_n hx hb dX12_end_10 rfl (lv_at hl 0 rfl) ?_
    refine rf_get hx hb hK hT hown 2 (by decide) kfX12_7 (v := .int (σ.1 2)) rfl dX12_end_11 ?_
    refine lv_icmp_le (tgt := 19) hx hb dX12_end_14 (by decide) (fun hc => ?_) (fun hc => ?_)
    · have h := h.1 hc
      refine lv_aload_n hx hb dX12_end_19 rfl (lv_at hl 0 rfl) ?_
      refine lv_iload_n hx hb dX12_end_20 rfl (lv_at hl 1 rfl) ?_
      refine rf_puti hx hb hK hT hown 2 (by decide) kfX12_7 rfl rfl dX12_end_21 (fun H locs hT => ?_)
      refine lv_iconst (v := 1) hx hb dX12_end_24 (by decide) ?_
      exact rf_zret hC hT rfl h dX12_end_25
    · have h := h.2 hc
      exact t_X12_end_17 hC (rf_ui σ 0 0) _ _ _ h hT (lv_sub hl [] rfl)
/-! X12_wrong -/
abbrev rm_X12_wrong : Room := { frames := 0, cells := 0, slots := 0, locals := 0 }
def wp_X12_wrong (post : Int32 → rf_S → Prop) (σ : rf_S) (p1 : Int32) (p2 : Int32) : Prop := post 0 (rf_ui (rf_ui σ 5 p1) 6 p2)
set_option maxRecDepth 100000 in
set_option maxHeartbeats 4000000 in
theorem c_X12_wrong {l : Launch} {P : hw_G} {o : Nat} {ad : Nat → Nat} {σ : rf_S} {p1 : Int32} {p2 : Int32} {post : Int32 → rf_S → Prop} (h : wp_X12_wrong post σ p1 p2) : Met l yX12_wrong [Cond.code yX12_wrong cX12_wrong 3 (some .boolean)] rm_X12_wrong (rf_Pc P o ad σ [.ref o, .int p1, .int p2]) (rf_Qi P o ad post) 0 0 (rf_A o ad) := by
  refine rf_met (by decide) rfl (Nat.le_of_ble_eq_true rfl) ?_
  intro p e s m below meth c ls hC hT hl
  obtain ⟨hx, hb, hml, hown, hK, -, -⟩ := id hC
  have hl : lv_has ls 3 [(0, .ref o), (1, .int p1), (2, .int p2)] := hl
  refine lv_aload_n hx hb dX12_wrong_0 rfl (lv_at hl 0 rfl) ?_
  refine lv_iload_n hx hb dX12_wrong_1 rfl (lv_at hl 1 rfl) ?_
  refine rf_puti hx hb hK hT hown 5 (by decide) kfX12_18 rfl rfl dX12_wrong_2 (fun H locs hT => ?_)
  refine lv_aload_n hx hb dX12_wrong_5 rfl (lv_at hl 0 rfl) ?_
  refine lv_iload_n hx hb dX12_wrong_6 rfl (lv_at hl 2 rfl) ?_
  refine rf_puti hx hb hK hT hown 6 (by decide) kfX12_21 rfl rfl dX12_wrong_7 (fun H locs hT => ?_)
  refine lv_iconst (v := 0) hx hb dX12_wrong_10 (by decide) ?_
  exact rf_zret hC hT rfl h dX12_wrong_11
/-! X12_byteAt -/
abbrev rm_X12_byteAt : Room := { frames := 0, cells := 0, slots := 0, locals := 0 }
def w_X12_byteAt_22 (post : Int32 → rf_S → Prop) (σ : rf_S) (y0 : Int32) : Prop := post y0 σ
section
variable {p : Program} {l : Launch} {e : Env} {s : State} {m : MethodId} {args : Array Value} {below : List Frame} {meth : Method} {c : Code} {P : hw_G} {o : Nat} {ad : Nat → Nat}
set_option maxRecDepth 100000 in
set_option maxHeartbeats 4000000 in
theorem t_X12_byteAt_22 {post : Int32 → rf_S → Prop} (hC : rf_C P RX12 p s m meth c cX12_byteAt 2 (some .int)) (σ : rf_S) (y0 : Int32) (H : Heap) (locs : List Loc) (ls : Array Slot) (h : w_X12_byteAt_22 post σ y0) (hT : rf_T P s (rf_A o ad) o ad σ H locs) (hl : lv_has ls 2 []) : W p l e rm_X12_byteAt s m args below meth c H locs 0 0 (MQ below (rf_Qi P o ad post) args s 0 0 (rf_A o ad)) (F0 m 22 ls [.int y0]) := by
  obtain ⟨hx, hb, hml, hown, hK, -, -⟩ := id hC
  exact rf_iret hC hT h dX12_byteAt_22
end
def wp_X12_byteAt (post : Int32 → rf_S → Prop) (σ : rf_S) (p1 : Int32) : Prop := ((σ.1 3) ≤ p1 → w_X12_byteAt_22 post σ ((-1))) ∧ (¬ (σ.1 3) ≤ p1 → vp_in p1 (rf_n 1) ∧ w_X12_byteAt_22 post σ ((σ.2.2.1 1 p1.toNatClampNeg) &&& 255))
set_option maxRecDepth 100000 in
set_option maxHeartbeats 4000000 in
theorem c_X12_byteAt {l : Launch} {P : hw_G} {o : Nat} {ad : Nat → Nat} {σ : rf_S} {p1 : Int32} {post : Int32 → rf_S → Prop} (h : wp_X12_byteAt post σ p1) : Met l yX12_byteAt [Cond.code yX12_byteAt cX12_byteAt 2 (some .int)] rm_X12_byteAt (rf_Pc P o ad σ [.ref o, .int p1]) (rf_Qi P o ad post) 0 0 (rf_A o ad) := by
  refine rf_met (by decide) rfl (Nat.le_of_ble_eq_true rfl) ?_
  intro p e s m below meth c ls hC hT hl
  obtain ⟨hx, hb, hml, hown, hK, -, -⟩ := id hC
  have hl : lv_has ls 2 [(0, .ref o), (1, .int p1)] := hl
  refine lv_iload_n hx hb dX12_byteAt_0 rfl (lv_at hl 1 rfl) ?_
  refine lv_aload_n hx hb dX12_byteAt_1 rfl (lv_at hl 0 rfl) ?_
  refine rf_get hx hb hK hT hown 3 (by decide) kfX12_24 (v := .int (σ.1 3)) rfl dX12_byteAt_2 ?_
  refine lv_icmp_ge (tgt := 21) hx hb dX12_byteAt_5 (by decide) (fun hc => ?_) (fun hc => ?_)
  · have h := h.1 hc
    refine lv_iconst (v := (-1)) hx hb dX12_byteAt_21 (by decide) ?_
    exact t_X12_byteAt_22 hC σ ((-1)) _ _ _ h hT (lv_sub hl [] rfl)
  · have h := h.2 hc
    refine lv_aload_n hx hb dX12_byteAt_8 rfl (lv_at hl 0 rfl) ?_
    refine rf_get hx hb hK hT hown 1 (by decide) kfX12_14 (v := .ref (ad 1)) rfl dX12_byteAt_9 ?_
    refine lv_iload_n hx hb dX12_byteAt_12 rfl (lv_at hl 1 rfl) ?_
    obtain ⟨hi, h⟩ := h
    refine rf_bald hx hb hK hT 1 (by decide) rfl hi (v := σ.2.2.1 1 p1.toNatClampNeg) rfl dX12_byteAt_13 ?_
    refine lv_sipush (v := 255) hx hb dX12_byteAt_14 (by decide) ?_
    refine lv_iand hx hb dX12_byteAt_17 ?_
    refine lv_goto (tgt := 22) hx hb dX12_byteAt_18 (by decide) ?_
    exact t_X12_byteAt_22 hC σ ((σ.2.2.1 1 p1.toNatClampNeg) &&& 255) _ _ _ h hT (lv_sub hl [] rfl)
/-! X12_alike -/
abbrev rm_X12_alike : Room := { frames := 0, cells := 0, slots := 0, locals := 0 }
def w_X12_alike_30 (post : Int32 → rf_S → Prop) (σ : rf_S)  : Prop := post 0 σ
section
variable {p : Program} {l : Launch} {e : Env} {s : State} {m : MethodId} {args : Array Value} {below : List Frame} {meth : Method} {c : Code} {P : hw_G} {o : Nat} {ad : Nat → Nat}
set_option maxRecDepth 100000 in
set_option maxHeartbeats 4000000 in
theorem t_X12_alike_30 {post : Int32 → rf_S → Prop} (hC : rf_C P RX12 p s m meth c cX12_alike 4 (some .boolean)) (σ : rf_S)  (H : Heap) (locs : List Loc) (ls : Array Slot) (h : w_X12_alike_30 post σ ) (hT : rf_T P s (rf_A o ad) o ad σ H locs) (hl : lv_has ls 4 []) : W p l e rm_X12_alike s m args below meth c H locs 0 0 (MQ below (rf_Qi P o ad post) args s 0 0 (rf_A o ad)) (F0 m 30 ls []) := by
  obtain ⟨hx, hb, hml, hown, hK, -, -⟩ := id hC
  refine lv_iconst (v := 0) hx hb dX12_alike_30 (by decide) ?_
  exact rf_zret hC hT rfl h dX12_alike_31
end
def w_X12_alike_46 (post : Int32 → rf_S → Prop) : Nat → rf_S → Int32 → Int32 → Int32 → Prop
  | 0, _, _, _, _ => False
  | n + 1, σ, x1, x2, x3 => vp_in x1 (rf_n 15) ∧ ((σ.2.2.1 15 x1.toNatClampNeg) ≤ x3 → post 1 σ) ∧ (¬ (σ.2.2.1 15 x1.toNatClampNeg) ≤ x3 → vp_in x1 (rf_n 16) ∧ vp_in ((σ.2.2.1 16 x1.toNatClampNeg) + x3) (rf_n 18) ∧ vp_in x2 (rf_n 16) ∧ vp_in ((σ.2.2.1 16 x2.toNatClampNeg) + x3) (rf_n 18) ∧ ((σ.2.2.1 18 ((σ.2.2.1 16 x1.toNatClampNeg) + x3).toNatClampNeg) = (σ.2.2.1 18 ((σ.2.2.1 16 x2.toNatClampNeg) + x3).toNatClampNeg) → w_X12_alike_46 post n σ x1 x2 (x3 + 1)) ∧ (¬ (σ.2.2.1 18 ((σ.2.2.1 16 x1.toNatClampNeg) + x3).toNatClampNeg) = (σ.2.2.1 18 ((σ.2.2.1 16 x2.toNatClampNeg) + x3).toNatClampNeg) → post 0 σ))
section
variable {p : Program} {l : Launch} {e : Env} {s : State} {m : MethodId} {args : Array Value} {below : List Frame} {meth : Method} {c : Code} {P : hw_G} {o : Nat} {ad : Nat → Nat}
set_option maxRecDepth 100000 in
set_option maxHeartbeats 4000000 in
theorem t_X12_alike_46 {post : Int32 → rf_S → Prop} (hC : rf_C P RX12 p s m meth c cX12_alike 4 (some .boolean)) : ∀ (n : Nat) (σ : rf_S) (x1 : Int32) (x2 : Int32) (x3 : Int32) (H : Heap) (locs : List Loc) (ls : Array Slot), w_X12_alike_46 post n σ x1 x2 x3 → rf_T P s (rf_A o ad) o ad σ H locs → lv_has ls 4 [(0, .ref o), (1, .int x1), (2, .int x2), (3, .int x3)] → W p l e rm_X12_alike s m args below meth c H locs 0 0 (MQ below (rf_Qi P o ad post) args s 0 0 (rf_A o ad)) (F0 m 46 ls []) := by
  obtain ⟨hx, hb, hml, hown, hK, -, -⟩ := id hC
  intro n
  induction n with
  | zero => intro σ x1 x2 x3 H locs ls h; exact False.elim h
  | succ n ih =>
    intro σ x1 x2 x3 H locs ls h hT hl
    refine lv_iload_n hx hb dX12_alike_46 rfl (lv_at hl 3 rfl) ?_
    refine lv_aload_n hx hb dX12_alike_47 rfl (lv_at hl 0 rfl) ?_
    refine rf_get hx hb hK hT hown 15 (by decide) kfX12_30 (v := .ref (ad 15)) rfl dX12_alike_48 ?_
    refine lv_iload_n hx hb dX12_alike_51 rfl (lv_at hl 1 rfl) ?_
    obtain ⟨hi, h⟩ := h
    refine rf_iald hx hb hK hT 15 (by decide) rfl hi (v := σ.2.2.1 15 x1.toNatClampNeg) rfl dX12_alike_52 ?_
    refine lv_icmp_ge (tgt := 93) hx hb dX12_alike_53 (by decide) (fun hc => ?_) (fun hc => ?_)
    · have h := h.1 hc
      refine lv_iconst (v := 1) hx hb dX12_alike_93 (by decide) ?_
      exact rf_zret hC hT rfl h dX12_alike_94
    · have h := h.2 hc
      refine lv_aload_n hx hb dX12_alike_56 rfl (lv_at hl 0 rfl) ?_
      refine rf_get hx hb hK hT hown 18 (by decide) kfX12_34 (v := .ref (ad 18)) rfl dX12_alike_57 ?_
      refine lv_aload_n hx hb dX12_alike_60 rfl (lv_at hl 0 rfl) ?_
      refine rf_get hx hb hK hT hown 16 (by decide) kfX12_37 (v := .ref (ad 16)) rfl dX12_alike_61 ?_
      refine lv_iload_n hx hb dX12_alike_64 rfl (lv_at hl 1 rfl) ?_
      obtain ⟨hi, h⟩ := h
      refine rf_iald hx hb hK hT 16 (by decide) rfl hi (v := σ.2.2.1 16 x1.toNatClampNeg) rfl dX12_alike_65 ?_
      refine lv_iload_n hx hb dX12_alike_66 rfl (lv_at hl 3 rfl) ?_
      refine lv_iadd hx hb dX12_alike_67 ?_
      obtain ⟨hi, h⟩ := h
      refine rf_bald hx hb hK hT 18 (by decide) rfl hi (v := σ.2.2.1 18 ((σ.2.2.1 16 x1.toNatClampNeg) + x3).toNatClampNeg) rfl dX12_alike_68 ?_
      refine lv_aload_n hx hb dX12_alike_69 rfl (lv_at hl 0 rfl) ?_
      refine rf_get hx hb hK hT hown 18 (by decide) kfX12_34 (v := .ref (ad 18)) rfl dX12_alike_70 ?_
      refine lv_aload_n hx hb dX12_alike_73 rfl (lv_at hl 0 rfl) ?_
      refine rf_get hx hb hK hT hown 16 (by decide) kfX12_37 (v := .ref (ad 16)) rfl dX12_alike_74 ?_
      refine lv_iload_n hx hb dX12_alike_77 rfl (lv_at hl 2 rfl) ?_
      obtain ⟨hi, h⟩ := h
      refine rf_iald hx hb hK hT 16 (by decide) rfl hi (v := σ.2.2.1 16 x2.toNatClampNeg) rfl dX12_alike_78 ?_
      refine lv_iload_n hx hb dX12_alike_79 rfl (lv_at hl 3 rfl) ?_
      refine lv_iadd hx hb dX12_alike_80 ?_
      obtain ⟨hi, h⟩ := h
      refine rf_bald hx hb hK hT 18 (by decide) rfl hi (v := σ.2.2.1 18 ((σ.2.2.1 16 x2.toNatClampNeg) + x3).toNatClampNeg) rfl dX12_alike_81 ?_
      refine lv_icmp_eq (tgt := 87) hx hb dX12_alike_82 (by decide) (fun hc => ?_) (fun hc => ?_)
      · have h := h.1 hc
        refine lv_iinc (v := x3 + 1) (lv' := [(3, _), (0, _), (1, _), (2, _)]) hx hb dX12_alike_87 hl (k := 3) rfl rfl (by decide) rfl (fun ls hl => ?_)
        refine lv_goto (tgt := 46) hx hb dX12_alike_90 (by decide) ?_
        exact ih σ x1 x2 (x3 + 1) _ _ _ h hT (lv_sub hl [1, 2, 3, 0] rfl)
      · have h := h.2 hc
        refine lv_iconst (v := 0) hx hb dX12_alike_85 (by decide) ?_
        exact rf_zret hC hT rfl h dX12_alike_86
end
def wp_X12_alike (post : Int32 → rf_S → Prop) (σ : rf_S) (p1 : Int32) (p2 : Int32) : Prop := vp_in p1 (rf_n 14) ∧ vp_in p2 (rf_n 14) ∧ (¬ (σ.2.2.1 14 p1.toNatClampNeg) = (σ.2.2.1 14 p2.toNatClampNeg) → w_X12_alike_30 post σ) ∧ ((σ.2.2.1 14 p1.toNatClampNeg) = (σ.2.2.1 14 p2.toNatClampNeg) → vp_in p1 (rf_n 15) ∧ vp_in p2 (rf_n 15) ∧ ((σ.2.2.1 15 p1.toNatClampNeg) = (σ.2.2.1 15 p2.toNatClampNeg) → vp_in p1 (rf_n 14) ∧ ((σ.2.2.1 14 p1.toNatClampNeg) = 1 → ∃ n9, w_X12_alike_46 post n9 σ p1 p2 0) ∧ (¬ (σ.2.2.1 14 p1.toNatClampNeg) = 1 → post 1 σ)) ∧ (¬ (σ.2.2.1 15 p1.toNatClampNeg) = (σ.2.2.1 15 p2.toNatClampNeg) → w_X12_alike_30 post σ))
set_option maxRecDepth 100000 in
set_option maxHeartbeats 4000000 in
theorem c_X12_alike {l : Launch} {P : hw_G} {o : Nat} {ad : Nat → Nat} {σ : rf_S} {p1 : Int32} {p2 : Int32} {post : Int32 → rf_S → Prop} (h : wp_X12_alike post σ p1 p2) : Met l yX12_alike [Cond.code yX12_alike cX12_alike 4 (some .boolean)] rm_X12_alike (rf_Pc P o ad σ [.ref o, .int p1, .int p2]) (rf_Qi P o ad post) 0 0 (rf_A o ad) := by
  refine rf_met (by decide) rfl (Nat.le_of_ble_eq_true rfl) ?_
  intro p e s m below meth c ls hC hT hl
  obtain ⟨hx, hb, hml, hown, hK, -, -⟩ := id hC
  have hl : lv_has ls 4 [(0, .ref o), (1, .int p1), (2, .int p2)] := hl
  refine lv_aload_n hx hb dX12_alike_0 rfl (lv_at hl 0 rfl) ?_
  refine rf_get hx hb hK hT hown 14 (by decide) kfX12_27 (v := .ref (ad 14)) rfl dX12_alike_1 ?_
  refine lv_iload_n hx hb dX12_alike_4 rfl (lv_at hl 1 rfl) ?_
  obtain ⟨hi, h⟩ := h
  refine rf_bald hx hb hK hT 14 (by decide) rfl hi (v := σ.2.2.1 14 p1.toNatClampNeg) rfl dX12_alike_5 ?_
  refine lv_aload_n hx hb dX12_alike_6 rfl (lv_at hl 0 rfl) ?_
  refine rf_get hx hb hK hT hown 14 (by decide) kfX12_27 (v := .ref (ad 14)) rfl dX12_alike_7 ?_
  refine lv_iload_n hx hb dX12_alike_10 rfl (lv_at hl 2 rfl) ?_
  obtain ⟨hi, h⟩ := h
  refine rf_bald hx hb hK hT 14 (by decide) rfl hi (v := σ.2.2.1 14 p2.toNatClampNeg) rfl dX12_alike_11 ?_
  refine lv_icmp_ne (tgt := 30) hx hb dX12_alike_12 (by decide) (fun hc => ?_) (fun hc => ?_)
  · have h := h.1 hc
    exact t_X12_alike_30 hC σ _ _ _ h hT (lv_sub hl [] rfl)
  · have h := h.2 hc
    refine lv_aload_n hx hb dX12_alike_15 rfl (lv_at hl 0 rfl) ?_
    refine rf_get hx hb hK hT hown 15 (by decide) kfX12_30 (v := .ref (ad 15)) rfl dX12_alike_16 ?_
    refine lv_iload_n hx hb dX12_alike_19 rfl (lv_at hl 1 rfl) ?_
    obtain ⟨hi, h⟩ := h
    refine rf_iald hx hb hK hT 15 (by decide) rfl hi (v := σ.2.2.1 15 p1.toNatClampNeg) rfl dX12_alike_20 ?_
    refine lv_aload_n hx hb dX12_alike_21 rfl (lv_at hl 0 rfl) ?_
    refine rf_get hx hb hK hT hown 15 (by decide) kfX12_30 (v := .ref (ad 15)) rfl dX12_alike_22 ?_
    refine lv_iload_n hx hb dX12_alike_25 rfl (lv_at hl 2 rfl) ?_
    obtain ⟨hi, h⟩ := h
    refine rf_iald hx hb hK hT 15 (by decide) rfl hi (v := σ.2.2.1 15 p2.toNatClampNeg) rfl dX12_alike_26 ?_
    refine lv_icmp_eq (tgt := 32) hx hb dX12_alike_27 (by decide) (fun hc => ?_) (fun hc => ?_)
    · have h := h.1 hc
      refine lv_aload_n hx hb dX12_alike_32 rfl (lv_at hl 0 rfl) ?_
      refine rf_get hx hb hK hT hown 14 (by decide) kfX12_27 (v := .ref (ad 14)) rfl dX12_alike_33 ?_
      refine lv_iload_n hx hb dX12_alike_36 rfl (lv_at hl 1 rfl) ?_
      obtain ⟨hi, h⟩ := h
      refine rf_bald hx hb hK hT 14 (by decide) rfl hi (v := σ.2.2.1 14 p1.toNatClampNeg) rfl dX12_alike_37 ?_
      refine lv_iconst (v := 1) hx hb dX12_alike_38 (by decide) ?_
      refine lv_icmp_eq (tgt := 44) hx hb dX12_alike_39 (by decide) (fun hc => ?_) (fun hc => ?_)
      · have h := h.1 hc
        refine lv_iconst (v := 0) hx hb dX12_alike_44 (by decide) ?_
        refine lv_istore_n (lv' := [(3, _), (0, _), (1, _), (2, _)]) hx hb dX12_alike_45 rfl hl (by decide) rfl (fun ls hl => ?_)
        obtain ⟨n9, h⟩ := h
        exact t_X12_alike_46 hC n9 σ p1 p2 0 _ _ _ h hT (lv_sub hl [1, 2, 3, 0] rfl)
      · have h := h.2 hc
        refine lv_iconst (v := 1) hx hb dX12_alike_42 (by decide) ?_
        exact rf_zret hC hT rfl h dX12_alike_43
    · have h := h.2 hc
      exact t_X12_alike_30 hC σ _ _ _ h hT (lv_sub hl [] rfl)
/-! X12_numbered -/
abbrev rm_X12_numbered : Room := { frames := 1, cells := 0, slots := 0, locals := 23 }
def w_X12_numbered_156 (post : rf_S → Prop) (σ : rf_S) (x1 : Int32) (x3 : Int32) : Prop := vp_in x3 (rf_n 25) ∧ vp_in x1 (rf_n 17) ∧ post (rf_ua σ 17 x1.toNatClampNeg ((σ.2.2.1 25 x3.toNatClampNeg) - 1))
section
variable {p : Program} {l : Launch} {e : Env} {s : State} {m : MethodId} {args : Array Value} {below : List Frame} {meth : Method} {c : Code} {P : hw_G} {o : Nat} {ad : Nat → Nat}
set_option maxRecDepth 100000 in
set_option maxHeartbeats 4000000 in
theorem t_X12_numbered_156 {post : rf_S → Prop} (hC : rf_C P RX12 p s m meth c cX12_numbered 4 none) (σ : rf_S) (x1 : Int32) (x3 : Int32) (H : Heap) (locs : List Loc) (ls : Array Slot) (h : w_X12_numbered_156 post σ x1 x3) (hT : rf_T P s (rf_A o ad) o ad σ H locs) (hl : lv_has ls 4 [(0, .ref o), (1, .int x1), (3, .int x3)]) : W p l e rm_X12_numbered s m args below meth c H locs 0 0 (MQ below (rf_Qv P o ad post) args s 0 0 (rf_A o ad)) (F0 m 156 ls []) := by
  obtain ⟨hx, hb, hml, hown, hK, -, -⟩ := id hC
  refine lv_aload_n hx hb dX12_numbered_156 rfl (lv_at hl 0 rfl) ?_
  refine rf_get hx hb hK hT hown 17 (by decide) kfX12_55 (v := .ref (ad 17)) rfl dX12_numbered_157 ?_
  refine lv_iload_n hx hb dX12_numbered_160 rfl (lv_at hl 1 rfl) ?_
  refine lv_aload_n hx hb dX12_numbered_161 rfl (lv_at hl 0 rfl) ?_
  refine rf_get hx hb hK hT hown 25 (by decide) kfX12_42 (v := .ref (ad 25)) rfl dX12_numbered_162 ?_
  refine lv_iload_n hx hb dX12_numbered_165 rfl (lv_at hl 2 rfl) ?_
  obtain ⟨hi, h⟩ := h
  refine rf_iald hx hb hK hT 25 (by decide) rfl hi (v := σ.2.2.1 25 x3.toNatClampNeg) rfl dX12_numbered_166 ?_
  refine lv_iconst (v := 1) hx hb dX12_numbered_167 (by decide) ?_
  refine lv_isub hx hb dX12_numbered_168 ?_
  obtain ⟨hi, h⟩ := h
  refine rf_iast hx hb hK hT 17 (by decide) rfl hi dX12_numbered_169 (fun H locs hT => ?_)
  exact rf_vret hC hT h dX12_numbered_170
end
def w_X12_numbered_117 (post : rf_S → Prop) (σ : rf_S) (x1 : Int32) (x3 : Int32) : Prop := vp_in x3 (rf_n 25) ∧ (¬ (σ.2.2.1 25 x3.toNatClampNeg) = 0 → w_X12_numbered_156 post σ x1 x3) ∧ ((σ.2.2.1 25 x3.toNatClampNeg) = 0 → vp_in (σ.1 26) (rf_n 24) ∧ vp_in x3 (rf_n 25) ∧ w_X12_numbered_156 post (rf_ua (rf_ui (rf_ua σ 24 (σ.1 26).toNatClampNeg x1) 26 ((σ.1 26) + 1)) 25 x3.toNatClampNeg ((σ.1 26) + 1)) x1 x3)
section
variable {p : Program} {l : Launch} {e : Env} {s : State} {m : MethodId} {args : Array Value} {below : List Frame} {meth : Method} {c : Code} {P : hw_G} {o : Nat} {ad : Nat → Nat}
set_option maxRecDepth 100000 in
set_option maxHeartbeats 4000000 in
theorem t_X12_numbered_117 {post : rf_S → Prop} (hC : rf_C P RX12 p s m meth c cX12_numbered 4 none) (σ : rf_S) (x1 : Int32) (x3 : Int32) (H : Heap) (locs : List Loc) (ls : Array Slot) (h : w_X12_numbered_117 post σ x1 x3) (hT : rf_T P s (rf_A o ad) o ad σ H locs) (hl : lv_has ls 4 [(0, .ref o), (1, .int x1), (3, .int x3)]) : W p l e rm_X12_numbered s m args below meth c H locs 0 0 (MQ below (rf_Qv P o ad post) args s 0 0 (rf_A o ad)) (F0 m 117 ls []) := by
  obtain ⟨hx, hb, hml, hown, hK, -, -⟩ := id hC
  refine lv_aload_n hx hb dX12_numbered_117 rfl (lv_at hl 0 rfl) ?_
  refine rf_get hx hb hK hT hown 25 (by decide) kfX12_42 (v := .ref (ad 25)) rfl dX12_numbered_118 ?_
  refine lv_iload_n hx hb dX12_numbered_121 rfl (lv_at hl 2 rfl) ?_
  obtain ⟨hi, h⟩ := h
  refine rf_iald hx hb hK hT 25 (by decide) rfl hi (v := σ.2.2.1 25 x3.toNatClampNeg) rfl dX12_numbered_122 ?_
  refine lv_if_ne (tgt := 156) hx hb dX12_numbered_123 (by decide) (fun hc => ?_) (fun hc => ?_)
  · have h := h.1 hc
    exact t_X12_numbered_156 hC σ x1 x3 _ _ _ h hT (lv_sub hl [0, 1, 2] rfl)
  · have h := h.2 hc
    refine lv_aload_n hx hb dX12_numbered_126 rfl (lv_at hl 0 rfl) ?_
    refine rf_get hx hb hK hT hown 24 (by decide) kfX12_45 (v := .ref (ad 24)) rfl dX12_numbered_127 ?_
    refine lv_aload_n hx hb dX12_numbered_130 rfl (lv_at hl 0 rfl) ?_
    refine rf_get hx hb hK hT hown 26 (by decide) kfX12_52 (v := .int (σ.1 26)) rfl dX12_numbered_131 ?_
    refine lv_iload_n hx hb dX12_numbered_134 rfl (lv_at hl 1 rfl) ?_
    obtain ⟨hi, h⟩ := h
    refine rf_iast hx hb hK hT 24 (by decide) rfl hi dX12_numbered_135 (fun H locs hT => ?_)
    refine lv_aload_n hx hb dX12_numbered_136 rfl (lv_at hl 0 rfl) ?_
    refine lv_dup hx hb dX12_numbered_137 rfl ?_
    refine rf_get hx hb hK hT hown 26 (by decide) kfX12_52 (v := .int (σ.1 26)) rfl dX12_numbered_138 ?_
    refine lv_iconst (v := 1) hx hb dX12_numbered_141 (by decide) ?_
    refine lv_iadd hx hb dX12_numbered_142 ?_
    refine rf_puti hx hb hK hT hown 26 (by decide) kfX12_52 rfl rfl dX12_numbered_143 (fun H locs hT => ?_)
    refine lv_aload_n hx hb dX12_numbered_146 rfl (lv_at hl 0 rfl) ?_
    refine rf_get hx hb hK hT hown 25 (by decide) kfX12_42 (v := .ref (ad 25)) rfl dX12_numbered_147 ?_
    refine lv_iload_n hx hb dX12_numbered_150 rfl (lv_at hl 2 rfl) ?_
    refine lv_aload_n hx hb dX12_numbered_151 rfl (lv_at hl 0 rfl) ?_
    refine rf_get hx hb hK hT hown 26 (by decide) kfX12_52 (v := .int ((σ.1 26) + 1)) rfl dX12_numbered_152 ?_
    obtain ⟨hi, h⟩ := h
    refine rf_iast hx hb hK hT 25 (by decide) rfl hi dX12_numbered_155 (fun H locs hT => ?_)
    exact t_X12_numbered_156 hC (rf_ua (rf_ui (rf_ua σ 24 (σ.1 26).toNatClampNeg x1) 26 ((σ.1 26) + 1)) 25 x3.toNatClampNeg ((σ.1 26) + 1)) x1 x3 _ _ _ h hT (lv_sub hl [0, 1, 2] rfl)
end
def w_X12_numbered_77 (post : rf_S → Prop) : Nat → rf_S → Int32 → Int32 → Prop
  | 0, _, _, _ => False
  | n + 1, σ, x1, x3 => vp_in x3 (rf_n 25) ∧ ((σ.2.2.1 25 x3.toNatClampNeg) ≤ 0 → w_X12_numbered_117 post σ x1 x3) ∧ (¬ (σ.2.2.1 25 x3.toNatClampNeg) ≤ 0 → vp_in x3 (rf_n 25) ∧ vp_in ((σ.2.2.1 25 x3.toNatClampNeg) - 1) (rf_n 24) ∧ wp_X12_alike (fun r2 σ2 => (¬ r2 = 0 → w_X12_numbered_117 post σ2 x1 x3) ∧ (r2 = 0 → w_X12_numbered_77 post n σ2 x1 ((x3 + 1) &&& 65535))) σ x1 (σ.2.2.1 24 ((σ.2.2.1 25 x3.toNatClampNeg) - 1).toNatClampNeg))
section
variable {p : Program} {l : Launch} {e : Env} {s : State} {m : MethodId} {args : Array Value} {below : List Frame} {meth : Method} {c : Code} {P : hw_G} {o : Nat} {ad : Nat → Nat}
set_option maxRecDepth 100000 in
set_option maxHeartbeats 4000000 in
theorem t_X12_numbered_77 {post : rf_S → Prop} (hC : rf_C P RX12 p s m meth c cX12_numbered 4 none) : ∀ (n : Nat) (σ : rf_S) (x1 : Int32) (x3 : Int32) (H : Heap) (locs : List Loc) (ls : Array Slot), w_X12_numbered_77 post n σ x1 x3 → rf_T P s (rf_A o ad) o ad σ H locs → lv_has ls 4 [(0, .ref o), (1, .int x1), (3, .int x3)] → W p l e rm_X12_numbered s m args below meth c H locs 0 0 (MQ below (rf_Qv P o ad post) args s 0 0 (rf_A o ad)) (F0 m 77 ls []) := by
  obtain ⟨hx, hb, hml, hown, hK, -, -⟩ := id hC
  intro n
  induction n with
  | zero => intro σ x1 x3 H locs ls h; exact False.elim h
  | succ n ih =>
    intro σ x1 x3 H locs ls h hT hl
    refine lv_aload_n hx hb dX12_numbered_77 rfl (lv_at hl 0 rfl) ?_
    refine rf_get hx hb hK hT hown 25 (by decide) kfX12_42 (v := .ref (ad 25)) rfl dX12_numbered_78 ?_
    refine lv_iload_n hx hb dX12_numbered_81 rfl (lv_at hl 2 rfl) ?_
    obtain ⟨hi, h⟩ := h
    refine rf_iald hx hb hK hT 25 (by decide) rfl hi (v := σ.2.2.1 25 x3.toNatClampNeg) rfl dX12_numbered_82 ?_
    refine lv_if_le (tgt := 117) hx hb dX12_numbered_83 (by decide) (fun hc => ?_) (fun hc => ?_)
    · have h := h.1 hc
      exact t_X12_numbered_117 hC σ x1 x3 _ _ _ h hT (lv_sub hl [0, 1, 2] rfl)
    · have h := h.2 hc
      refine lv_aload_n hx hb dX12_numbered_86 rfl (lv_at hl 0 rfl) ?_
      refine lv_iload_n hx hb dX12_numbered_87 rfl (lv_at hl 1 rfl) ?_
      refine lv_aload_n hx hb dX12_numbered_88 rfl (lv_at hl 0 rfl) ?_
      refine rf_get hx hb hK hT hown 24 (by decide) kfX12_45 (v := .ref (ad 24)) rfl dX12_numbered_89 ?_
      refine lv_aload_n hx hb dX12_numbered_92 rfl (lv_at hl 0 rfl) ?_
      refine rf_get hx hb hK hT hown 25 (by decide) kfX12_42 (v := .ref (ad 25)) rfl dX12_numbered_93 ?_
      refine lv_iload_n hx hb dX12_numbered_96 rfl (lv_at hl 2 rfl) ?_
      obtain ⟨hi, h⟩ := h
      refine rf_iald hx hb hK hT 25 (by decide) rfl hi (v := σ.2.2.1 25 x3.toNatClampNeg) rfl dX12_numbered_97 ?_
      refine lv_iconst (v := 1) hx hb dX12_numbered_98 (by decide) ?_
      refine lv_isub hx hb dX12_numbered_99 ?_
      obtain ⟨hi, h⟩ := h
      refine rf_iald hx hb hK hT 24 (by decide) rfl hi (v := σ.2.2.1 24 ((σ.2.2.1 25 x3.toNatClampNeg) - 1).toNatClampNeg) rfl dX12_numbered_100 ?_
      refine rf_calli (rf_runV hx hb hml hown hK hT (c_X12_alike h) rfl rfl klX12_48 ki_X12_alike ks_X12_alike kn_X12 kc_X12_alike 2 ⟨rfl, by decide, by decide, by decide +kernel⟩ ⟨by decide, by decide⟩ rfl hl.1 rfl (Nat.le_of_ble_eq_true rfl) ⟨Nat.le_refl _, Nat.le_refl _⟩ dX12_numbered_101) hT (fun r2 σ2 H locs h hT => ?_)
      refine lv_if_ne (tgt := 117) hx hb dX12_numbered_104 (by decide) (fun hc => ?_) (fun hc => ?_)
      · have h := h.1 hc
        exact t_X12_numbered_117 hC σ2 x1 x3 _ _ _ h hT (lv_sub hl [0, 1, 2] rfl)
      · have h := h.2 hc
        refine lv_iload_n hx hb dX12_numbered_107 rfl (lv_at hl 2 rfl) ?_
        refine lv_iconst (v := 1) hx hb dX12_numbered_108 (by decide) ?_
        refine lv_iadd hx hb dX12_numbered_109 ?_
        refine lv_ldc (v := 65535) hx hb hown (hK.word kkX12_41 rfl) dX12_numbered_110 ?_
        refine lv_iand hx hb dX12_numbered_112 ?_
        refine lv_istore_n (lv' := [(3, _), (0, _), (1, _)]) hx hb dX12_numbered_113 rfl hl (by decide) rfl (fun ls hl => ?_)
        refine lv_goto (tgt := 77) hx hb dX12_numbered_114 (by decide) ?_
        exact ih σ2 x1 ((x3 + 1) &&& 65535) _ _ _ h hT (lv_sub hl [1, 2, 0] rfl)
end
def w_X12_numbered_67 (post : rf_S → Prop) (σ : rf_S) (x1 : Int32) (x2 : Int32) : Prop := ∃ n9, w_X12_numbered_77 post n9 σ x1 ((x2 ^^^ ((x2.toUInt32 >>> ((16 : Int32).toUInt32 &&& Int32.toUInt32 31)).toInt32)) &&& 65535)
section
variable {p : Program} {l : Launch} {e : Env} {s : State} {m : MethodId} {args : Array Value} {below : List Frame} {meth : Method} {c : Code} {P : hw_G} {o : Nat} {ad : Nat → Nat}
set_option maxRecDepth 100000 in
set_option maxHeartbeats 4000000 in
theorem t_X12_numbered_67 {post : rf_S → Prop} (hC : rf_C P RX12 p s m meth c cX12_numbered 4 none) (σ : rf_S) (x1 : Int32) (x2 : Int32) (H : Heap) (locs : List Loc) (ls : Array Slot) (h : w_X12_numbered_67 post σ x1 x2) (hT : rf_T P s (rf_A o ad) o ad σ H locs) (hl : lv_has ls 4 [(0, .ref o), (1, .int x1), (2, .int x2)]) : W p l e rm_X12_numbered s m args below meth c H locs 0 0 (MQ below (rf_Qv P o ad post) args s 0 0 (rf_A o ad)) (F0 m 67 ls []) := by
  obtain ⟨hx, hb, hml, hown, hK, -, -⟩ := id hC
  refine lv_iload_n hx hb dX12_numbered_67 rfl (lv_at hl 2 rfl) ?_
  refine lv_iload_n hx hb dX12_numbered_68 rfl (lv_at hl 2 rfl) ?_
  refine lv_bipush (v := 16) hx hb dX12_numbered_69 (by decide) ?_
  refine lv_iushr (v := (x2.toUInt32 >>> ((16 : Int32).toUInt32 &&& Int32.toUInt32 31)).toInt32) hx hb dX12_numbered_71 rfl ?_
  refine lv_ixor hx hb dX12_numbered_72 ?_
  refine lv_ldc (v := 65535) hx hb hown (hK.word kkX12_41 rfl) dX12_numbered_73 ?_
  refine lv_iand hx hb dX12_numbered_75 ?_
  refine lv_istore_n (lv' := [(3, _), (0, _), (1, _), (2, _)]) hx hb dX12_numbered_76 rfl hl (by decide) rfl (fun ls hl => ?_)
  obtain ⟨n9, h⟩ := h
  exact t_X12_numbered_77 hC n9 σ x1 ((x2 ^^^ ((x2.toUInt32 >>> ((16 : Int32).toUInt32 &&& Int32.toUInt32 31)).toInt32)) &&& 65535) _ _ _ h hT (lv_sub hl [1, 2, 0] rfl)
end
def w_X12_numbered_32 (post : rf_S → Prop) : Nat → rf_S → Int32 → Int32 → Int32 → Prop
  | 0, _, _, _, _ => False
  | n + 1, σ, x1, x2, x3 => vp_in x1 (rf_n 15) ∧ ((σ.2.2.1 15 x1.toNatClampNeg) ≤ x3 → w_X12_numbered_67 post σ x1 x2) ∧ (¬ (σ.2.2.1 15 x1.toNatClampNeg) ≤ x3 → vp_in x1 (rf_n 16) ∧ vp_in ((σ.2.2.1 16 x1.toNatClampNeg) + x3) (rf_n 18) ∧ w_X12_numbered_32 post n σ x1 ((31 * x2) + (σ.2.2.1 18 ((σ.2.2.1 16 x1.toNatClampNeg) + x3).toNatClampNeg)) (x3 + 1))
section
variable {p : Program} {l : Launch} {e : Env} {s : State} {m : MethodId} {args : Array Value} {below : List Frame} {meth : Method} {c : Code} {P : hw_G} {o : Nat} {ad : Nat → Nat}
set_option maxRecDepth 100000 in
set_option maxHeartbeats 4000000 in
theorem t_X12_numbered_32 {post : rf_S → Prop} (hC : rf_C P RX12 p s m meth c cX12_numbered 4 none) : ∀ (n : Nat) (σ : rf_S) (x1 : Int32) (x2 : Int32) (x3 : Int32) (H : Heap) (locs : List Loc) (ls : Array Slot), w_X12_numbered_32 post n σ x1 x2 x3 → rf_T P s (rf_A o ad) o ad σ H locs → lv_has ls 4 [(0, .ref o), (1, .int x1), (2, .int x2), (3, .int x3)] → W p l e rm_X12_numbered s m args below meth c H locs 0 0 (MQ below (rf_Qv P o ad post) args s 0 0 (rf_A o ad)) (F0 m 32 ls []) := by
  obtain ⟨hx, hb, hml, hown, hK, -, -⟩ := id hC
  intro n
  induction n with
  | zero => intro σ x1 x2 x3 H locs ls h; exact False.elim h
  | succ n ih =>
    intro σ x1 x2 x3 H locs ls h hT hl
    refine lv_iload_n hx hb dX12_numbered_32 rfl (lv_at hl 3 rfl) ?_
    refine lv_aload_n hx hb dX12_numbered_33 rfl (lv_at hl 0 rfl) ?_
    refine rf_get hx hb hK hT hown 15 (by decide) kfX12_30 (v := .ref (ad 15)) rfl dX12_numbered_34 ?_
    refine lv_iload_n hx hb dX12_numbered_37 rfl (lv_at hl 1 rfl) ?_
    obtain ⟨hi, h⟩ := h
    refine rf_iald hx hb hK hT 15 (by decide) rfl hi (v := σ.2.2.1 15 x1.toNatClampNeg) rfl dX12_numbered_38 ?_
    refine lv_icmp_ge (tgt := 67) hx hb dX12_numbered_39 (by decide) (fun hc => ?_) (fun hc => ?_)
    · have h := h.1 hc
      exact t_X12_numbered_67 hC σ x1 x2 _ _ _ h hT (lv_sub hl [0, 1, 2] rfl)
    · have h := h.2 hc
      refine lv_bipush (v := 31) hx hb dX12_numbered_42 (by decide) ?_
      refine lv_iload_n hx hb dX12_numbered_44 rfl (lv_at hl 2 rfl) ?_
      refine lv_imul hx hb dX12_numbered_45 ?_
      refine lv_aload_n hx hb dX12_numbered_46 rfl (lv_at hl 0 rfl) ?_
      refine rf_get hx hb hK hT hown 18 (by decide) kfX12_34 (v := .ref (ad 18)) rfl dX12_numbered_47 ?_
      refine lv_aload_n hx hb dX12_numbered_50 rfl (lv_at hl 0 rfl) ?_
      refine rf_get hx hb hK hT hown 16 (by decide) kfX12_37 (v := .ref (ad 16)) rfl dX12_numbered_51 ?_
      refine lv_iload_n hx hb dX12_numbered_54 rfl (lv_at hl 1 rfl) ?_
      obtain ⟨hi, h⟩ := h
      refine rf_iald hx hb hK hT 16 (by decide) rfl hi (v := σ.2.2.1 16 x1.toNatClampNeg) rfl dX12_numbered_55 ?_
      refine lv_iload_n hx hb dX12_numbered_56 rfl (lv_at hl 3 rfl) ?_
      refine lv_iadd hx hb dX12_numbered_57 ?_
      obtain ⟨hi, h⟩ := h
      refine rf_bald hx hb hK hT 18 (by decide) rfl hi (v := σ.2.2.1 18 ((σ.2.2.1 16 x1.toNatClampNeg) + x3).toNatClampNeg) rfl dX12_numbered_58 ?_
      refine lv_iadd hx hb dX12_numbered_59 ?_
      refine lv_istore_n (lv' := [(2, _), (0, _), (1, _), (3, _)]) hx hb dX12_numbered_60 rfl hl (by decide) rfl (fun ls hl => ?_)
      refine lv_iinc (v := x3 + 1) (lv' := [(3, _), (2, _), (0, _), (1, _)]) hx hb dX12_numbered_61 hl (k := 3) rfl rfl (by decide) rfl (fun ls hl => ?_)
      refine lv_goto (tgt := 32) hx hb dX12_numbered_64 (by decide) ?_
      exact ih σ x1 ((31 * x2) + (σ.2.2.1 18 ((σ.2.2.1 16 x1.toNatClampNeg) + x3).toNatClampNeg)) (x3 + 1) _ _ _ h hT (lv_sub hl [2, 3, 1, 0] rfl)
end
def wp_X12_numbered (post : rf_S → Prop) (σ : rf_S) (p1 : Int32) : Prop := vp_in p1 (rf_n 14) ∧ vp_in p1 (rf_n 15) ∧ vp_in p1 (rf_n 14) ∧ (¬ (σ.2.2.1 14 p1.toNatClampNeg) = 1 → w_X12_numbered_67 post σ p1 (((σ.2.2.1 14 p1.toNatClampNeg) * 40503) + ((σ.2.2.1 15 p1.toNatClampNeg) * 31))) ∧ ((σ.2.2.1 14 p1.toNatClampNeg) = 1 → ∃ n9, w_X12_numbered_32 post n9 σ p1 (((σ.2.2.1 14 p1.toNatClampNeg) * 40503) + ((σ.2.2.1 15 p1.toNatClampNeg) * 31)) 0)
set_option maxRecDepth 100000 in
set_option maxHeartbeats 4000000 in
theorem c_X12_numbered {l : Launch} {P : hw_G} {o : Nat} {ad : Nat → Nat} {σ : rf_S} {p1 : Int32} {post : rf_S → Prop} (h : wp_X12_numbered post σ p1) : Met l yX12_numbered [Cond.code yX12_numbered cX12_numbered 4 none] rm_X12_numbered (rf_Pc P o ad σ [.ref o, .int p1]) (rf_Qv P o ad post) 0 0 (rf_A o ad) := by
  refine rf_met (by decide) rfl (Nat.le_of_ble_eq_true rfl) ?_
  intro p e s m below meth c ls hC hT hl
  obtain ⟨hx, hb, hml, hown, hK, -, -⟩ := id hC
  have hl : lv_has ls 4 [(0, .ref o), (1, .int p1)] := hl
  refine lv_aload_n hx hb dX12_numbered_0 rfl (lv_at hl 0 rfl) ?_
  refine rf_get hx hb hK hT hown 14 (by decide) kfX12_27 (v := .ref (ad 14)) rfl dX12_numbered_1 ?_
  refine lv_iload_n hx hb dX12_numbered_4 rfl (lv_at hl 1 rfl) ?_
  obtain ⟨hi, h⟩ := h
  refine rf_bald hx hb hK hT 14 (by decide) rfl hi (v := σ.2.2.1 14 p1.toNatClampNeg) rfl dX12_numbered_5 ?_
  refine lv_ldc (v := 40503) hx hb hown (hK.word kkX12_40 rfl) dX12_numbered_6 ?_
  refine lv_imul hx hb dX12_numbered_8 ?_
  refine lv_aload_n hx hb dX12_numbered_9 rfl (lv_at hl 0 rfl) ?_
  refine rf_get hx hb hK hT hown 15 (by decide) kfX12_30 (v := .ref (ad 15)) rfl dX12_numbered_10 ?_
  refine lv_iload_n hx hb dX12_numbered_13 rfl (lv_at hl 1 rfl) ?_
  obtain ⟨hi, h⟩ := h
  refine rf_iald hx hb hK hT 15 (by decide) rfl hi (v := σ.2.2.1 15 p1.toNatClampNeg) rfl dX12_numbered_14 ?_
  refine lv_bipush (v := 31) hx hb dX12_numbered_15 (by decide) ?_
  refine lv_imul hx hb dX12_numbered_17 ?_
  refine lv_iadd hx hb dX12_numbered_18 ?_
  refine lv_istore_n (lv' := [(2, _), (0, _), (1, _)]) hx hb dX12_numbered_19 rfl hl (by decide) rfl (fun ls hl => ?_)
  refine lv_aload_n hx hb dX12_numbered_20 rfl (lv_at hl 1 rfl) ?_
  refine rf_get hx hb hK hT hown 14 (by decide) kfX12_27 (v := .ref (ad 14)) rfl dX12_numbered_21 ?_
  refine lv_iload_n hx hb dX12_numbered_24 rfl (lv_at hl 2 rfl) ?_
  obtain ⟨hi, h⟩ := h
  refine rf_bald hx hb hK hT 14 (by decide) rfl hi (v := σ.2.2.1 14 p1.toNatClampNeg) rfl dX12_numbered_25 ?_
  refine lv_iconst (v := 1) hx hb dX12_numbered_26 (by decide) ?_
  refine lv_icmp_ne (tgt := 67) hx hb dX12_numbered_27 (by decide) (fun hc => ?_) (fun hc => ?_)
  · have h := h.1 hc
    exact t_X12_numbered_67 hC σ p1 (((σ.2.2.1 14 p1.toNatClampNeg) * 40503) + ((σ.2.2.1 15 p1.toNatClampNeg) * 31)) _ _ _ h hT (lv_sub hl [1, 2, 0] rfl)
  · have h := h.2 hc
    refine lv_iconst (v := 0) hx hb dX12_numbered_30 (by decide) ?_
    refine lv_istore_n (lv' := [(3, _), (2, _), (0, _), (1, _)]) hx hb dX12_numbered_31 rfl hl (by decide) rfl (fun ls hl => ?_)
    obtain ⟨n9, h⟩ := h
    exact t_X12_numbered_32 hC n9 σ p1 (((σ.2.2.1 14 p1.toNatClampNeg) * 40503) + ((σ.2.2.1 15 p1.toNatClampNeg) * 31)) 0 _ _ _ h hT (lv_sub hl [2, 3, 1, 0] rfl)
/-! X12_emptyLog -/
abbrev rm_X12_emptyLog : Room := { frames := 0, cells := 0, slots := 0, locals := 0 }
def w_X12_emptyLog_89 (post : rf_S → Prop) : Nat → rf_S → Int32 → Prop
  | 0, _, _ => False
  | n + 1, σ, x1 => (48000 ≤ x1 → post σ) ∧ (¬ 48000 ≤ x1 → vp_in x1 (rf_n 63) ∧ vp_in x1 (rf_n 65) ∧ vp_in x1 (rf_n 66) ∧ w_X12_emptyLog_89 post n (rf_ua (rf_ua (rf_ua σ 63 x1.toNatClampNeg (vp_nar .short ((-1)))) 65 x1.toNatClampNeg ((-1))) 66 x1.toNatClampNeg (vp_nar .short 0)) (x1 + 1))
section
variable {p : Program} {l : Launch} {e : Env} {s : State} {m : MethodId} {args : Array Value} {below : List Frame} {meth : Method} {c : Code} {P : hw_G} {o : Nat} {ad : Nat → Nat}
set_option maxRecDepth 100000 in
set_option maxHeartbeats 4000000 in
theorem t_X12_emptyLog_89 {post : rf_S → Prop} (hC : rf_C P RX12 p s m meth c cX12_emptyLog 2 none) : ∀ (n : Nat) (σ : rf_S) (x1 : Int32) (H : Heap) (locs : List Loc) (ls : Array Slot), w_X12_emptyLog_89 post n σ x1 → rf_T P s (rf_A o ad) o ad σ H locs → lv_has ls 2 [(0, .ref o), (1, .int x1)] → W p l e rm_X12_emptyLog s m args below meth c H locs 0 0 (MQ below (rf_Qv P o ad post) args s 0 0 (rf_A o ad)) (F0 m 89 ls []) := by
  obtain ⟨hx, hb, hml, hown, hK, -, -⟩ := id hC
  intro n
  induction n with
  | zero => intro σ x1 H locs ls h; exact False.elim h
  | succ n ih =>
    intro σ x1 H locs ls h hT hl
    refine lv_iload_n hx hb dX12_emptyLog_89 rfl (lv_at hl 1 rfl) ?_
    refine lv_ldc (v := 48000) hx hb hown (hK.word kkX12_86 rfl) dX12_emptyLog_90 ?_
    refine lv_icmp_ge (tgt := 122) hx hb dX12_emptyLog_92 (by decide) (fun hc => ?_) (fun hc => ?_)
    · have h := h.1 hc
      exact rf_vret hC hT h dX12_emptyLog_122
    · have h := h.2 hc
      refine lv_aload_n hx hb dX12_emptyLog_95 rfl (lv_at hl 0 rfl) ?_
      refine rf_get hx hb hK hT hown 63 (by decide) kfX12_87 (v := .ref (ad 63)) rfl dX12_emptyLog_96 ?_
      refine lv_iload_n hx hb dX12_emptyLog_99 rfl (lv_at hl 1 rfl) ?_
      refine lv_iconst (v := (-1)) hx hb dX12_emptyLog_100 (by decide) ?_
      obtain ⟨hi, h⟩ := h
      refine rf_sast hx hb hK hT 63 (by decide) rfl hi dX12_emptyLog_101 (fun H locs hT => ?_)
      refine lv_aload_n hx hb dX12_emptyLog_102 rfl (lv_at hl 0 rfl) ?_
      refine rf_get hx hb hK hT hown 65 (by decide) kfX12_91 (v := .ref (ad 65)) rfl dX12_emptyLog_103 ?_
      refine lv_iload_n hx hb dX12_emptyLog_106 rfl (lv_at hl 1 rfl) ?_
      refine lv_iconst (v := (-1)) hx hb dX12_emptyLog_107 (by decide) ?_
      obtain ⟨hi, h⟩ := h
      refine rf_iast hx hb hK hT 65 (by decide) rfl hi dX12_emptyLog_108 (fun H locs hT => ?_)
      refine lv_aload_n hx hb dX12_emptyLog_109 rfl (lv_at hl 0 rfl) ?_
      refine rf_get hx hb hK hT hown 66 (by decide) kfX12_94 (v := .ref (ad 66)) rfl dX12_emptyLog_110 ?_
      refine lv_iload_n hx hb dX12_emptyLog_113 rfl (lv_at hl 1 rfl) ?_
      refine lv_iconst (v := 0) hx hb dX12_emptyLog_114 (by decide) ?_
      obtain ⟨hi, h⟩ := h
      refine rf_sast hx hb hK hT 66 (by decide) rfl hi dX12_emptyLog_115 (fun H locs hT => ?_)
      refine lv_iinc (v := x1 + 1) (lv' := [(1, _), (0, _)]) hx hb dX12_emptyLog_116 hl (k := 1) rfl rfl (by decide) rfl (fun ls hl => ?_)
      refine lv_goto (tgt := 89) hx hb dX12_emptyLog_119 (by decide) ?_
      exact ih (rf_ua (rf_ua (rf_ua σ 63 x1.toNatClampNeg (vp_nar .short ((-1)))) 65 x1.toNatClampNeg ((-1))) 66 x1.toNatClampNeg (vp_nar .short 0)) (x1 + 1) _ _ _ h hT (lv_sub hl [1, 0] rfl)
end
def w_X12_emptyLog_68 (post : rf_S → Prop) : Nat → rf_S → Int32 → Prop
  | 0, _, _ => False
  | n + 1, σ, x1 => (12 ≤ x1 → ∃ n9, w_X12_emptyLog_89 post n9 σ 0) ∧ (¬ 12 ≤ x1 → vp_in x1 (rf_n 67) ∧ w_X12_emptyLog_68 post n (rf_ua σ 67 x1.toNatClampNeg 0) (x1 + 1))
section
variable {p : Program} {l : Launch} {e : Env} {s : State} {m : MethodId} {args : Array Value} {below : List Frame} {meth : Method} {c : Code} {P : hw_G} {o : Nat} {ad : Nat → Nat}
set_option maxRecDepth 100000 in
set_option maxHeartbeats 4000000 in
theorem t_X12_emptyLog_68 {post : rf_S → Prop} (hC : rf_C P RX12 p s m meth c cX12_emptyLog 2 none) : ∀ (n : Nat) (σ : rf_S) (x1 : Int32) (H : Heap) (locs : List Loc) (ls : Array Slot), w_X12_emptyLog_68 post n σ x1 → rf_T P s (rf_A o ad) o ad σ H locs → lv_has ls 2 [(0, .ref o), (1, .int x1)] → W p l e rm_X12_emptyLog s m args below meth c H locs 0 0 (MQ below (rf_Qv P o ad post) args s 0 0 (rf_A o ad)) (F0 m 68 ls []) := by
  obtain ⟨hx, hb, hml, hown, hK, -, -⟩ := id hC
  intro n
  induction n with
  | zero => intro σ x1 H locs ls h; exact False.elim h
  | succ n ih =>
    intro σ x1 H locs ls h hT hl
    refine lv_iload_n hx hb dX12_emptyLog_68 rfl (lv_at hl 1 rfl) ?_
    refine lv_bipush (v := 12) hx hb dX12_emptyLog_69 (by decide) ?_
    refine lv_icmp_ge (tgt := 87) hx hb dX12_emptyLog_71 (by decide) (fun hc => ?_) (fun hc => ?_)
    · have h := h.1 hc
      refine lv_iconst (v := 0) hx hb dX12_emptyLog_87 (by decide) ?_
      refine lv_istore_n (lv' := [(1, _), (0, _)]) hx hb dX12_emptyLog_88 rfl hl (by decide) rfl (fun ls hl => ?_)
      obtain ⟨n9, h⟩ := h
      exact t_X12_emptyLog_89 hC n9 σ 0 _ _ _ h hT (lv_sub hl [1, 0] rfl)
    · have h := h.2 hc
      refine lv_aload_n hx hb dX12_emptyLog_74 rfl (lv_at hl 0 rfl) ?_
      refine rf_get hx hb hK hT hown 67 (by decide) kfX12_83 (v := .ref (ad 67)) rfl dX12_emptyLog_75 ?_
      refine lv_iload_n hx hb dX12_emptyLog_78 rfl (lv_at hl 1 rfl) ?_
      refine lv_iconst (v := 0) hx hb dX12_emptyLog_79 (by decide) ?_
      obtain ⟨hi, h⟩ := h
      refine rf_iast hx hb hK hT 67 (by decide) rfl hi dX12_emptyLog_80 (fun H locs hT => ?_)
      refine lv_iinc (v := x1 + 1) (lv' := [(1, _), (0, _)]) hx hb dX12_emptyLog_81 hl (k := 1) rfl rfl (by decide) rfl (fun ls hl => ?_)
      refine lv_goto (tgt := 68) hx hb dX12_emptyLog_84 (by decide) ?_
      exact ih (rf_ua σ 67 x1.toNatClampNeg 0) (x1 + 1) _ _ _ h hT (lv_sub hl [1, 0] rfl)
end
def w_X12_emptyLog_32 (post : rf_S → Prop) : Nat → rf_S → Int32 → Prop
  | 0, _, _ => False
  | n + 1, σ, x1 => (65536 ≤ x1 → ∃ n9, w_X12_emptyLog_68 post n9 (rf_ui (rf_ui (rf_ui σ 78 0) 79 0) 72 0) 0) ∧ (¬ 65536 ≤ x1 → vp_in x1 (rf_n 25) ∧ w_X12_emptyLog_32 post n (rf_ua σ 25 x1.toNatClampNeg 0) (x1 + 1))
section
variable {p : Program} {l : Launch} {e : Env} {s : State} {m : MethodId} {args : Array Value} {below : List Frame} {meth : Method} {c : Code} {P : hw_G} {o : Nat} {ad : Nat → Nat}
set_option maxRecDepth 100000 in
set_option maxHeartbeats 4000000 in
theorem t_X12_emptyLog_32 {post : rf_S → Prop} (hC : rf_C P RX12 p s m meth c cX12_emptyLog 2 none) : ∀ (n : Nat) (σ : rf_S) (x1 : Int32) (H : Heap) (locs : List Loc) (ls : Array Slot), w_X12_emptyLog_32 post n σ x1 → rf_T P s (rf_A o ad) o ad σ H locs → lv_has ls 2 [(0, .ref o), (1, .int x1)] → W p l e rm_X12_emptyLog s m args below meth c H locs 0 0 (MQ below (rf_Qv P o ad post) args s 0 0 (rf_A o ad)) (F0 m 32 ls []) := by
  obtain ⟨hx, hb, hml, hown, hK, -, -⟩ := id hC
  intro n
  induction n with
  | zero => intro σ x1 H locs ls h; exact False.elim h
  | succ n ih =>
    intro σ x1 H locs ls h hT hl
    refine lv_iload_n hx hb dX12_emptyLog_32 rfl (lv_at hl 1 rfl) ?_
    refine lv_ldc (v := 65536) hx hb hown (hK.word kkX12_73 rfl) dX12_emptyLog_33 ?_
    refine lv_icmp_ge (tgt := 51) hx hb dX12_emptyLog_35 (by decide) (fun hc => ?_) (fun hc => ?_)
    · have h := h.1 hc
      refine lv_aload_n hx hb dX12_emptyLog_51 rfl (lv_at hl 0 rfl) ?_
      refine lv_iconst (v := 0) hx hb dX12_emptyLog_52 (by decide) ?_
      refine rf_puti hx hb hK hT hown 78 (by decide) kfX12_74 rfl rfl dX12_emptyLog_53 (fun H locs hT => ?_)
      refine lv_aload_n hx hb dX12_emptyLog_56 rfl (lv_at hl 0 rfl) ?_
      refine lv_iconst (v := 0) hx hb dX12_emptyLog_57 (by decide) ?_
      refine rf_puti hx hb hK hT hown 79 (by decide) kfX12_77 rfl rfl dX12_emptyLog_58 (fun H locs hT => ?_)
      refine lv_aload_n hx hb dX12_emptyLog_61 rfl (lv_at hl 0 rfl) ?_
      refine lv_iconst (v := 0) hx hb dX12_emptyLog_62 (by decide) ?_
      refine rf_puti hx hb hK hT hown 72 (by decide) kfX12_80 rfl rfl dX12_emptyLog_63 (fun H locs hT => ?_)
      refine lv_iconst (v := 0) hx hb dX12_emptyLog_66 (by decide) ?_
      refine lv_istore_n (lv' := [(1, _), (0, _)]) hx hb dX12_emptyLog_67 rfl hl (by decide) rfl (fun ls hl => ?_)
      obtain ⟨n9, h⟩ := h
      exact t_X12_emptyLog_68 hC n9 (rf_ui (rf_ui (rf_ui σ 78 0) 79 0) 72 0) 0 _ _ _ h hT (lv_sub hl [1, 0] rfl)
    · have h := h.2 hc
      refine lv_aload_n hx hb dX12_emptyLog_38 rfl (lv_at hl 0 rfl) ?_
      refine rf_get hx hb hK hT hown 25 (by decide) kfX12_42 (v := .ref (ad 25)) rfl dX12_emptyLog_39 ?_
      refine lv_iload_n hx hb dX12_emptyLog_42 rfl (lv_at hl 1 rfl) ?_
      refine lv_iconst (v := 0) hx hb dX12_emptyLog_43 (by decide) ?_
      obtain ⟨hi, h⟩ := h
      refine rf_iast hx hb hK hT 25 (by decide) rfl hi dX12_emptyLog_44 (fun H locs hT => ?_)
      refine lv_iinc (v := x1 + 1) (lv' := [(1, _), (0, _)]) hx hb dX12_emptyLog_45 hl (k := 1) rfl rfl (by decide) rfl (fun ls hl => ?_)
      refine lv_goto (tgt := 32) hx hb dX12_emptyLog_48 (by decide) ?_
      exact ih (rf_ua σ 25 x1.toNatClampNeg 0) (x1 + 1) _ _ _ h hT (lv_sub hl [1, 0] rfl)
end
def wp_X12_emptyLog (post : rf_S → Prop) (σ : rf_S)  : Prop := ∃ n9, w_X12_emptyLog_32 post n9 (rf_ui (rf_ui (rf_ui (rf_ui (rf_ui (rf_ui σ 19 0) 20 0) 21 0) 22 0) 23 0) 26 0) 0
set_option maxRecDepth 100000 in
set_option maxHeartbeats 4000000 in
theorem c_X12_emptyLog {l : Launch} {P : hw_G} {o : Nat} {ad : Nat → Nat} {σ : rf_S}  {post : rf_S → Prop} (h : wp_X12_emptyLog post σ ) : Met l yX12_emptyLog [Cond.code yX12_emptyLog cX12_emptyLog 2 none] rm_X12_emptyLog (rf_Pc P o ad σ [.ref o]) (rf_Qv P o ad post) 0 0 (rf_A o ad) := by
  refine rf_met (by decide) rfl (Nat.le_of_ble_eq_true rfl) ?_
  intro p e s m below meth c ls hC hT hl
  obtain ⟨hx, hb, hml, hown, hK, -, -⟩ := id hC
  have hl : lv_has ls 2 [(0, .ref o)] := hl
  refine lv_aload_n hx hb dX12_emptyLog_0 rfl (lv_at hl 0 rfl) ?_
  refine lv_iconst (v := 0) hx hb dX12_emptyLog_1 (by decide) ?_
  refine rf_puti hx hb hK hT hown 19 (by decide) kfX12_58 rfl rfl dX12_emptyLog_2 (fun H locs hT => ?_)
  refine lv_aload_n hx hb dX12_emptyLog_5 rfl (lv_at hl 0 rfl) ?_
  refine lv_iconst (v := 0) hx hb dX12_emptyLog_6 (by decide) ?_
  refine rf_puti hx hb hK hT hown 20 (by decide) kfX12_61 rfl rfl dX12_emptyLog_7 (fun H locs hT => ?_)
  refine lv_aload_n hx hb dX12_emptyLog_10 rfl (lv_at hl 0 rfl) ?_
  refine lv_iconst (v := 0) hx hb dX12_emptyLog_11 (by decide) ?_
  refine rf_puti hx hb hK hT hown 21 (by decide) kfX12_64 rfl rfl dX12_emptyLog_12 (fun H locs hT => ?_)
  refine lv_aload_n hx hb dX12_emptyLog_15 rfl (lv_at hl 0 rfl) ?_
  refine lv_iconst (v := 0) hx hb dX12_emptyLog_16 (by decide) ?_
  refine rf_puti hx hb hK hT hown 22 (by decide) kfX12_67 rfl rfl dX12_emptyLog_17 (fun H locs hT => ?_)
  refine lv_aload_n hx hb dX12_emptyLog_20 rfl (lv_at hl 0 rfl) ?_
  refine lv_iconst (v := 0) hx hb dX12_emptyLog_21 (by decide) ?_
  refine rf_puti hx hb hK hT hown 23 (by decide) kfX12_70 rfl rfl dX12_emptyLog_22 (fun H locs hT => ?_)
  refine lv_aload_n hx hb dX12_emptyLog_25 rfl (lv_at hl 0 rfl) ?_
  refine lv_iconst (v := 0) hx hb dX12_emptyLog_26 (by decide) ?_
  refine rf_puti hx hb hK hT hown 26 (by decide) kfX12_52 rfl rfl dX12_emptyLog_27 (fun H locs hT => ?_)
  refine lv_iconst (v := 0) hx hb dX12_emptyLog_30 (by decide) ?_
  refine lv_istore_n (lv' := [(1, _), (0, _)]) hx hb dX12_emptyLog_31 rfl hl (by decide) rfl (fun ls hl => ?_)
  obtain ⟨n9, h⟩ := h
  exact t_X12_emptyLog_32 hC n9 (rf_ui (rf_ui (rf_ui (rf_ui (rf_ui (rf_ui σ 19 0) 20 0) 21 0) 22 0) 23 0) 26 0) 0 _ _ _ h hT (lv_sub hl [1, 0] rfl)
/-! X12_fieldOf -/
abbrev rm_X12_fieldOf : Room := { frames := 0, cells := 0, slots := 0, locals := 0 }
def w_X12_fieldOf_3 (post : Int32 → rf_S → Prop) : Nat → rf_S → Int32 → Int64 → Int32 → Prop
  | 0, _, _, _, _ => False
  | n + 1, σ, x1, x2, x4 => vp_in x1 (rf_n 9) ∧ ((σ.2.2.1 9 x1.toNatClampNeg) ≤ x4 → post ((-1)) σ) ∧ (¬ (σ.2.2.1 9 x1.toNatClampNeg) ≤ x4 → vp_in ((8 * x1) + x4) (rf_n 13) ∧ (¬ (lg_cmp (σ.2.2.2 13 ((8 * x1) + x4).toNatClampNeg) x2) = 0 → w_X12_fieldOf_3 post n σ x1 x2 (x4 + 1)) ∧ ((lg_cmp (σ.2.2.2 13 ((8 * x1) + x4).toNatClampNeg) x2) = 0 → post ((8 * x1) + x4) σ))
section
variable {p : Program} {l : Launch} {e : Env} {s : State} {m : MethodId} {args : Array Value} {below : List Frame} {meth : Method} {c : Code} {P : hw_G} {o : Nat} {ad : Nat → Nat}
set_option maxRecDepth 100000 in
set_option maxHeartbeats 4000000 in
theorem t_X12_fieldOf_3 {post : Int32 → rf_S → Prop} (hC : rf_C P RX12 p s m meth c cX12_fieldOf 5 (some .int)) : ∀ (n : Nat) (σ : rf_S) (x1 : Int32) (x2 : Int64) (x4 : Int32) (H : Heap) (locs : List Loc) (ls : Array Slot), w_X12_fieldOf_3 post n σ x1 x2 x4 → rf_T P s (rf_A o ad) o ad σ H locs → lv_has ls 5 [(0, .ref o), (1, .int x1), (2, .long x2), (4, .int x4)] → W p l e rm_X12_fieldOf s m args below meth c H locs 0 0 (MQ below (rf_Qi P o ad post) args s 0 0 (rf_A o ad)) (F0 m 3 ls []) := by
  obtain ⟨hx, hb, hml, hown, hK, -, -⟩ := id hC
  intro n
  induction n with
  | zero => intro σ x1 x2 x4 H locs ls h; exact False.elim h
  | succ n ih =>
    intro σ x1 x2 x4 H locs ls h hT hl
    refine lv_iload hx hb dX12_fieldOf_3 (lv_at hl 3 rfl) ?_
    refine lv_aload_n hx hb dX12_fieldOf_5 rfl (lv_at hl 0 rfl) ?_
    refine rf_get hx hb hK hT hown 9 (by decide) kfX12_97 (v := .ref (ad 9)) rfl dX12_fieldOf_6 ?_
    refine lv_iload_n hx hb dX12_fieldOf_9 rfl (lv_at hl 1 rfl) ?_
    obtain ⟨hi, h⟩ := h
    refine rf_iald hx hb hK hT 9 (by decide) rfl hi (v := σ.2.2.1 9 x1.toNatClampNeg) rfl dX12_fieldOf_10 ?_
    refine lv_icmp_ge (tgt := 45) hx hb dX12_fieldOf_11 (by decide) (fun hc => ?_) (fun hc => ?_)
    · have h := h.1 hc
      refine lv_iconst (v := (-1)) hx hb dX12_fieldOf_45 (by decide) ?_
      exact rf_iret hC hT h dX12_fieldOf_46
    · have h := h.2 hc
      refine lv_aload_n hx hb dX12_fieldOf_14 rfl (lv_at hl 0 rfl) ?_
      refine rf_get hx hb hK hT hown 13 (by decide) kfX12_100 (v := .ref (ad 13)) rfl dX12_fieldOf_15 ?_
      refine lv_bipush (v := 8) hx hb dX12_fieldOf_18 (by decide) ?_
      refine lv_iload_n hx hb dX12_fieldOf_20 rfl (lv_at hl 1 rfl) ?_
      refine lv_imul hx hb dX12_fieldOf_21 ?_
      refine lv_iload hx hb dX12_fieldOf_22 (lv_at hl 3 rfl) ?_
      refine lv_iadd hx hb dX12_fieldOf_24 ?_
      obtain ⟨hi, h⟩ := h
      refine rf_lald hx hb hK hT 13 (by decide) rfl hi (v := σ.2.2.2 13 ((8 * x1) + x4).toNatClampNeg) rfl dX12_fieldOf_25 ?_
      refine lv_lload_n hx hb dX12_fieldOf_26 rfl (lv_at hl 2 rfl) ?_
      refine W.lcmp hx hb dX12_fieldOf_27 ?_
      refine lv_if_ne (tgt := 39) hx hb dX12_fieldOf_28 (by decide) (fun hc => ?_) (fun hc => ?_)
      · have h := h.1 hc
        refine lv_iinc (v := x4 + 1) (lv' := [(4, _), (0, _), (1, _), (2, _)]) hx hb dX12_fieldOf_39 hl (k := 3) rfl rfl (by decide) rfl (fun ls hl => ?_)
        refine lv_goto (tgt := 3) hx hb dX12_fieldOf_42 (by decide) ?_
        exact ih σ x1 x2 (x4 + 1) _ _ _ h hT (lv_sub hl [1, 2, 3, 0] rfl)
      · have h := h.2 hc
        refine lv_bipush (v := 8) hx hb dX12_fieldOf_31 (by decide) ?_
        refine lv_iload_n hx hb dX12_fieldOf_33 rfl (lv_at hl 1 rfl) ?_
        refine lv_imul hx hb dX12_fieldOf_34 ?_
        refine lv_iload hx hb dX12_fieldOf_35 (lv_at hl 3 rfl) ?_
        refine lv_iadd hx hb dX12_fieldOf_37 ?_
        exact rf_iret hC hT h dX12_fieldOf_38
end
def wp_X12_fieldOf (post : Int32 → rf_S → Prop) (σ : rf_S) (p1 : Int32) (p2 : Int64) : Prop := ∃ n9, w_X12_fieldOf_3 post n9 σ p1 p2 0
set_option maxRecDepth 100000 in
set_option maxHeartbeats 4000000 in
theorem c_X12_fieldOf {l : Launch} {P : hw_G} {o : Nat} {ad : Nat → Nat} {σ : rf_S} {p1 : Int32} {p2 : Int64} {post : Int32 → rf_S → Prop} (h : wp_X12_fieldOf post σ p1 p2) : Met l yX12_fieldOf [Cond.code yX12_fieldOf cX12_fieldOf 5 (some .int)] rm_X12_fieldOf (rf_Pc P o ad σ [.ref o, .int p1, .long p2]) (rf_Qi P o ad post) 0 0 (rf_A o ad) := by
  refine rf_met (by decide) rfl (Nat.le_of_ble_eq_true rfl) ?_
  intro p e s m below meth c ls hC hT hl
  obtain ⟨hx, hb, hml, hown, hK, -, -⟩ := id hC
  have hl : lv_has ls 5 [(0, .ref o), (1, .int p1), (2, .long p2)] := hl
  refine lv_iconst (v := 0) hx hb dX12_fieldOf_0 (by decide) ?_
  refine lv_istore (lv' := [(4, _), (0, _), (1, _), (2, _)]) hx hb dX12_fieldOf_1 hl (by decide) rfl (fun ls hl => ?_)
  obtain ⟨n9, h⟩ := h
  exact t_X12_fieldOf_3 hC n9 σ p1 p2 0 _ _ _ h hT (lv_sub hl [1, 2, 3, 0] rfl)
/-! X12_readsUnsigned -/
abbrev rm_X12_readsUnsigned : Room := { frames := 1, cells := 0, slots := 0, locals := 22 }
def w_X12_readsUnsigned_111 (post : Int32 → rf_S → Prop) (σ : rf_S) (y0 : Int32) : Prop := narrow .boolean (.int y0) = .int y0 ∧ post y0 σ
section
variable {p : Program} {l : Launch} {e : Env} {s : State} {m : MethodId} {args : Array Value} {below : List Frame} {meth : Method} {c : Code} {P : hw_G} {o : Nat} {ad : Nat → Nat}
set_option maxRecDepth 100000 in
set_option maxHeartbeats 4000000 in
theorem t_X12_readsUnsigned_111 {post : Int32 → rf_S → Prop} (hC : rf_C P RX12 p s m meth c cX12_readsUnsigned 6 (some .boolean)) (σ : rf_S) (y0 : Int32) (H : Heap) (locs : List Loc) (ls : Array Slot) (h : w_X12_readsUnsigned_111 post σ y0) (hT : rf_T P s (rf_A o ad) o ad σ H locs) (hl : lv_has ls 6 []) : W p l e rm_X12_readsUnsigned s m args below meth c H locs 0 0 (MQ below (rf_Qi P o ad post) args s 0 0 (rf_A o ad)) (F0 m 111 ls [.int y0]) := by
  obtain ⟨hx, hb, hml, hown, hK, -, -⟩ := id hC
  exact rf_zret hC hT h.1 h.2 dX12_readsUnsigned_111
end
def w_X12_readsUnsigned_106 (post : Int32 → rf_S → Prop) (σ : rf_S)  : Prop := w_X12_readsUnsigned_111 post σ 1
section
variable {p : Program} {l : Launch} {e : Env} {s : State} {m : MethodId} {args : Array Value} {below : List Frame} {meth : Method} {c : Code} {P : hw_G} {o : Nat} {ad : Nat → Nat}
set_option maxRecDepth 100000 in
set_option maxHeartbeats 4000000 in
theorem t_X12_readsUnsigned_106 {post : Int32 → rf_S → Prop} (hC : rf_C P RX12 p s m meth c cX12_readsUnsigned 6 (some .boolean)) (σ : rf_S)  (H : Heap) (locs : List Loc) (ls : Array Slot) (h : w_X12_readsUnsigned_106 post σ ) (hT : rf_T P s (rf_A o ad) o ad σ H locs) (hl : lv_has ls 6 []) : W p l e rm_X12_readsUnsigned s m args below meth c H locs 0 0 (MQ below (rf_Qi P o ad post) args s 0 0 (rf_A o ad)) (F0 m 106 ls []) := by
  obtain ⟨hx, hb, hml, hown, hK, -, -⟩ := id hC
  refine lv_iconst (v := 1) hx hb dX12_readsUnsigned_106 (by decide) ?_
  refine lv_goto (tgt := 111) hx hb dX12_readsUnsigned_107 (by decide) ?_
  exact t_X12_readsUnsigned_111 hC σ 1 _ _ _ h hT (lv_sub hl [] rfl)
end
def w_X12_readsUnsigned_97 (post : Int32 → rf_S → Prop) (σ : rf_S) (x1 : Int32) : Prop := wp_X12_wrong (fun r5 σ5 => (r5 = 0 → w_X12_readsUnsigned_111 post σ5 0) ∧ (¬ r5 = 0 → w_X12_readsUnsigned_106 post σ5)) σ 3 x1
section
variable {p : Program} {l : Launch} {e : Env} {s : State} {m : MethodId} {args : Array Value} {below : List Frame} {meth : Method} {c : Code} {P : hw_G} {o : Nat} {ad : Nat → Nat}
set_option maxRecDepth 100000 in
set_option maxHeartbeats 4000000 in
theorem t_X12_readsUnsigned_97 {post : Int32 → rf_S → Prop} (hC : rf_C P RX12 p s m meth c cX12_readsUnsigned 6 (some .boolean)) (σ : rf_S) (x1 : Int32) (H : Heap) (locs : List Loc) (ls : Array Slot) (h : w_X12_readsUnsigned_97 post σ x1) (hT : rf_T P s (rf_A o ad) o ad σ H locs) (hl : lv_has ls 6 [(0, .ref o), (1, .int x1)]) : W p l e rm_X12_readsUnsigned s m args below meth c H locs 0 0 (MQ below (rf_Qi P o ad post) args s 0 0 (rf_A o ad)) (F0 m 97 ls []) := by
  obtain ⟨hx, hb, hml, hown, hK, -, -⟩ := id hC
  refine lv_aload_n hx hb dX12_readsUnsigned_97 rfl (lv_at hl 0 rfl) ?_
  refine lv_iconst (v := 3) hx hb dX12_readsUnsigned_98 (by decide) ?_
  refine lv_iload_n hx hb dX12_readsUnsigned_99 rfl (lv_at hl 1 rfl) ?_
  refine rf_calli (rf_runV hx hb hml hown hK hT (c_X12_wrong h) rfl rfl klX12_111 ki_X12_wrong ks_X12_wrong kn_X12 kc_X12_wrong 2 ⟨rfl, by decide, by decide, by decide +kernel⟩ ⟨by decide, by decide⟩ rfl hl.1 rfl (Nat.le_of_ble_eq_true rfl) ⟨Nat.le_refl _, Nat.le_refl _⟩ dX12_readsUnsigned_100) hT (fun r5 σ5 H locs h hT => ?_)
  refine lv_if_eq (tgt := 110) hx hb dX12_readsUnsigned_103 (by decide) (fun hc => ?_) (fun hc => ?_)
  · have h := h.1 hc
    refine lv_iconst (v := 0) hx hb dX12_readsUnsigned_110 (by decide) ?_
    exact t_X12_readsUnsigned_111 hC σ5 0 _ _ _ h hT (lv_sub hl [] rfl)
  · have h := h.2 hc
    exact t_X12_readsUnsigned_106 hC σ5 _ _ _ h hT (lv_sub hl [] rfl)
end
def w_X12_readsUnsigned_10 (post : Int32 → rf_S → Prop) : Nat → rf_S → Int32 → Int64 → Int32 → Prop
  | 0, _, _, _, _ => False
  | n + 1, σ, x1, x2, x4 => (5 ≤ x4 → wp_X12_wrong (fun r6 σ6 => narrow .boolean (.int r6) = .int r6 ∧ post r6 σ6) σ 3 x1) ∧ (¬ 5 ≤ x4 → wp_X12_byteAt (fun r7 σ7 => (0 ≤ r7 → (128 ≤ r7 → w_X12_readsUnsigned_10 post n (rf_ui σ7 4 ((σ7.1 4) + 1)) x1 (x2 ||| (((r7 &&& 127).toInt64) <<< ((7 * x4).toInt64 &&& 63))) (x4 + 1)) ∧ (¬ 128 ≤ r7 → (0 < (lg_cmp (x2 ||| (((r7 &&& 127).toInt64) <<< ((7 * x4).toInt64 &&& 63))) 4294967295) → w_X12_readsUnsigned_97 post (rf_ul (rf_ui σ7 4 ((σ7.1 4) + 1)) 27 (x2 ||| (((r7 &&& 127).toInt64) <<< ((7 * x4).toInt64 &&& 63)))) x1) ∧ (¬ 0 < (lg_cmp (x2 ||| (((r7 &&& 127).toInt64) <<< ((7 * x4).toInt64 &&& 63))) 4294967295) → (0 < r7 → w_X12_readsUnsigned_106 post (rf_ul (rf_ui σ7 4 ((σ7.1 4) + 1)) 27 (x2 ||| (((r7 &&& 127).toInt64) <<< ((7 * x4).toInt64 &&& 63))))) ∧ (¬ 0 < r7 → (x4 = 0 → w_X12_readsUnsigned_106 post (rf_ul (rf_ui σ7 4 ((σ7.1 4) + 1)) 27 (x2 ||| (((r7 &&& 127).toInt64) <<< ((7 * x4).toInt64 &&& 63))))) ∧ (¬ x4 = 0 → w_X12_readsUnsigned_97 post (rf_ul (rf_ui σ7 4 ((σ7.1 4) + 1)) 27 (x2 ||| (((r7 &&& 127).toInt64) <<< ((7 * x4).toInt64 &&& 63)))) x1))))) ∧ (¬ 0 ≤ r7 → wp_X12_wrong (fun r8 σ8 => narrow .boolean (.int r8) = .int r8 ∧ post r8 σ8) σ7 1 (σ7.1 3))) σ (σ.1 4))
section
variable {p : Program} {l : Launch} {e : Env} {s : State} {m : MethodId} {args : Array Value} {below : List Frame} {meth : Method} {c : Code} {P : hw_G} {o : Nat} {ad : Nat → Nat}
set_option maxRecDepth 100000 in
set_option maxHeartbeats 4000000 in
theorem t_X12_readsUnsigned_10 {post : Int32 → rf_S → Prop} (hC : rf_C P RX12 p s m meth c cX12_readsUnsigned 6 (some .boolean)) : ∀ (n : Nat) (σ : rf_S) (x1 : Int32) (x2 : Int64) (x4 : Int32) (H : Heap) (locs : List Loc) (ls : Array Slot), w_X12_readsUnsigned_10 post n σ x1 x2 x4 → rf_T P s (rf_A o ad) o ad σ H locs → lv_has ls 6 [(0, .ref o), (1, .int x1), (2, .long x2), (4, .int x4)] → W p l e rm_X12_readsUnsigned s m args below meth c H locs 0 0 (MQ below (rf_Qi P o ad post) args s 0 0 (rf_A o ad)) (F0 m 10 ls []) := by
  obtain ⟨hx, hb, hml, hown, hK, -, -⟩ := id hC
  intro n
  induction n with
  | zero => intro σ x1 x2 x4 H locs ls h; exact False.elim h
  | succ n ih =>
    intro σ x1 x2 x4 H locs ls h hT hl
    refine lv_iload hx hb dX12_readsUnsigned_10 (lv_at hl 3 rfl) ?_
    refine lv_iconst (v := 5) hx hb dX12_readsUnsigned_12 (by decide) ?_
    refine lv_icmp_ge (tgt := 118) hx hb dX12_readsUnsigned_13 (by decide) (fun hc => ?_) (fun hc => ?_)
    · have h := h.1 hc
      refine lv_aload_n hx hb dX12_readsUnsigned_118 rfl (lv_at hl 0 rfl) ?_
      refine lv_iconst (v := 3) hx hb dX12_readsUnsigned_119 (by decide) ?_
      refine lv_iload_n hx hb dX12_readsUnsigned_120 rfl (lv_at hl 1 rfl) ?_
      refine rf_calli (rf_runV hx hb hml hown hK hT (c_X12_wrong h) rfl rfl klX12_111 ki_X12_wrong ks_X12_wrong kn_X12 kc_X12_wrong 2 ⟨rfl, by decide, by decide, by decide +kernel⟩ ⟨by decide, by decide⟩ rfl hl.1 rfl (Nat.le_of_ble_eq_true rfl) ⟨Nat.le_refl _, Nat.le_refl _⟩ dX12_readsUnsigned_121) hT (fun r6 σ6 H locs h hT => ?_)
      exact rf_zret hC hT h.1 h.2 dX12_readsUnsigned_124
    · have h := h.2 hc
      refine lv_aload_n hx hb dX12_readsUnsigned_16 rfl (lv_at hl 0 rfl) ?_
      refine lv_aload_n hx hb dX12_readsUnsigned_17 rfl (lv_at hl 0 rfl) ?_
      refine rf_get hx hb hK hT hown 4 (by decide) kfX12_104 (v := .int (σ.1 4)) rfl dX12_readsUnsigned_18 ?_
      refine rf_calli (rf_runV hx hb hml hown hK hT (c_X12_byteAt h) rfl rfl klX12_107 ki_X12_byteAt ks_X12_byteAt kn_X12 kc_X12_byteAt 1 ⟨rfl, by decide, by decide, by decide +kernel⟩ ⟨by decide, by decide⟩ rfl hl.1 rfl (Nat.le_of_ble_eq_true rfl) ⟨Nat.le_refl _, Nat.le_refl _⟩ dX12_readsUnsigned_21) hT (fun r7 σ7 H locs h hT => ?_)
      refine lv_istore (lv' := [(5, _), (0, _), (1, _), (2, _), (4, _)]) hx hb dX12_readsUnsigned_24 hl (by decide) rfl (fun ls hl => ?_)
      refine lv_iload hx hb dX12_readsUnsigned_26 (lv_at hl 0 rfl) ?_
      refine lv_if_ge (tgt := 41) hx hb dX12_readsUnsigned_28 (by decide) (fun hc => ?_) (fun hc => ?_)
      · have h := h.1 hc
        refine lv_lload_n hx hb dX12_readsUnsigned_41 rfl (lv_at hl 3 rfl) ?_
        refine lv_iload hx hb dX12_readsUnsigned_42 (lv_at hl 0 rfl) ?_
        refine lv_bipush (v := 127) hx hb dX12_readsUnsigned_44 (by decide) ?_
        refine lv_iand hx hb dX12_readsUnsigned_46 ?_
        refine lv_i2l (v := (r7 &&& 127).toInt64) hx hb dX12_readsUnsigned_47 rfl ?_
        refine lv_bipush (v := 7) hx hb dX12_readsUnsigned_48 (by decide) ?_
        refine lv_iload hx hb dX12_readsUnsigned_50 (lv_at hl 4 rfl) ?_
        refine lv_imul hx hb dX12_readsUnsigned_52 ?_
        refine lv_lshl (v := ((r7 &&& 127).toInt64) <<< ((7 * x4).toInt64 &&& 63)) hx hb dX12_readsUnsigned_53 rfl ?_
        refine lv_lor hx hb dX12_readsUnsigned_54 ?_
        refine lv_lstore_n (lv' := [(2, _), (5, _), (0, _), (1, _), (4, _)]) hx hb dX12_readsUnsigned_55 rfl hl (by decide) rfl (fun ls hl => ?_)
        refine lv_aload_n hx hb dX12_readsUnsigned_56 rfl (lv_at hl 2 rfl) ?_
        refine lv_dup hx hb dX12_readsUnsigned_57 rfl ?_
        refine rf_get hx hb hK hT hown 4 (by decide) kfX12_104 (v := .int (σ7.1 4)) rfl dX12_readsUnsigned_58 ?_
        refine lv_iconst (v := 1) hx hb dX12_readsUnsigned_61 (by decide) ?_
        refine lv_iadd hx hb dX12_readsUnsigned_62 ?_
        refine rf_puti hx hb hK hT hown 4 (by decide) kfX12_104 rfl rfl dX12_readsUnsigned_63 (fun H locs hT => ?_)
        refine lv_iload hx hb dX12_readsUnsigned_66 (lv_at hl 1 rfl) ?_
        refine lv_sipush (v := 128) hx hb dX12_readsUnsigned_68 (by decide) ?_
        refine lv_icmp_ge (tgt := 112) hx hb dX12_readsUnsigned_71 (by decide) (fun hc => ?_) (fun hc => ?_)
        · have h := h.1 hc
          refine lv_iinc (v := x4 + 1) (lv' := [(4, _), (2, _), (5, _), (0, _), (1, _)]) hx hb dX12_readsUnsigned_112 hl (k := 4) rfl rfl (by decide) rfl (fun ls hl => ?_)
          refine lv_goto (tgt := 10) hx hb dX12_readsUnsigned_115 (by decide) ?_
          exact ih (rf_ui σ7 4 ((σ7.1 4) + 1)) x1 (x2 ||| (((r7 &&& 127).toInt64) <<< ((7 * x4).toInt64 &&& 63))) (x4 + 1) _ _ _ h hT (lv_sub hl [3, 4, 1, 0] rfl)
        · have h := h.2 hc
          refine lv_aload_n hx hb dX12_readsUnsigned_74 rfl (lv_at hl 2 rfl) ?_
          refine lv_lload_n hx hb dX12_readsUnsigned_75 rfl (lv_at hl 0 rfl) ?_
          refine rf_putl hx hb hK hT hown 27 (by decide) kfX12_114 rfl rfl dX12_readsUnsigned_76 (fun H locs hT => ?_)
          refine lv_lload_n hx hb dX12_readsUnsigned_79 rfl (lv_at hl 0 rfl) ?_
          refine lv_ldc2 (v := 4294967295) hx hb hown (hK.word kkX12_118 rfl) dX12_readsUnsigned_80 ?_
          refine W.lcmp hx hb dX12_readsUnsigned_83 ?_
          refine lv_if_gt (tgt := 97) hx hb dX12_readsUnsigned_84 (by decide) (fun hc => ?_) (fun hc => ?_)
          · have h := h.1 hc
            exact t_X12_readsUnsigned_97 hC (rf_ul (rf_ui σ7 4 ((σ7.1 4) + 1)) 27 (x2 ||| (((r7 &&& 127).toInt64) <<< ((7 * x4).toInt64 &&& 63)))) x1 _ _ _ h hT (lv_sub hl [2, 3] rfl)
          · have h := h.2 hc
            refine lv_iload hx hb dX12_readsUnsigned_87 (lv_at hl 1 rfl) ?_
            refine lv_if_gt (tgt := 106) hx hb dX12_readsUnsigned_89 (by decide) (fun hc => ?_) (fun hc => ?_)
            · have h := h.1 hc
              exact t_X12_readsUnsigned_106 hC (rf_ul (rf_ui σ7 4 ((σ7.1 4) + 1)) 27 (x2 ||| (((r7 &&& 127).toInt64) <<< ((7 * x4).toInt64 &&& 63)))) _ _ _ h hT (lv_sub hl [] rfl)
            · have h := h.2 hc
              refine lv_iload hx hb dX12_readsUnsigned_92 (lv_at hl 4 rfl) ?_
              refine lv_if_eq (tgt := 106) hx hb dX12_readsUnsigned_94 (by decide) (fun hc => ?_) (fun hc => ?_)
              · have h := h.1 hc
                exact t_X12_readsUnsigned_106 hC (rf_ul (rf_ui σ7 4 ((σ7.1 4) + 1)) 27 (x2 ||| (((r7 &&& 127).toInt64) <<< ((7 * x4).toInt64 &&& 63)))) _ _ _ h hT (lv_sub hl [] rfl)
              · have h := h.2 hc
                exact t_X12_readsUnsigned_97 hC (rf_ul (rf_ui σ7 4 ((σ7.1 4) + 1)) 27 (x2 ||| (((r7 &&& 127).toInt64) <<< ((7 * x4).toInt64 &&& 63)))) x1 _ _ _ h hT (lv_sub hl [2, 3] rfl)
      · have h := h.2 hc
        refine lv_aload_n hx hb dX12_readsUnsigned_31 rfl (lv_at hl 1 rfl) ?_
        refine lv_iconst (v := 1) hx hb dX12_readsUnsigned_32 (by decide) ?_
        refine lv_aload_n hx hb dX12_readsUnsigned_33 rfl (lv_at hl 1 rfl) ?_
        refine rf_get hx hb hK hT hown 3 (by decide) kfX12_24 (v := .int (σ7.1 3)) rfl dX12_readsUnsigned_34 ?_
        refine rf_calli (rf_runV hx hb hml hown hK hT (c_X12_wrong h) rfl rfl klX12_111 ki_X12_wrong ks_X12_wrong kn_X12 kc_X12_wrong 2 ⟨rfl, by decide, by decide, by decide +kernel⟩ ⟨by decide, by decide⟩ rfl hl.1 rfl (Nat.le_of_ble_eq_true rfl) ⟨Nat.le_refl _, Nat.le_refl _⟩ dX12_readsUnsigned_37) hT (fun r8 σ8 H locs h hT => ?_)
        exact rf_zret hC hT h.1 h.2 dX12_readsUnsigned_40
end
def wp_X12_readsUnsigned (post : Int32 → rf_S → Prop) (σ : rf_S)  : Prop := ∃ n9, w_X12_readsUnsigned_10 post n9 σ (σ.1 4) 0 0
set_option maxRecDepth 100000 in
set_option maxHeartbeats 4000000 in
theorem c_X12_readsUnsigned {l : Launch} {P : hw_G} {o : Nat} {ad : Nat → Nat} {σ : rf_S}  {post : Int32 → rf_S → Prop} (h : wp_X12_readsUnsigned post σ ) : Met l yX12_readsUnsigned [Cond.code yX12_readsUnsigned cX12_readsUnsigned 6 (some .boolean)] rm_X12_readsUnsigned (rf_Pc P o ad σ [.ref o]) (rf_Qi P o ad post) 0 0 (rf_A o ad) := by
  refine rf_met (by decide) rfl (Nat.le_of_ble_eq_true rfl) ?_
  intro p e s m below meth c ls hC hT hl
  obtain ⟨hx, hb, hml, hown, hK, -, -⟩ := id hC
  have hl : lv_has ls 6 [(0, .ref o)] := hl
  refine lv_aload_n hx hb dX12_readsUnsigned_0 rfl (lv_at hl 0 rfl) ?_
  refine rf_get hx hb hK hT hown 4 (by decide) kfX12_104 (v := .int (σ.1 4)) rfl dX12_readsUnsigned_1 ?_
  refine lv_istore_n (lv' := [(1, _), (0, _)]) hx hb dX12_readsUnsigned_4 rfl hl (by decide) rfl (fun ls hl => ?_)
  refine lv_lconst (v := 0) hx hb dX12_readsUnsigned_5 (by decide) ?_
  refine lv_lstore_n (lv' := [(2, _), (1, _), (0, _)]) hx hb dX12_readsUnsigned_6 rfl hl (by decide) rfl (fun ls hl => ?_)
  refine lv_iconst (v := 0) hx hb dX12_readsUnsigned_7 (by decide) ?_
  refine lv_istore (lv' := [(4, _), (2, _), (1, _), (0, _)]) hx hb dX12_readsUnsigned_8 hl (by decide) rfl (fun ls hl => ?_)
  obtain ⟨n9, h⟩ := h
  exact t_X12_readsUnsigned_10 hC n9 σ (σ.1 4) 0 0 _ _ _ h hT (lv_sub hl [3, 2, 1, 0] rfl)
/-! X12_readsCount -/
abbrev rm_X12_readsCount : Room := { frames := 1, cells := 0, slots := 0, locals := 22 }
def w_X12_readsCount_33 (post : Int32 → rf_S → Prop) (σ : rf_S)  : Prop := wp_X12_wrong (fun r4 σ4 => narrow .boolean (.int r4) = .int r4 ∧ post r4 σ4) σ 2 (σ.1 4)
section
variable {p : Program} {l : Launch} {e : Env} {s : State} {m : MethodId} {args : Array Value} {below : List Frame} {meth : Method} {c : Code} {P : hw_G} {o : Nat} {ad : Nat → Nat}
set_option maxRecDepth 100000 in
set_option maxHeartbeats 4000000 in
theorem t_X12_readsCount_33 {post : Int32 → rf_S → Prop} (hC : rf_C P RX12 p s m meth c cX12_readsCount 4 (some .boolean)) (σ : rf_S)  (H : Heap) (locs : List Loc) (ls : Array Slot) (h : w_X12_readsCount_33 post σ ) (hT : rf_T P s (rf_A o ad) o ad σ H locs) (hl : lv_has ls 4 [(0, .ref o)]) : W p l e rm_X12_readsCount s m args below meth c H locs 0 0 (MQ below (rf_Qi P o ad post) args s 0 0 (rf_A o ad)) (F0 m 33 ls []) := by
  obtain ⟨hx, hb, hml, hown, hK, -, -⟩ := id hC
  refine lv_aload_n hx hb dX12_readsCount_33 rfl (lv_at hl 0 rfl) ?_
  refine lv_iconst (v := 2) hx hb dX12_readsCount_34 (by decide) ?_
  refine lv_aload_n hx hb dX12_readsCount_35 rfl (lv_at hl 0 rfl) ?_
  refine rf_get hx hb hK hT hown 4 (by decide) kfX12_104 (v := .int (σ.1 4)) rfl dX12_readsCount_36 ?_
  refine rf_calli (rf_runV hx hb hml hown hK hT (c_X12_wrong h) rfl rfl klX12_111 ki_X12_wrong ks_X12_wrong kn_X12 kc_X12_wrong 2 ⟨rfl, by decide, by decide, by decide +kernel⟩ ⟨by decide, by decide⟩ rfl hl.1 rfl (Nat.le_of_ble_eq_true rfl) ⟨Nat.le_refl _, Nat.le_refl _⟩ dX12_readsCount_39) hT (fun r4 σ4 H locs h hT => ?_)
  exact rf_zret hC hT h.1 h.2 dX12_readsCount_42
end
def wp_X12_readsCount (post : Int32 → rf_S → Prop) (σ : rf_S) (p1 : Int32) (p2 : Int32) : Prop := wp_X12_byteAt (fun r5 σ5 => (0 ≤ r5 → (r5 < p1 → w_X12_readsCount_33 post σ5) ∧ (¬ r5 < p1 → (r5 ≤ p2 → post 1 (rf_ui (rf_ui σ5 28 r5) 4 ((σ5.1 4) + 1))) ∧ (¬ r5 ≤ p2 → w_X12_readsCount_33 post σ5))) ∧ (¬ 0 ≤ r5 → wp_X12_wrong (fun r6 σ6 => narrow .boolean (.int r6) = .int r6 ∧ post r6 σ6) σ5 1 (σ5.1 3))) σ (σ.1 4)
set_option maxRecDepth 100000 in
set_option maxHeartbeats 4000000 in
theorem c_X12_readsCount {l : Launch} {P : hw_G} {o : Nat} {ad : Nat → Nat} {σ : rf_S} {p1 : Int32} {p2 : Int32} {post : Int32 → rf_S → Prop} (h : wp_X12_readsCount post σ p1 p2) : Met l yX12_readsCount [Cond.code yX12_readsCount cX12_readsCount 4 (some .boolean)] rm_X12_readsCount (rf_Pc P o ad σ [.ref o, .int p1, .int p2]) (rf_Qi P o ad post) 0 0 (rf_A o ad) := by
  refine rf_met (by decide) rfl (Nat.le_of_ble_eq_true rfl) ?_
  intro p e s m below meth c ls hC hT hl
  obtain ⟨hx, hb, hml, hown, hK, -, -⟩ := id hC
  have hl : lv_has ls 4 [(0, .ref o), (1, .int p1), (2, .int p2)] := hl
  refine lv_aload_n hx hb dX12_readsCount_0 rfl (lv_at hl 0 rfl) ?_
  refine lv_aload_n hx hb dX12_readsCount_1 rfl (lv_at hl 0 rfl) ?_
  refine rf_get hx hb hK hT hown 4 (by decide) kfX12_104 (v := .int (σ.1 4)) rfl dX12_readsCount_2 ?_
  refine rf_calli (rf_runV hx hb hml hown hK hT (c_X12_byteAt h) rfl rfl klX12_107 ki_X12_byteAt ks_X12_byteAt kn_X12 kc_X12_byteAt 1 ⟨rfl, by decide, by decide, by decide +kernel⟩ ⟨by decide, by decide⟩ rfl hl.1 rfl (Nat.le_of_ble_eq_true rfl) ⟨Nat.le_refl _, Nat.le_refl _⟩ dX12_readsCount_5) hT (fun r5 σ5 H locs h hT => ?_)
  refine lv_istore_n (lv' := [(3, _), (0, _), (1, _), (2, _)]) hx hb dX12_readsCount_8 rfl hl (by decide) rfl (fun ls hl => ?_)
  refine lv_iload_n hx hb dX12_readsCount_9 rfl (lv_at hl 0 rfl) ?_
  refine lv_if_ge (tgt := 23) hx hb dX12_readsCount_10 (by decide) (fun hc => ?_) (fun hc => ?_)
  · have h := h.1 hc
    refine lv_iload_n hx hb dX12_readsCount_23 rfl (lv_at hl 0 rfl) ?_
    refine lv_iload_n hx hb dX12_readsCount_24 rfl (lv_at hl 2 rfl) ?_
    refine lv_icmp_lt (tgt := 33) hx hb dX12_readsCount_25 (by decide) (fun hc => ?_) (fun hc => ?_)
    · have h := h.1 hc
      exact t_X12_readsCount_33 hC σ5 _ _ _ h hT (lv_sub hl [1] rfl)
    · have h := h.2 hc
      refine lv_iload_n hx hb dX12_readsCount_28 rfl (lv_at hl 0 rfl) ?_
      refine lv_iload_n hx hb dX12_readsCount_29 rfl (lv_at hl 3 rfl) ?_
      refine lv_icmp_le (tgt := 43) hx hb dX12_readsCount_30 (by decide) (fun hc => ?_) (fun hc => ?_)
      · have h := h.1 hc
        refine lv_aload_n hx hb dX12_readsCount_43 rfl (lv_at hl 1 rfl) ?_
        refine lv_iload_n hx hb dX12_readsCount_44 rfl (lv_at hl 0 rfl) ?_
        refine rf_puti hx hb hK hT hown 28 (by decide) kfX12_120 rfl rfl dX12_readsCount_45 (fun H locs hT => ?_)
        refine lv_aload_n hx hb dX12_readsCount_48 rfl (lv_at hl 1 rfl) ?_
        refine lv_dup hx hb dX12_readsCount_49 rfl ?_
        refine rf_get hx hb hK hT hown 4 (by decide) kfX12_104 (v := .int (σ5.1 4)) rfl dX12_readsCount_50 ?_
        refine lv_iconst (v := 1) hx hb dX12_readsCount_53 (by decide) ?_
        refine lv_iadd hx hb dX12_readsCount_54 ?_
        refine rf_puti hx hb hK hT hown 4 (by decide) kfX12_104 rfl rfl dX12_readsCount_55 (fun H locs hT => ?_)
        refine lv_iconst (v := 1) hx hb dX12_readsCount_58 (by decide) ?_
        exact rf_zret hC hT rfl h dX12_readsCount_59
      · have h := h.2 hc
        exact t_X12_readsCount_33 hC σ5 _ _ _ h hT (lv_sub hl [1] rfl)
  · have h := h.2 hc
    refine lv_aload_n hx hb dX12_readsCount_13 rfl (lv_at hl 1 rfl) ?_
    refine lv_iconst (v := 1) hx hb dX12_readsCount_14 (by decide) ?_
    refine lv_aload_n hx hb dX12_readsCount_15 rfl (lv_at hl 1 rfl) ?_
    refine rf_get hx hb hK hT hown 3 (by decide) kfX12_24 (v := .int (σ5.1 3)) rfl dX12_readsCount_16 ?_
    refine rf_calli (rf_runV hx hb hml hown hK hT (c_X12_wrong h) rfl rfl klX12_111 ki_X12_wrong ks_X12_wrong kn_X12 kc_X12_wrong 2 ⟨rfl, by decide, by decide, by decide +kernel⟩ ⟨by decide, by decide⟩ rfl hl.1 rfl (Nat.le_of_ble_eq_true rfl) ⟨Nat.le_refl _, Nat.le_refl _⟩ dX12_readsCount_19) hT (fun r6 σ6 H locs h hT => ?_)
    exact rf_zret hC hT h.1 h.2 dX12_readsCount_22
/-! X12_readsLetters -/
abbrev rm_X12_readsLetters : Room := { frames := 1, cells := 0, slots := 0, locals := 22 }
def w_X12_readsLetters_52 (post : Int32 → rf_S → Prop) (σ : rf_S)  : Prop := wp_X12_wrong (fun r4 σ4 => narrow .boolean (.int r4) = .int r4 ∧ post r4 σ4) σ 2 (σ.1 4)
section
variable {p : Program} {l : Launch} {e : Env} {s : State} {m : MethodId} {args : Array Value} {below : List Frame} {meth : Method} {c : Code} {P : hw_G} {o : Nat} {ad : Nat → Nat}
set_option maxRecDepth 100000 in
set_option maxHeartbeats 4000000 in
theorem t_X12_readsLetters_52 {post : Int32 → rf_S → Prop} (hC : rf_C P RX12 p s m meth c cX12_readsLetters 4 (some .boolean)) (σ : rf_S)  (H : Heap) (locs : List Loc) (ls : Array Slot) (h : w_X12_readsLetters_52 post σ ) (hT : rf_T P s (rf_A o ad) o ad σ H locs) (hl : lv_has ls 4 [(0, .ref o)]) : W p l e rm_X12_readsLetters s m args below meth c H locs 0 0 (MQ below (rf_Qi P o ad post) args s 0 0 (rf_A o ad)) (F0 m 52 ls []) := by
  obtain ⟨hx, hb, hml, hown, hK, -, -⟩ := id hC
  refine lv_aload_n hx hb dX12_readsLetters_52 rfl (lv_at hl 0 rfl) ?_
  refine lv_iconst (v := 2) hx hb dX12_readsLetters_53 (by decide) ?_
  refine lv_aload_n hx hb dX12_readsLetters_54 rfl (lv_at hl 0 rfl) ?_
  refine rf_get hx hb hK hT hown 4 (by decide) kfX12_104 (v := .int (σ.1 4)) rfl dX12_readsLetters_55 ?_
  refine rf_calli (rf_runV hx hb hml hown hK hT (c_X12_wrong h) rfl rfl klX12_111 ki_X12_wrong ks_X12_wrong kn_X12 kc_X12_wrong 2 ⟨rfl, by decide, by decide, by decide +kernel⟩ ⟨by decide, by decide⟩ rfl hl.1 rfl (Nat.le_of_ble_eq_true rfl) ⟨Nat.le_refl _, Nat.le_refl _⟩ dX12_readsLetters_58) hT (fun r4 σ4 H locs h hT => ?_)
  exact rf_zret hC hT h.1 h.2 dX12_readsLetters_61
end
def w_X12_readsLetters_112 (post : Int32 → rf_S → Prop) (k12 : rf_S → Int32 → Int32 → Prop) (σ : rf_S) (x1 : Int32) (x2 : Int32) : Prop := k12 (rf_ui σ 4 ((σ.1 4) + 1)) x1 (x2 + 1)
section
variable {p : Program} {l : Launch} {e : Env} {s : State} {m : MethodId} {args : Array Value} {below : List Frame} {meth : Method} {c : Code} {P : hw_G} {o : Nat} {ad : Nat → Nat}
set_option maxRecDepth 100000 in
set_option maxHeartbeats 4000000 in
theorem t_X12_readsLetters_112 {post : Int32 → rf_S → Prop} {k12 : rf_S → Int32 → Int32 → Prop} (hC : rf_C P RX12 p s m meth c cX12_readsLetters 4 (some .boolean)) (hk12 : ∀ (σ : rf_S) (x1 : Int32) (x2 : Int32) (H : Heap) (locs : List Loc) (ls : Array Slot), k12 σ x1 x2 → rf_T P s (rf_A o ad) o ad σ H locs → lv_has ls 4 [(0, .ref o), (1, .int x1), (2, .int x2)] → W p l e rm_X12_readsLetters s m args below meth c H locs 0 0 (MQ below (rf_Qi P o ad post) args s 0 0 (rf_A o ad)) (F0 m 12 ls [])) (σ : rf_S) (x1 : Int32) (x2 : Int32) (H : Heap) (locs : List Loc) (ls : Array Slot) (h : w_X12_readsLetters_112 post k12 σ x1 x2) (hT : rf_T P s (rf_A o ad) o ad σ H locs) (hl : lv_has ls 4 [(0, .ref o), (1, .int x1), (2, .int x2)]) : W p l e rm_X12_readsLetters s m args below meth c H locs 0 0 (MQ below (rf_Qi P o ad post) args s 0 0 (rf_A o ad)) (F0 m 112 ls []) := by
  obtain ⟨hx, hb, hml, hown, hK, -, -⟩ := id hC
  refine lv_aload_n hx hb dX12_readsLetters_112 rfl (lv_at hl 0 rfl) ?_
  refine lv_dup hx hb dX12_readsLetters_113 rfl ?_
  refine rf_get hx hb hK hT hown 4 (by decide) kfX12_104 (v := .int (σ.1 4)) rfl dX12_readsLetters_114 ?_
  refine lv_iconst (v := 1) hx hb dX12_readsLetters_117 (by decide) ?_
  refine lv_iadd hx hb dX12_readsLetters_118 ?_
  refine rf_puti hx hb hK hT hown 4 (by decide) kfX12_104 rfl rfl dX12_readsLetters_119 (fun H locs hT => ?_)
  refine lv_iinc (v := x2 + 1) (lv' := [(2, _), (0, _), (1, _)]) hx hb dX12_readsLetters_122 hl (k := 2) rfl rfl (by decide) rfl (fun ls hl => ?_)
  refine lv_goto (tgt := 12) hx hb dX12_readsLetters_125 (by decide) ?_
  exact hk12 (rf_ui σ 4 ((σ.1 4) + 1)) x1 (x2 + 1) _ _ _ h hT (lv_sub hl [1, 2, 0] rfl)
end
def w_X12_readsLetters_12 (post : Int32 → rf_S → Prop) : Nat → rf_S → Int32 → Int32 → Prop
  | 0, _, _, _ => False
  | n + 1, σ, x1, x2 => (x1 ≤ x2 → post 1 σ) ∧ (¬ x1 ≤ x2 → wp_X12_byteAt (fun r5 σ5 => (0 ≤ r5 → (r5 < 97 → w_X12_readsLetters_52 post σ5) ∧ (¬ r5 < 97 → (r5 ≤ 122 → (8 ≤ x2 → w_X12_readsLetters_112 post (w_X12_readsLetters_12 post n) (rf_ul σ5 30 ((σ5.2.1 30) ||| (r5.toInt64 <<< ((56 - (8 * (x2 - 8))).toInt64 &&& 63)))) x1 x2) ∧ (¬ 8 ≤ x2 → w_X12_readsLetters_112 post (w_X12_readsLetters_12 post n) (rf_ul σ5 29 ((σ5.2.1 29) ||| (r5.toInt64 <<< ((56 - (8 * x2)).toInt64 &&& 63)))) x1 x2)) ∧ (¬ r5 ≤ 122 → w_X12_readsLetters_52 post σ5))) ∧ (¬ 0 ≤ r5 → wp_X12_wrong (fun r6 σ6 => narrow .boolean (.int r6) = .int r6 ∧ post r6 σ6) σ5 1 (σ5.1 3))) σ (σ.1 4))
section
variable {p : Program} {l : Launch} {e : Env} {s : State} {m : MethodId} {args : Array Value} {below : List Frame} {meth : Method} {c : Code} {P : hw_G} {o : Nat} {ad : Nat → Nat}
set_option maxRecDepth 100000 in
set_option maxHeartbeats 4000000 in
theorem t_X12_readsLetters_12 {post : Int32 → rf_S → Prop} (hC : rf_C P RX12 p s m meth c cX12_readsLetters 4 (some .boolean)) : ∀ (n : Nat) (σ : rf_S) (x1 : Int32) (x2 : Int32) (H : Heap) (locs : List Loc) (ls : Array Slot), w_X12_readsLetters_12 post n σ x1 x2 → rf_T P s (rf_A o ad) o ad σ H locs → lv_has ls 4 [(0, .ref o), (1, .int x1), (2, .int x2)] → W p l e rm_X12_readsLetters s m args below meth c H locs 0 0 (MQ below (rf_Qi P o ad post) args s 0 0 (rf_A o ad)) (F0 m 12 ls []) := by
  obtain ⟨hx, hb, hml, hown, hK, -, -⟩ := id hC
  intro n
  induction n with
  | zero => intro σ x1 x2 H locs ls h; exact False.elim h
  | succ n ih =>
    intro σ x1 x2 H locs ls h hT hl
    refine lv_iload_n hx hb dX12_readsLetters_12 rfl (lv_at hl 2 rfl) ?_
    refine lv_iload_n hx hb dX12_readsLetters_13 rfl (lv_at hl 1 rfl) ?_
    refine lv_icmp_ge (tgt := 128) hx hb dX12_readsLetters_14 (by decide) (fun hc => ?_) (fun hc => ?_)
    · have h := h.1 hc
      refine lv_iconst (v := 1) hx hb dX12_readsLetters_128 (by decide) ?_
      exact rf_zret hC hT rfl h dX12_readsLetters_129
    · have h := h.2 hc
      refine lv_aload_n hx hb dX12_readsLetters_17 rfl (lv_at hl 0 rfl) ?_
      refine lv_aload_n hx hb dX12_readsLetters_18 rfl (lv_at hl 0 rfl) ?_
      refine rf_get hx hb hK hT hown 4 (by decide) kfX12_104 (v := .int (σ.1 4)) rfl dX12_readsLetters_19 ?_
      refine rf_calli (rf_runV hx hb hml hown hK hT (c_X12_byteAt h) rfl rfl klX12_107 ki_X12_byteAt ks_X12_byteAt kn_X12 kc_X12_byteAt 1 ⟨rfl, by decide, by decide, by decide +kernel⟩ ⟨by decide, by decide⟩ rfl hl.1 rfl (Nat.le_of_ble_eq_true rfl) ⟨Nat.le_refl _, Nat.le_refl _⟩ dX12_readsLetters_22) hT (fun r5 σ5 H locs h hT => ?_)
      refine lv_istore_n (lv' := [(3, _), (0, _), (1, _), (2, _)]) hx hb dX12_readsLetters_25 rfl hl (by decide) rfl (fun ls hl => ?_)
      refine lv_iload_n hx hb dX12_readsLetters_26 rfl (lv_at hl 0 rfl) ?_
      refine lv_if_ge (tgt := 40) hx hb dX12_readsLetters_27 (by decide) (fun hc => ?_) (fun hc => ?_)
      · have h := h.1 hc
        refine lv_iload_n hx hb dX12_readsLetters_40 rfl (lv_at hl 0 rfl) ?_
        refine lv_bipush (v := 97) hx hb dX12_readsLetters_41 (by decide) ?_
        refine lv_icmp_lt (tgt := 52) hx hb dX12_readsLetters_43 (by decide) (fun hc => ?_) (fun hc => ?_)
        · have h := h.1 hc
          exact t_X12_readsLetters_52 hC σ5 _ _ _ h hT (lv_sub hl [1] rfl)
        · have h := h.2 hc
          refine lv_iload_n hx hb dX12_readsLetters_46 rfl (lv_at hl 0 rfl) ?_
          refine lv_bipush (v := 122) hx hb dX12_readsLetters_47 (by decide) ?_
          refine lv_icmp_le (tgt := 62) hx hb dX12_readsLetters_49 (by decide) (fun hc => ?_) (fun hc => ?_)
          · have h := h.1 hc
            refine lv_iload_n hx hb dX12_readsLetters_62 rfl (lv_at hl 3 rfl) ?_
            refine lv_bipush (v := 8) hx hb dX12_readsLetters_63 (by decide) ?_
            refine lv_icmp_ge (tgt := 90) hx hb dX12_readsLetters_65 (by decide) (fun hc => ?_) (fun hc => ?_)
            · have h := h.1 hc
              refine lv_aload_n hx hb dX12_readsLetters_90 rfl (lv_at hl 1 rfl) ?_
              refine lv_dup hx hb dX12_readsLetters_91 rfl ?_
              refine rf_get hx hb hK hT hown 30 (by decide) kfX12_126 (v := .long (σ5.2.1 30)) rfl dX12_readsLetters_92 ?_
              refine lv_iload_n hx hb dX12_readsLetters_95 rfl (lv_at hl 0 rfl) ?_
              refine lv_i2l (v := r5.toInt64) hx hb dX12_readsLetters_96 rfl ?_
              refine lv_bipush (v := 56) hx hb dX12_readsLetters_97 (by decide) ?_
              refine lv_bipush (v := 8) hx hb dX12_readsLetters_99 (by decide) ?_
              refine lv_iload_n hx hb dX12_readsLetters_101 rfl (lv_at hl 3 rfl) ?_
              refine lv_bipush (v := 8) hx hb dX12_readsLetters_102 (by decide) ?_
              refine lv_isub hx hb dX12_readsLetters_104 ?_
              refine lv_imul hx hb dX12_readsLetters_105 ?_
              refine lv_isub hx hb dX12_readsLetters_106 ?_
              refine lv_lshl (v := r5.toInt64 <<< ((56 - (8 * (x2 - 8))).toInt64 &&& 63)) hx hb dX12_readsLetters_107 rfl ?_
              refine lv_lor hx hb dX12_readsLetters_108 ?_
              refine rf_putl hx hb hK hT hown 30 (by decide) kfX12_126 rfl rfl dX12_readsLetters_109 (fun H locs hT => ?_)
              exact t_X12_readsLetters_112 hC ih (rf_ul σ5 30 ((σ5.2.1 30) ||| (r5.toInt64 <<< ((56 - (8 * (x2 - 8))).toInt64 &&& 63)))) x1 x2 _ _ _ h hT (lv_sub hl [1, 2, 3] rfl)
            · have h := h.2 hc
              refine lv_aload_n hx hb dX12_readsLetters_68 rfl (lv_at hl 1 rfl) ?_
              refine lv_dup hx hb dX12_readsLetters_69 rfl ?_
              refine rf_get hx hb hK hT hown 29 (by decide) kfX12_123 (v := .long (σ5.2.1 29)) rfl dX12_readsLetters_70 ?_
              refine lv_iload_n hx hb dX12_readsLetters_73 rfl (lv_at hl 0 rfl) ?_
              refine lv_i2l (v := r5.toInt64) hx hb dX12_readsLetters_74 rfl ?_
              refine lv_bipush (v := 56) hx hb dX12_readsLetters_75 (by decide) ?_
              refine lv_bipush (v := 8) hx hb dX12_readsLetters_77 (by decide) ?_
              refine lv_iload_n hx hb dX12_readsLetters_79 rfl (lv_at hl 3 rfl) ?_
              refine lv_imul hx hb dX12_readsLetters_80 ?_
              refine lv_isub hx hb dX12_readsLetters_81 ?_
              refine lv_lshl (v := r5.toInt64 <<< ((56 - (8 * x2)).toInt64 &&& 63)) hx hb dX12_readsLetters_82 rfl ?_
              refine lv_lor hx hb dX12_readsLetters_83 ?_
              refine rf_putl hx hb hK hT hown 29 (by decide) kfX12_123 rfl rfl dX12_readsLetters_84 (fun H locs hT => ?_)
              refine lv_goto (tgt := 112) hx hb dX12_readsLetters_87 (by decide) ?_
              exact t_X12_readsLetters_112 hC ih (rf_ul σ5 29 ((σ5.2.1 29) ||| (r5.toInt64 <<< ((56 - (8 * x2)).toInt64 &&& 63)))) x1 x2 _ _ _ h hT (lv_sub hl [1, 2, 3] rfl)
          · have h := h.2 hc
            exact t_X12_readsLetters_52 hC σ5 _ _ _ h hT (lv_sub hl [1] rfl)
      · have h := h.2 hc
        refine lv_aload_n hx hb dX12_readsLetters_30 rfl (lv_at hl 1 rfl) ?_
        refine lv_iconst (v := 1) hx hb dX12_readsLetters_31 (by decide) ?_
        refine lv_aload_n hx hb dX12_readsLetters_32 rfl (lv_at hl 1 rfl) ?_
        refine rf_get hx hb hK hT hown 3 (by decide) kfX12_24 (v := .int (σ5.1 3)) rfl dX12_readsLetters_33 ?_
        refine rf_calli (rf_runV hx hb hml hown hK hT (c_X12_wrong h) rfl rfl klX12_111 ki_X12_wrong ks_X12_wrong kn_X12 kc_X12_wrong 2 ⟨rfl, by decide, by decide, by decide +kernel⟩ ⟨by decide, by decide⟩ rfl hl.1 rfl (Nat.le_of_ble_eq_true rfl) ⟨Nat.le_refl _, Nat.le_refl _⟩ dX12_readsLetters_36) hT (fun r6 σ6 H locs h hT => ?_)
        exact rf_zret hC hT h.1 h.2 dX12_readsLetters_39
end
def wp_X12_readsLetters (post : Int32 → rf_S → Prop) (σ : rf_S) (p1 : Int32) : Prop := ∃ n9, w_X12_readsLetters_12 post n9 (rf_ul (rf_ul σ 29 0) 30 0) p1 0
set_option maxRecDepth 100000 in
set_option maxHeartbeats 4000000 in
theorem c_X12_readsLetters {l : Launch} {P : hw_G} {o : Nat} {ad : Nat → Nat} {σ : rf_S} {p1 : Int32} {post : Int32 → rf_S → Prop} (h : wp_X12_readsLetters post σ p1) : Met l yX12_readsLetters [Cond.code yX12_readsLetters cX12_readsLetters 4 (some .boolean)] rm_X12_readsLetters (rf_Pc P o ad σ [.ref o, .int p1]) (rf_Qi P o ad post) 0 0 (rf_A o ad) := by
  refine rf_met (by decide) rfl (Nat.le_of_ble_eq_true rfl) ?_
  intro p e s m below meth c ls hC hT hl
  obtain ⟨hx, hb, hml, hown, hK, -, -⟩ := id hC
  have hl : lv_has ls 4 [(0, .ref o), (1, .int p1)] := hl
  refine lv_aload_n hx hb dX12_readsLetters_0 rfl (lv_at hl 0 rfl) ?_
  refine lv_lconst (v := 0) hx hb dX12_readsLetters_1 (by decide) ?_
  refine rf_putl hx hb hK hT hown 29 (by decide) kfX12_123 rfl rfl dX12_readsLetters_2 (fun H locs hT => ?_)
  refine lv_aload_n hx hb dX12_readsLetters_5 rfl (lv_at hl 0 rfl) ?_
  refine lv_lconst (v := 0) hx hb dX12_readsLetters_6 (by decide) ?_
  refine rf_putl hx hb hK hT hown 30 (by decide) kfX12_126 rfl rfl dX12_readsLetters_7 (fun H locs hT => ?_)
  refine lv_iconst (v := 0) hx hb dX12_readsLetters_10 (by decide) ?_
  refine lv_istore_n (lv' := [(2, _), (0, _), (1, _)]) hx hb dX12_readsLetters_11 rfl hl (by decide) rfl (fun ls hl => ?_)
  obtain ⟨n9, h⟩ := h
  exact t_X12_readsLetters_12 hC n9 (rf_ul (rf_ul σ 29 0) 30 0) p1 0 _ _ _ h hT (lv_sub hl [1, 2, 0] rfl)
