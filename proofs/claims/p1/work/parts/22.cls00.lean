/-! X11_putFour -/
abbrev rm_X11_putFour : Room := { frames := 0, cells := 0, slots := 0, locals := 0 }
def w_X11_putFour_51 (post : cs_S → Prop) (G : Nat → Nat) (S : cs_S)  : Prop := post S
section
variable {p : Program} {l : Launch} {e : Env} {s : State} {m : MethodId} {args : Array Value} {below : List Frame} {meth : Method} {c : Code} {P : hw_G} {G : Nat → Nat} {A : Nat → Prop}
set_option maxRecDepth 100000 in
set_option maxHeartbeats 4000000 in
theorem t_X11_putFour_51 {post : cs_S → Prop} (hC : rf_C P RX11 p s m meth c cX11_putFour 3 none) (hin : meth.name = yX11_putFour.name) (hO : cs_O G A s s.heap) (S : cs_S)  (H : Heap) (locs : List Loc) (ls : Array Slot) (h : w_X11_putFour_51 post G S ) (hT : cs_T P s A S H locs) (hl : lv_has ls 3 []) : W p l e rm_X11_putFour s m args below meth c H locs 0 0 (MQ below (cs_Qv P A post) args s 0 0 A) (F0 m 51 ls []) := by
  obtain ⟨hx, hb, hml, hown, hK, -, -⟩ := id hC
  exact cs_vret hC hT h dX11_putFour_51 (Nat.le_refl _) (Nat.le_refl _)
end
def w_X11_putFour_3 (post : cs_S → Prop) (G : Nat → Nat) : Nat → cs_S → Nat → Int32 → Int32 → Prop
  | 0, _, _, _, _ => False
  | n + 1, S, x0, x1, x2 => (x2 < 0 → w_X11_putFour_51 post G S) ∧ (¬ x2 < 0 → cs_k S x0 = 13 ∧ ∀ r12, r12 = cs_r S 1200 x0 → ∃ b13, r12 = some b13 ∧ cs_k S b13 = 20 ∧ ((Int32.ofNat (cs_n S b13)) ≤ (cs_i S 1201 x0) → w_X11_putFour_51 post G S) ∧ (¬ (Int32.ofNat (cs_n S b13)) ≤ (cs_i S 1201 x0) → ∀ r15, r15 = cs_r S 1200 x0 → ∃ b16, r15 = some b16 ∧ cs_k S b16 = 20 ∧ vp_in (cs_i S 1201 x0) (cs_n S b16) ∧ ∀ S18, S18 = cs_uai S b16 (cs_i S 1201 x0).toNatClampNeg (((x1.toUInt32 >>> (x2.toUInt32 &&& Int32.toUInt32 31)).toInt32) &&& 255) → cs_k S18 x0 = 13 ∧ ∀ S20, S20 = cs_ui S18 1201 x0 ((cs_i S18 1201 x0) + 1) → w_X11_putFour_3 post G n S20 x0 x1 (x2 + (-8))))
section
variable {p : Program} {l : Launch} {e : Env} {s : State} {m : MethodId} {args : Array Value} {below : List Frame} {meth : Method} {c : Code} {P : hw_G} {G : Nat → Nat} {A : Nat → Prop}
set_option maxRecDepth 100000 in
set_option maxHeartbeats 4000000 in
theorem t_X11_putFour_3 {post : cs_S → Prop} (hC : rf_C P RX11 p s m meth c cX11_putFour 3 none) (hin : meth.name = yX11_putFour.name) (hO : cs_O G A s s.heap) : ∀ (n : Nat) (S : cs_S) (x0 : Nat) (x1 : Int32) (x2 : Int32) (H : Heap) (locs : List Loc) (ls : Array Slot), w_X11_putFour_3 post G n S x0 x1 x2 → cs_T P s A S H locs → lv_has ls 3 [(0, .ref x0), (1, .int x1), (2, .int x2)] → W p l e rm_X11_putFour s m args below meth c H locs 0 0 (MQ below (cs_Qv P A post) args s 0 0 A) (F0 m 3 ls []) := by
  obtain ⟨hx, hb, hml, hown, hK, -, -⟩ := id hC
  intro n
  induction n with
  | zero => intro S x0 x1 x2 H locs ls h; exact False.elim h
  | succ n ih =>
    intro S x0 x1 x2 H locs ls h hT hl
    refine lv_iload_n hx hb dX11_putFour_3 rfl (lv_at hl 2 rfl) ?_
    refine lv_if_lt (tgt := 51) hx hb dX11_putFour_4 (by decide) (fun hc => ?_) (fun hc => ?_)
    · replace h := h.1 hc
      exact t_X11_putFour_51 hC hin hO S _ _ _ h hT (lv_sub hl [] rfl)
    · replace h := h.2 hc
      refine lv_aload_n (x := x0) hx hb dX11_putFour_7 rfl (lv_at hl 0 rfl) ?_
      obtain ⟨hk11_, h⟩ := h
      refine cs_get hx hb hK hT hown 12 hk11_ (by decide) rfl 1 (by decide) kfX11_42 (v := .int (cs_i S 1201 x0)) rfl dX11_putFour_8 ?_
      refine lv_aload_n (x := x0) hx hb dX11_putFour_11 rfl (lv_at hl 0 rfl) ?_
      refine cs_get hx hb hK hT hown 12 hk11_ (by decide) rfl 0 (by decide) kfX11_9 (v := va_rf (cs_r S 1200 x0)) rfl dX11_putFour_12 ?_
      refine hw_topr (fun r12 er12 => ?_)
      replace h := h r12 er12
      obtain ⟨b13, rfl, h⟩ := h
      obtain ⟨hk14_, h⟩ := h
      refine cs_alen hx hb hK hT 20 hk14_ (by decide) (by decide) dX11_putFour_15 ?_
      refine lv_icmp_ge (tgt := 51) hx hb dX11_putFour_16 (by decide) (fun hc => ?_) (fun hc => ?_)
      · replace h := h.1 hc
        exact t_X11_putFour_51 hC hin hO S _ _ _ h hT (lv_sub hl [] rfl)
      · replace h := h.2 hc
        refine lv_aload_n (x := x0) hx hb dX11_putFour_19 rfl (lv_at hl 0 rfl) ?_
        refine cs_get hx hb hK hT hown 12 hk11_ (by decide) rfl 0 (by decide) kfX11_9 (v := va_rf (cs_r S 1200 x0)) rfl dX11_putFour_20 ?_
        refine hw_topr (fun r15 er15 => ?_)
        replace h := h r15 er15
        refine lv_aload_n (x := x0) hx hb dX11_putFour_23 rfl (lv_at hl 0 rfl) ?_
        refine cs_get hx hb hK hT hown 12 hk11_ (by decide) rfl 1 (by decide) kfX11_42 (v := .int (cs_i S 1201 x0)) rfl dX11_putFour_24 ?_
        refine lv_iload_n hx hb dX11_putFour_27 rfl (lv_at hl 1 rfl) ?_
        refine lv_iload_n hx hb dX11_putFour_28 rfl (lv_at hl 2 rfl) ?_
        refine lv_iushr (v := (x1.toUInt32 >>> (x2.toUInt32 &&& Int32.toUInt32 31)).toInt32) hx hb dX11_putFour_29 rfl ?_
        refine lv_sipush (v := 255) hx hb dX11_putFour_30 (by decide) ?_
        refine lv_iand hx hb dX11_putFour_33 ?_
        obtain ⟨b16, rfl, h⟩ := h
        obtain ⟨hk17_, h⟩ := h
        obtain ⟨hi, h⟩ := h
        refine cs_iast hx hb hK hT hk17_ hi dX11_putFour_34 (fun H locs hT_ => ?_)
        replace hT := hT_
        obtain ⟨S18, eS18⟩ : ∃ z, z = cs_uai S b16 (cs_i S 1201 x0).toNatClampNeg (((x1.toUInt32 >>> (x2.toUInt32 &&& Int32.toUInt32 31)).toInt32) &&& 255) := ⟨_, rfl⟩
        rw [← eS18] at hT
        replace h := h S18 eS18
        refine lv_aload_n (x := x0) hx hb dX11_putFour_35 rfl (lv_at hl 0 rfl) ?_
        refine lv_dup hx hb dX11_putFour_36 rfl ?_
        obtain ⟨hk19_, h⟩ := h
        refine cs_get hx hb hK hT hown 12 hk19_ (by decide) rfl 1 (by decide) kfX11_42 (v := .int (cs_i S18 1201 x0)) rfl dX11_putFour_37 ?_
        refine lv_iconst (v := 1) hx hb dX11_putFour_40 (by decide) ?_
        refine lv_iadd hx hb dX11_putFour_41 ?_
        refine cs_puti (x := ((cs_i S18 1201 x0) + 1)) hx hb hK hT hown 12 hk19_ (by decide) rfl 1 (by decide) kfX11_42 rfl (tyX11_ok 1 (by decide)) rfl 1201 rfl dX11_putFour_42 (fun H locs hT_ => ?_)
        replace hT := hT_
        obtain ⟨S20, eS20⟩ : ∃ z, z = cs_ui S18 1201 x0 ((cs_i S18 1201 x0) + 1) := ⟨_, rfl⟩
        rw [← eS20] at hT
        replace h := h S20 eS20
        refine lv_iinc (v := x2 + (-8)) (lv' := [(2, _), (0, _), (1, _)]) hx hb dX11_putFour_45 hl (k := 2) rfl rfl (by decide) rfl (fun ls hl_ => ?_)
        replace hl := hl_
        refine lv_goto (tgt := 3) hx hb dX11_putFour_48 (by decide) ?_
        exact ih S20 x0 x1 (x2 + (-8)) _ _ _ h hT (lv_sub hl [1, 2, 0] rfl)
end
def wp_X11_putFour (post : cs_S → Prop) (G : Nat → Nat) (S : cs_S) (o : Nat) (p1 : Int32) : Prop := ∃ n9, w_X11_putFour_3 post G n9 S o p1 24
set_option maxRecDepth 100000 in
set_option maxHeartbeats 4000000 in
theorem c_X11_putFour {l : Launch} {P : hw_G} {G : Nat → Nat} {S : cs_S} {sz : Nat} {o : Nat} {p1 : Int32} {post : cs_S → Prop} (h : wp_X11_putFour post G S o p1) : Met l yX11_putFour [Cond.code yX11_putFour cX11_putFour 3 none] rm_X11_putFour (cs_Pc P G S sz [.ref o, .int p1]) (cs_Qv P (cs_A S sz) post) 0 0 (cs_A S sz) := by
  refine cs_met (by decide) rfl (Nat.le_of_ble_eq_true rfl) ?_
  intro p e s m below meth c ls hC hin hO hT hl
  obtain ⟨hx, hb, hml, hown, hK, -, -⟩ := id hC
  replace hl : lv_has ls 3 [(0, .ref o), (1, .int p1)] := hl
  refine lv_bipush (v := 24) hx hb dX11_putFour_0 (by decide) ?_
  refine lv_istore_n (lv' := [(2, _), (0, _), (1, _)]) hx hb dX11_putFour_2 rfl hl (by decide) rfl (fun ls hl_ => ?_)
  replace hl := hl_
  obtain ⟨n9, h⟩ := h
  exact t_X11_putFour_3 hC hin hO n9 S o p1 24 _ _ _ h hT (lv_sub hl [1, 2, 0] rfl)
/-! X11_feed -/
abbrev rm_X11_feed : Room := { frames := 1, cells := 0, slots := 0, locals := 22 }
def wp_X11_feed (post : Int32 → cs_S → Prop) (G : Nat → Nat) (S : cs_S) (o : Nat) (p1 : Int32) (p2 : Int32) (p3 : Int32) (p4 : Int32) (p5 : Int32) : Prop := cs_k S o = 13 ∧ ∀ r16, r16 = cs_r S 1200 o → ∃ b17, r16 = some b17 ∧ cs_k S b17 = 20 ∧ (((cs_i S 1201 o) + 20) ≤ (Int32.ofNat (cs_n S b17)) → wp_X11_putFour (fun S19 => cs_k S19 o = 13 ∧ wp_X11_putFour (fun S20 => cs_k S20 o = 13 ∧ wp_X11_putFour (fun S22 => cs_k S22 o = 13 ∧ wp_X11_putFour (fun S24 => cs_k S24 o = 13 ∧ wp_X11_putFour (fun S26 => cs_k S26 o = 13 ∧ post (cs_i S26 1201 o) S26) G S24 o p5) G S22 o p4) G S20 o p3) G S19 o p2) G S o p1) ∧ (¬ ((cs_i S 1201 o) + 20) ≤ (Int32.ofNat (cs_n S b17)) → post ((-1)) S)
set_option maxRecDepth 100000 in
set_option maxHeartbeats 4000000 in
theorem c_X11_feed {l : Launch} {P : hw_G} {G : Nat → Nat} {S : cs_S} {sz : Nat} {o : Nat} {p1 : Int32} {p2 : Int32} {p3 : Int32} {p4 : Int32} {p5 : Int32} {post : Int32 → cs_S → Prop} (h : wp_X11_feed post G S o p1 p2 p3 p4 p5) : Met l yX11_feed [Cond.code yX11_feed cX11_feed 6 (some .int)] rm_X11_feed (cs_Pc P G S sz [.ref o, .int p1, .int p2, .int p3, .int p4, .int p5]) (cs_Qi P (cs_A S sz) post) 0 0 (cs_A S sz) := by
  refine cs_met (by decide) rfl (Nat.le_of_ble_eq_true rfl) ?_
  intro p e s m below meth c ls hC hin hO hT hl
  obtain ⟨hx, hb, hml, hown, hK, -, -⟩ := id hC
  replace hl : lv_has ls 6 [(0, .ref o), (1, .int p1), (2, .int p2), (3, .int p3), (4, .int p4), (5, .int p5)] := hl
  refine lv_aload_n (x := o) hx hb dX11_feed_0 rfl (lv_at hl 0 rfl) ?_
  obtain ⟨hk15_, h⟩ := h
  refine cs_get hx hb hK hT hown 12 hk15_ (by decide) rfl 1 (by decide) kfX11_42 (v := .int (cs_i S 1201 o)) rfl dX11_feed_1 ?_
  refine lv_bipush (v := 20) hx hb dX11_feed_4 (by decide) ?_
  refine lv_iadd hx hb dX11_feed_6 ?_
  refine lv_aload_n (x := o) hx hb dX11_feed_7 rfl (lv_at hl 0 rfl) ?_
  refine cs_get hx hb hK hT hown 12 hk15_ (by decide) rfl 0 (by decide) kfX11_9 (v := va_rf (cs_r S 1200 o)) rfl dX11_feed_8 ?_
  refine hw_topr (fun r16 er16 => ?_)
  replace h := h r16 er16
  obtain ⟨b17, rfl, h⟩ := h
  obtain ⟨hk18_, h⟩ := h
  refine cs_alen hx hb hK hT 20 hk18_ (by decide) (by decide) dX11_feed_11 ?_
  refine lv_icmp_le (tgt := 17) hx hb dX11_feed_12 (by decide) (fun hc => ?_) (fun hc => ?_)
  · replace h := h.1 hc
    refine lv_aload_n (x := o) hx hb dX11_feed_17 rfl (lv_at hl 0 rfl) ?_
    refine lv_iload_n hx hb dX11_feed_18 rfl (lv_at hl 1 rfl) ?_
    refine cs_callv0 (cs_runV hx hb hml hown hK hO hT 12 hk15_ (by decide) rfl (c_X11_putFour h) rfl rfl klX11_45 ki_X11_putFour ks_X11_putFour kn_X11 kc_X11_putFour 1 ⟨rfl, by decide, by decide, by decide +kernel⟩ ⟨by decide, by decide⟩ rfl hl.1 rfl (Nat.le_of_ble_eq_true rfl) ⟨(Nat.le_refl _), (Nat.le_refl _)⟩ dX11_feed_19) hT (fun S19 H locs h_ hT_ => ?_)
    replace h := h_
    replace hT := hT_
    refine lv_aload_n (x := o) hx hb dX11_feed_22 rfl (lv_at hl 0 rfl) ?_
    refine lv_iload_n hx hb dX11_feed_23 rfl (lv_at hl 2 rfl) ?_
    obtain ⟨hk21_, h⟩ := h
    refine cs_callv0 (cs_runV hx hb hml hown hK hO hT 12 hk21_ (by decide) rfl (c_X11_putFour h) rfl rfl klX11_45 ki_X11_putFour ks_X11_putFour kn_X11 kc_X11_putFour 1 ⟨rfl, by decide, by decide, by decide +kernel⟩ ⟨by decide, by decide⟩ rfl hl.1 rfl (Nat.le_of_ble_eq_true rfl) ⟨(Nat.le_refl _), (Nat.le_refl _)⟩ dX11_feed_24) hT (fun S20 H locs h_ hT_ => ?_)
    replace h := h_
    replace hT := hT_
    refine lv_aload_n (x := o) hx hb dX11_feed_27 rfl (lv_at hl 0 rfl) ?_
    refine lv_iload_n hx hb dX11_feed_28 rfl (lv_at hl 3 rfl) ?_
    obtain ⟨hk23_, h⟩ := h
    refine cs_callv0 (cs_runV hx hb hml hown hK hO hT 12 hk23_ (by decide) rfl (c_X11_putFour h) rfl rfl klX11_45 ki_X11_putFour ks_X11_putFour kn_X11 kc_X11_putFour 1 ⟨rfl, by decide, by decide, by decide +kernel⟩ ⟨by decide, by decide⟩ rfl hl.1 rfl (Nat.le_of_ble_eq_true rfl) ⟨(Nat.le_refl _), (Nat.le_refl _)⟩ dX11_feed_29) hT (fun S22 H locs h_ hT_ => ?_)
    replace h := h_
    replace hT := hT_
    refine lv_aload_n (x := o) hx hb dX11_feed_32 rfl (lv_at hl 0 rfl) ?_
    refine lv_iload hx hb dX11_feed_33 (lv_at hl 4 rfl) ?_
    obtain ⟨hk25_, h⟩ := h
    refine cs_callv0 (cs_runV hx hb hml hown hK hO hT 12 hk25_ (by decide) rfl (c_X11_putFour h) rfl rfl klX11_45 ki_X11_putFour ks_X11_putFour kn_X11 kc_X11_putFour 1 ⟨rfl, by decide, by decide, by decide +kernel⟩ ⟨by decide, by decide⟩ rfl hl.1 rfl (Nat.le_of_ble_eq_true rfl) ⟨(Nat.le_refl _), (Nat.le_refl _)⟩ dX11_feed_35) hT (fun S24 H locs h_ hT_ => ?_)
    replace h := h_
    replace hT := hT_
    refine lv_aload_n (x := o) hx hb dX11_feed_38 rfl (lv_at hl 0 rfl) ?_
    refine lv_iload hx hb dX11_feed_39 (lv_at hl 5 rfl) ?_
    obtain ⟨hk27_, h⟩ := h
    refine cs_callv0 (cs_runV hx hb hml hown hK hO hT 12 hk27_ (by decide) rfl (c_X11_putFour h) rfl rfl klX11_45 ki_X11_putFour ks_X11_putFour kn_X11 kc_X11_putFour 1 ⟨rfl, by decide, by decide, by decide +kernel⟩ ⟨by decide, by decide⟩ rfl hl.1 rfl (Nat.le_of_ble_eq_true rfl) ⟨(Nat.le_refl _), (Nat.le_refl _)⟩ dX11_feed_41) hT (fun S26 H locs h_ hT_ => ?_)
    replace h := h_
    replace hT := hT_
    refine lv_aload_n (x := o) hx hb dX11_feed_44 rfl (lv_at hl 0 rfl) ?_
    obtain ⟨hk28_, h⟩ := h
    refine cs_get hx hb hK hT hown 12 hk28_ (by decide) rfl 1 (by decide) kfX11_42 (v := .int (cs_i S26 1201 o)) rfl dX11_feed_45 ?_
    exact cs_iret hC hT h dX11_feed_48 (Nat.le_refl _) (Nat.le_refl _)
  · replace h := h.2 hc
    refine lv_iconst (v := (-1)) hx hb dX11_feed_15 (by decide) ?_
    exact cs_iret hC hT h dX11_feed_16 (Nat.le_refl _) (Nat.le_refl _)
/-! X11_end -/
abbrev rm_X11_end : Room := { frames := 0, cells := 0, slots := 0, locals := 0 }
def w_X11_end_12 (post : Int32 → cs_S → Prop) (G : Nat → Nat) (S : cs_S)  : Prop := post 0 S
section
variable {p : Program} {l : Launch} {e : Env} {s : State} {m : MethodId} {args : Array Value} {below : List Frame} {meth : Method} {c : Code} {P : hw_G} {G : Nat → Nat} {A : Nat → Prop}
set_option maxRecDepth 100000 in
set_option maxHeartbeats 4000000 in
theorem t_X11_end_12 {post : Int32 → cs_S → Prop} (hC : rf_C P RX11 p s m meth c cX11_end 2 (some .boolean)) (hin : meth.name = yX11_end.name) (hO : cs_O G A s s.heap) (S : cs_S)  (H : Heap) (locs : List Loc) (ls : Array Slot) (h : w_X11_end_12 post G S ) (hT : cs_T P s A S H locs) (hl : lv_has ls 2 []) : W p l e rm_X11_end s m args below meth c H locs 0 0 (MQ below (cs_Qi P A post) args s 0 0 A) (F0 m 12 ls []) := by
  obtain ⟨hx, hb, hml, hown, hK, -, -⟩ := id hC
  refine lv_iconst (v := 0) hx hb dX11_end_12 (by decide) ?_
  exact cs_zret hC hT rfl h dX11_end_13 (Nat.le_refl _) (Nat.le_refl _)
end
def wp_X11_end (post : Int32 → cs_S → Prop) (G : Nat → Nat) (S : cs_S) (o : Nat) (p1 : Int32) : Prop := (p1 < 0 → w_X11_end_12 post G S) ∧ (¬ p1 < 0 → cs_k S o = 13 ∧ (p1 ≤ (cs_i S 1201 o) → ∀ S4, S4 = cs_ui S 1201 o p1 → post 1 S4) ∧ (¬ p1 ≤ (cs_i S 1201 o) → w_X11_end_12 post G S))
set_option maxRecDepth 100000 in
set_option maxHeartbeats 4000000 in
theorem c_X11_end {l : Launch} {P : hw_G} {G : Nat → Nat} {S : cs_S} {sz : Nat} {o : Nat} {p1 : Int32} {post : Int32 → cs_S → Prop} (h : wp_X11_end post G S o p1) : Met l yX11_end [Cond.code yX11_end cX11_end 2 (some .boolean)] rm_X11_end (cs_Pc P G S sz [.ref o, .int p1]) (cs_Qi P (cs_A S sz) post) 0 0 (cs_A S sz) := by
  refine cs_met (by decide) rfl (Nat.le_of_ble_eq_true rfl) ?_
  intro p e s m below meth c ls hC hin hO hT hl
  obtain ⟨hx, hb, hml, hown, hK, -, -⟩ := id hC
  replace hl : lv_has ls 2 [(0, .ref o), (1, .int p1)] := hl
  refine lv_iload_n hx hb dX11_end_0 rfl (lv_at hl 1 rfl) ?_
  refine lv_if_lt (tgt := 12) hx hb dX11_end_1 (by decide) (fun hc => ?_) (fun hc => ?_)
  · replace h := h.1 hc
    exact t_X11_end_12 hC hin hO S _ _ _ h hT (lv_sub hl [] rfl)
  · replace h := h.2 hc
    refine lv_iload_n hx hb dX11_end_4 rfl (lv_at hl 1 rfl) ?_
    refine lv_aload_n (x := o) hx hb dX11_end_5 rfl (lv_at hl 0 rfl) ?_
    obtain ⟨hk3_, h⟩ := h
    refine cs_get hx hb hK hT hown 12 hk3_ (by decide) rfl 1 (by decide) kfX11_42 (v := .int (cs_i S 1201 o)) rfl dX11_end_6 ?_
    refine lv_icmp_le (tgt := 14) hx hb dX11_end_9 (by decide) (fun hc => ?_) (fun hc => ?_)
    · replace h := h.1 hc
      refine lv_aload_n (x := o) hx hb dX11_end_14 rfl (lv_at hl 0 rfl) ?_
      refine lv_iload_n hx hb dX11_end_15 rfl (lv_at hl 1 rfl) ?_
      refine cs_puti (x := p1) hx hb hK hT hown 12 hk3_ (by decide) rfl 1 (by decide) kfX11_42 rfl (tyX11_ok 1 (by decide)) rfl 1201 rfl dX11_end_16 (fun H locs hT_ => ?_)
      replace hT := hT_
      obtain ⟨S4, eS4⟩ : ∃ z, z = cs_ui S 1201 o p1 := ⟨_, rfl⟩
      rw [← eS4] at hT
      replace h := h S4 eS4
      refine lv_iconst (v := 1) hx hb dX11_end_19 (by decide) ?_
      exact cs_zret hC hT rfl h dX11_end_20 (Nat.le_refl _) (Nat.le_refl _)
    · replace h := h.2 hc
      exact t_X11_end_12 hC hin hO S _ _ _ h hT (lv_sub hl [] rfl)
/-! X11_fault -/
abbrev rm_X11_fault : Room := { frames := 0, cells := 0, slots := 0, locals := 0 }
def wp_X11_fault (post : Int32 → cs_S → Prop) (G : Nat → Nat) (S : cs_S) (o : Nat) : Prop := cs_k S o = 13 ∧ post (cs_i S 1202 o) S
set_option maxRecDepth 100000 in
set_option maxHeartbeats 4000000 in
theorem c_X11_fault {l : Launch} {P : hw_G} {G : Nat → Nat} {S : cs_S} {sz : Nat} {o : Nat} {post : Int32 → cs_S → Prop} (h : wp_X11_fault post G S o) : Met l yX11_fault [Cond.code yX11_fault cX11_fault 1 (some .int)] rm_X11_fault (cs_Pc P G S sz [.ref o]) (cs_Qi P (cs_A S sz) post) 0 0 (cs_A S sz) := by
  refine cs_met (by decide) rfl (Nat.le_of_ble_eq_true rfl) ?_
  intro p e s m below meth c ls hC hin hO hT hl
  obtain ⟨hx, hb, hml, hown, hK, -, -⟩ := id hC
  replace hl : lv_has ls 1 [(0, .ref o)] := hl
  refine lv_aload_n (x := o) hx hb dX11_fault_0 rfl (lv_at hl 0 rfl) ?_
  obtain ⟨hk2_, h⟩ := h
  refine cs_get hx hb hK hT hown 12 hk2_ (by decide) rfl 2 (by decide) kfX11_68 (v := .int (cs_i S 1202 o)) rfl dX11_fault_1 ?_
  exact cs_iret hC hT h dX11_fault_4 (Nat.le_refl _) (Nat.le_refl _)
/-! X11_place -/
abbrev rm_X11_place : Room := { frames := 0, cells := 0, slots := 0, locals := 0 }
def wp_X11_place (post : Int32 → cs_S → Prop) (G : Nat → Nat) (S : cs_S) (o : Nat) : Prop := cs_k S o = 13 ∧ post (cs_i S 1203 o) S
set_option maxRecDepth 100000 in
set_option maxHeartbeats 4000000 in
theorem c_X11_place {l : Launch} {P : hw_G} {G : Nat → Nat} {S : cs_S} {sz : Nat} {o : Nat} {post : Int32 → cs_S → Prop} (h : wp_X11_place post G S o) : Met l yX11_place [Cond.code yX11_place cX11_place 1 (some .int)] rm_X11_place (cs_Pc P G S sz [.ref o]) (cs_Qi P (cs_A S sz) post) 0 0 (cs_A S sz) := by
  refine cs_met (by decide) rfl (Nat.le_of_ble_eq_true rfl) ?_
  intro p e s m below meth c ls hC hin hO hT hl
  obtain ⟨hx, hb, hml, hown, hK, -, -⟩ := id hC
  replace hl : lv_has ls 1 [(0, .ref o)] := hl
  refine lv_aload_n (x := o) hx hb dX11_place_0 rfl (lv_at hl 0 rfl) ?_
  obtain ⟨hk2_, h⟩ := h
  refine cs_get hx hb hK hT hown 12 hk2_ (by decide) rfl 3 (by decide) kfX11_13 (v := .int (cs_i S 1203 o)) rfl dX11_place_1 ?_
  exact cs_iret hC hT h dX11_place_4 (Nat.le_refl _) (Nat.le_refl _)
/-! X11_count -/
abbrev rm_X11_count : Room := { frames := 0, cells := 0, slots := 0, locals := 0 }
def wp_X11_count (post : Int32 → cs_S → Prop) (G : Nat → Nat) (S : cs_S) (o : Nat) (p1 : Int32) : Prop := (p1.toInt < 0 ∨ 7 < p1.toInt → post ((-1)) S) ∧ (p1.toInt = 0 → cs_k S o = 13 ∧ ∀ r31, r31 = cs_r S 1206 o → ∃ b32, r31 = some b32 ∧ cs_k S b32 = 12 ∧ post (cs_i S 1101 b32) S) ∧ (p1.toInt = 1 → cs_k S o = 13 ∧ ∀ r35, r35 = cs_r S 1206 o → ∃ b36, r35 = some b36 ∧ cs_k S b36 = 12 ∧ post (cs_i S 1104 b36) S) ∧ (p1.toInt = 2 → cs_k S o = 13 ∧ ∀ r39, r39 = cs_r S 1206 o → ∃ b40, r39 = some b40 ∧ cs_k S b40 = 12 ∧ post (cs_i S 1105 b40) S) ∧ (p1.toInt = 3 → cs_k S o = 13 ∧ ∀ r43, r43 = cs_r S 1206 o → ∃ b44, r43 = some b44 ∧ cs_k S b44 = 12 ∧ post (cs_i S 1106 b44) S) ∧ (p1.toInt = 4 → cs_k S o = 13 ∧ ∀ r47, r47 = cs_r S 1206 o → ∃ b48, r47 = some b48 ∧ cs_k S b48 = 12 ∧ post (cs_i S 1107 b48) S) ∧ (p1.toInt = 5 → cs_k S o = 13 ∧ ∀ r51, r51 = cs_r S 1206 o → ∃ b52, r51 = some b52 ∧ cs_k S b52 = 12 ∧ post (cs_i S 1108 b52) S) ∧ (p1.toInt = 6 → cs_k S o = 13 ∧ post (cs_i S 1201 o) S) ∧ (p1.toInt = 7 → cs_k S o = 13 ∧ ∀ r56, r56 = cs_r S 1205 o → ∃ b57, r56 = some b57 ∧ cs_k S b57 = 8 ∧ post (cs_i S 703 b57) S)
set_option maxRecDepth 100000 in
set_option maxHeartbeats 4000000 in
theorem c_X11_count {l : Launch} {P : hw_G} {G : Nat → Nat} {S : cs_S} {sz : Nat} {o : Nat} {p1 : Int32} {post : Int32 → cs_S → Prop} (h : wp_X11_count post G S o p1) : Met l yX11_count [Cond.code yX11_count cX11_count 2 (some .int)] rm_X11_count (cs_Pc P G S sz [.ref o, .int p1]) (cs_Qi P (cs_A S sz) post) 0 0 (cs_A S sz) := by
  refine cs_met (by decide) rfl (Nat.le_of_ble_eq_true rfl) ?_
  intro p e s m below meth c ls hC hin hO hT hl
  obtain ⟨hx, hb, hml, hown, hK, -, -⟩ := id hC
  replace hl : lv_has ls 2 [(0, .ref o), (1, .int p1)] := hl
  refine lv_iload_n hx hb dX11_count_0 rfl (lv_at hl 1 rfl) ?_
  by_cases hz : p1.toInt < 0 ∨ 7 < p1.toInt
  · replace h := h.1 hz
    refine lv_tableOut (tgt := 109) hx hb dX11_count_1 hz (by decide) ?_
    refine lv_iconst (v := (-1)) hx hb dX11_count_109 (by decide) ?_
    exact cs_iret hC hT h dX11_count_110 (Nat.le_refl _) (Nat.le_refl _)
  have hz : p1.toInt = 0 ∨ p1.toInt = 1 ∨ p1.toInt = 2 ∨ p1.toInt = 3 ∨ p1.toInt = 4 ∨ p1.toInt = 5 ∨ p1.toInt = 6 ∨ p1.toInt = 7 := by omega
  rcases hz with hz | hz | hz | hz | hz | hz | hz | hz
  · replace h := h.2.1 hz
    refine hw_tab (tgt := 48) hx hb hz dX11_count_1 (by decide) (by decide) (off := 47) rfl (by decide) ?_
    refine lv_aload_n (x := o) hx hb dX11_count_48 rfl (lv_at hl 0 rfl) ?_
    obtain ⟨hk30_, h⟩ := h
    refine cs_get hx hb hK hT hown 12 hk30_ (by decide) rfl 6 (by decide) kfX11_38 (v := va_rf (cs_r S 1206 o)) rfl dX11_count_49 ?_
    refine hw_topr (fun r31 er31 => ?_)
    replace h := h r31 er31
    obtain ⟨b32, rfl, h⟩ := h
    obtain ⟨hk33_, h⟩ := h
    refine cs_get hx hb hK hT hown 11 hk33_ (by decide) rfl 1 (by decide) kfX11_77 (v := .int (cs_i S 1101 b32)) rfl dX11_count_52 ?_
    exact cs_iret hC hT h dX11_count_55 (Nat.le_refl _) (Nat.le_refl _)
  · replace h := h.2.2.1 hz
    refine hw_tab (tgt := 56) hx hb hz dX11_count_1 (by decide) (by decide) (off := 55) rfl (by decide) ?_
    refine lv_aload_n (x := o) hx hb dX11_count_56 rfl (lv_at hl 0 rfl) ?_
    obtain ⟨hk34_, h⟩ := h
    refine cs_get hx hb hK hT hown 12 hk34_ (by decide) rfl 6 (by decide) kfX11_38 (v := va_rf (cs_r S 1206 o)) rfl dX11_count_57 ?_
    refine hw_topr (fun r35 er35 => ?_)
    replace h := h r35 er35
    obtain ⟨b36, rfl, h⟩ := h
    obtain ⟨hk37_, h⟩ := h
    refine cs_get hx hb hK hT hown 11 hk37_ (by decide) rfl 4 (by decide) kfX11_111 (v := .int (cs_i S 1104 b36)) rfl dX11_count_60 ?_
    exact cs_iret hC hT h dX11_count_63 (Nat.le_refl _) (Nat.le_refl _)
  · replace h := h.2.2.2.1 hz
    refine hw_tab (tgt := 64) hx hb hz dX11_count_1 (by decide) (by decide) (off := 63) rfl (by decide) ?_
    refine lv_aload_n (x := o) hx hb dX11_count_64 rfl (lv_at hl 0 rfl) ?_
    obtain ⟨hk38_, h⟩ := h
    refine cs_get hx hb hK hT hown 12 hk38_ (by decide) rfl 6 (by decide) kfX11_38 (v := va_rf (cs_r S 1206 o)) rfl dX11_count_65 ?_
    refine hw_topr (fun r39 er39 => ?_)
    replace h := h r39 er39
    obtain ⟨b40, rfl, h⟩ := h
    obtain ⟨hk41_, h⟩ := h
    refine cs_get hx hb hK hT hown 11 hk41_ (by decide) rfl 5 (by decide) kfX11_114 (v := .int (cs_i S 1105 b40)) rfl dX11_count_68 ?_
    exact cs_iret hC hT h dX11_count_71 (Nat.le_refl _) (Nat.le_refl _)
  · replace h := h.2.2.2.2.1 hz
    refine hw_tab (tgt := 72) hx hb hz dX11_count_1 (by decide) (by decide) (off := 71) rfl (by decide) ?_
    refine lv_aload_n (x := o) hx hb dX11_count_72 rfl (lv_at hl 0 rfl) ?_
    obtain ⟨hk42_, h⟩ := h
    refine cs_get hx hb hK hT hown 12 hk42_ (by decide) rfl 6 (by decide) kfX11_38 (v := va_rf (cs_r S 1206 o)) rfl dX11_count_73 ?_
    refine hw_topr (fun r43 er43 => ?_)
    replace h := h r43 er43
    obtain ⟨b44, rfl, h⟩ := h
    obtain ⟨hk45_, h⟩ := h
    refine cs_get hx hb hK hT hown 11 hk45_ (by decide) rfl 6 (by decide) kfX11_117 (v := .int (cs_i S 1106 b44)) rfl dX11_count_76 ?_
    exact cs_iret hC hT h dX11_count_79 (Nat.le_refl _) (Nat.le_refl _)
  · replace h := h.2.2.2.2.2.1 hz
    refine hw_tab (tgt := 80) hx hb hz dX11_count_1 (by decide) (by decide) (off := 79) rfl (by decide) ?_
    refine lv_aload_n (x := o) hx hb dX11_count_80 rfl (lv_at hl 0 rfl) ?_
    obtain ⟨hk46_, h⟩ := h
    refine cs_get hx hb hK hT hown 12 hk46_ (by decide) rfl 6 (by decide) kfX11_38 (v := va_rf (cs_r S 1206 o)) rfl dX11_count_81 ?_
    refine hw_topr (fun r47 er47 => ?_)
    replace h := h r47 er47
    obtain ⟨b48, rfl, h⟩ := h
    obtain ⟨hk49_, h⟩ := h
    refine cs_get hx hb hK hT hown 11 hk49_ (by decide) rfl 7 (by decide) kfX11_120 (v := .int (cs_i S 1107 b48)) rfl dX11_count_84 ?_
    exact cs_iret hC hT h dX11_count_87 (Nat.le_refl _) (Nat.le_refl _)
  · replace h := h.2.2.2.2.2.2.1 hz
    refine hw_tab (tgt := 88) hx hb hz dX11_count_1 (by decide) (by decide) (off := 87) rfl (by decide) ?_
    refine lv_aload_n (x := o) hx hb dX11_count_88 rfl (lv_at hl 0 rfl) ?_
    obtain ⟨hk50_, h⟩ := h
    refine cs_get hx hb hK hT hown 12 hk50_ (by decide) rfl 6 (by decide) kfX11_38 (v := va_rf (cs_r S 1206 o)) rfl dX11_count_89 ?_
    refine hw_topr (fun r51 er51 => ?_)
    replace h := h r51 er51
    obtain ⟨b52, rfl, h⟩ := h
    obtain ⟨hk53_, h⟩ := h
    refine cs_get hx hb hK hT hown 11 hk53_ (by decide) rfl 8 (by decide) kfX11_89 (v := .int (cs_i S 1108 b52)) rfl dX11_count_92 ?_
    exact cs_iret hC hT h dX11_count_95 (Nat.le_refl _) (Nat.le_refl _)
  · replace h := h.2.2.2.2.2.2.2.1 hz
    refine hw_tab (tgt := 96) hx hb hz dX11_count_1 (by decide) (by decide) (off := 95) rfl (by decide) ?_
    refine lv_aload_n (x := o) hx hb dX11_count_96 rfl (lv_at hl 0 rfl) ?_
    obtain ⟨hk54_, h⟩ := h
    refine cs_get hx hb hK hT hown 12 hk54_ (by decide) rfl 1 (by decide) kfX11_42 (v := .int (cs_i S 1201 o)) rfl dX11_count_97 ?_
    exact cs_iret hC hT h dX11_count_100 (Nat.le_refl _) (Nat.le_refl _)
  · replace h := h.2.2.2.2.2.2.2.2 hz
    refine hw_tab (tgt := 101) hx hb hz dX11_count_1 (by decide) (by decide) (off := 100) rfl (by decide) ?_
    refine lv_aload_n (x := o) hx hb dX11_count_101 rfl (lv_at hl 0 rfl) ?_
    obtain ⟨hk55_, h⟩ := h
    refine cs_get hx hb hK hT hown 12 hk55_ (by decide) rfl 5 (by decide) kfX11_27 (v := va_rf (cs_r S 1205 o)) rfl dX11_count_102 ?_
    refine hw_topr (fun r56 er56 => ?_)
    replace h := h r56 er56
    obtain ⟨b57, rfl, h⟩ := h
    obtain ⟨hk58_, h⟩ := h
    refine cs_get hx hb hK hT hown 7 hk58_ (by decide) rfl 3 (by decide) kfX11_123 (v := .int (cs_i S 703 b57)) rfl dX11_count_105 ?_
    exact cs_iret hC hT h dX11_count_108 (Nat.le_refl _) (Nat.le_refl _)
/-! X8_put -/
abbrev rm_X8_put : Room := { frames := 0, cells := 0, slots := 0, locals := 0 }
def w_X8_put_52 (post : cs_S → Prop) (G : Nat → Nat) (S : cs_S)  : Prop := post S
section
variable {p : Program} {l : Launch} {e : Env} {s : State} {m : MethodId} {args : Array Value} {below : List Frame} {meth : Method} {c : Code} {P : hw_G} {G : Nat → Nat} {A : Nat → Prop}
set_option maxRecDepth 100000 in
set_option maxHeartbeats 4000000 in
theorem t_X8_put_52 {post : cs_S → Prop} (hC : rf_C P RX8 p s m meth c cX8_put 5 none) (hin : meth.name = yX8_put.name) (hO : cs_O G A s s.heap) (S : cs_S)  (H : Heap) (locs : List Loc) (ls : Array Slot) (h : w_X8_put_52 post G S ) (hT : cs_T P s A S H locs) (hl : lv_has ls 5 []) : W p l e rm_X8_put s m args below meth c H locs 0 0 (MQ below (cs_Qv P A post) args s 0 0 A) (F0 m 52 ls []) := by
  obtain ⟨hx, hb, hml, hown, hK, -, -⟩ := id hC
  exact cs_vret hC hT h dX8_put_52 (Nat.le_refl _) (Nat.le_refl _)
end
def wp_X8_put (post : cs_S → Prop) (G : Nat → Nat) (S : cs_S) (o : Nat) (p1 : Int32) (p2 : Int32) (p3 : Int64) : Prop := cs_k S o = 10 ∧ ∀ r22, r22 = cs_r S 900 o → ∃ b23, r22 = some b23 ∧ cs_k S b23 = 20 ∧ ((Int32.ofNat (cs_n S b23)) ≤ (cs_i S 906 o) → w_X8_put_52 post G S) ∧ (¬ (Int32.ofNat (cs_n S b23)) ≤ (cs_i S 906 o) → ∀ r25, r25 = cs_r S 900 o → ∃ b26, r25 = some b26 ∧ cs_k S b26 = 20 ∧ vp_in (cs_i S 906 o) (cs_n S b26) ∧ ∀ S28, S28 = cs_uai S b26 (cs_i S 906 o).toNatClampNeg p1 → cs_k S28 o = 10 ∧ ∀ r30, r30 = cs_r S28 901 o → ∃ b31, r30 = some b31 ∧ cs_k S28 b31 = 20 ∧ vp_in (cs_i S28 906 o) (cs_n S28 b31) ∧ ∀ S33, S33 = cs_uai S28 b31 (cs_i S28 906 o).toNatClampNeg p2 → cs_k S33 o = 10 ∧ ∀ r35, r35 = cs_r S33 902 o → ∃ b36, r35 = some b36 ∧ cs_k S33 b36 = 21 ∧ vp_in (cs_i S33 906 o) (cs_n S33 b36) ∧ ∀ S38, S38 = cs_ual S33 b36 (cs_i S33 906 o).toNatClampNeg p3 → cs_k S38 o = 10 ∧ ∀ S40, S40 = cs_ui S38 906 o ((cs_i S38 906 o) + 1) → w_X8_put_52 post G S40)
set_option maxRecDepth 100000 in
set_option maxHeartbeats 4000000 in
theorem c_X8_put {l : Launch} {P : hw_G} {G : Nat → Nat} {S : cs_S} {sz : Nat} {o : Nat} {p1 : Int32} {p2 : Int32} {p3 : Int64} {post : cs_S → Prop} (h : wp_X8_put post G S o p1 p2 p3) : Met l yX8_put [Cond.code yX8_put cX8_put 5 none] rm_X8_put (cs_Pc P G S sz [.ref o, .int p1, .int p2, .long p3]) (cs_Qv P (cs_A S sz) post) 0 0 (cs_A S sz) := by
  refine cs_met (by decide) rfl (Nat.le_of_ble_eq_true rfl) ?_
  intro p e s m below meth c ls hC hin hO hT hl
  obtain ⟨hx, hb, hml, hown, hK, -, -⟩ := id hC
  replace hl : lv_has ls 5 [(0, .ref o), (1, .int p1), (2, .int p2), (3, .long p3)] := hl
  refine lv_aload_n (x := o) hx hb dX8_put_0 rfl (lv_at hl 0 rfl) ?_
  obtain ⟨hk21_, h⟩ := h
  refine cs_get hx hb hK hT hown 9 hk21_ (by decide) rfl 6 (by decide) kfX8_57 (v := .int (cs_i S 906 o)) rfl dX8_put_1 ?_
  refine lv_aload_n (x := o) hx hb dX8_put_4 rfl (lv_at hl 0 rfl) ?_
  refine cs_get hx hb hK hT hown 9 hk21_ (by decide) rfl 0 (by decide) kfX8_9 (v := va_rf (cs_r S 900 o)) rfl dX8_put_5 ?_
  refine hw_topr (fun r22 er22 => ?_)
  replace h := h r22 er22
  obtain ⟨b23, rfl, h⟩ := h
  obtain ⟨hk24_, h⟩ := h
  refine cs_alen hx hb hK hT 20 hk24_ (by decide) (by decide) dX8_put_8 ?_
  refine lv_icmp_ge (tgt := 52) hx hb dX8_put_9 (by decide) (fun hc => ?_) (fun hc => ?_)
  · replace h := h.1 hc
    exact t_X8_put_52 hC hin hO S _ _ _ h hT (lv_sub hl [] rfl)
  · replace h := h.2 hc
    refine lv_aload_n (x := o) hx hb dX8_put_12 rfl (lv_at hl 0 rfl) ?_
    refine cs_get hx hb hK hT hown 9 hk21_ (by decide) rfl 0 (by decide) kfX8_9 (v := va_rf (cs_r S 900 o)) rfl dX8_put_13 ?_
    refine hw_topr (fun r25 er25 => ?_)
    replace h := h r25 er25
    refine lv_aload_n (x := o) hx hb dX8_put_16 rfl (lv_at hl 0 rfl) ?_
    refine cs_get hx hb hK hT hown 9 hk21_ (by decide) rfl 6 (by decide) kfX8_57 (v := .int (cs_i S 906 o)) rfl dX8_put_17 ?_
    refine lv_iload_n hx hb dX8_put_20 rfl (lv_at hl 1 rfl) ?_
    obtain ⟨b26, rfl, h⟩ := h
    obtain ⟨hk27_, h⟩ := h
    obtain ⟨hi, h⟩ := h
    refine cs_iast hx hb hK hT hk27_ hi dX8_put_21 (fun H locs hT_ => ?_)
    replace hT := hT_
    obtain ⟨S28, eS28⟩ : ∃ z, z = cs_uai S b26 (cs_i S 906 o).toNatClampNeg p1 := ⟨_, rfl⟩
    rw [← eS28] at hT
    replace h := h S28 eS28
    refine lv_aload_n (x := o) hx hb dX8_put_22 rfl (lv_at hl 0 rfl) ?_
    obtain ⟨hk29_, h⟩ := h
    refine cs_get hx hb hK hT hown 9 hk29_ (by decide) rfl 1 (by decide) kfX8_15 (v := va_rf (cs_r S28 901 o)) rfl dX8_put_23 ?_
    refine hw_topr (fun r30 er30 => ?_)
    replace h := h r30 er30
    refine lv_aload_n (x := o) hx hb dX8_put_26 rfl (lv_at hl 0 rfl) ?_
    refine cs_get hx hb hK hT hown 9 hk29_ (by decide) rfl 6 (by decide) kfX8_57 (v := .int (cs_i S28 906 o)) rfl dX8_put_27 ?_
    refine lv_iload_n hx hb dX8_put_30 rfl (lv_at hl 2 rfl) ?_
    obtain ⟨b31, rfl, h⟩ := h
    obtain ⟨hk32_, h⟩ := h
    obtain ⟨hi, h⟩ := h
    refine cs_iast hx hb hK hT hk32_ hi dX8_put_31 (fun H locs hT_ => ?_)
    replace hT := hT_
    obtain ⟨S33, eS33⟩ : ∃ z, z = cs_uai S28 b31 (cs_i S28 906 o).toNatClampNeg p2 := ⟨_, rfl⟩
    rw [← eS33] at hT
    replace h := h S33 eS33
    refine lv_aload_n (x := o) hx hb dX8_put_32 rfl (lv_at hl 0 rfl) ?_
    obtain ⟨hk34_, h⟩ := h
    refine cs_get hx hb hK hT hown 9 hk34_ (by decide) rfl 2 (by decide) kfX8_18 (v := va_rf (cs_r S33 902 o)) rfl dX8_put_33 ?_
    refine hw_topr (fun r35 er35 => ?_)
    replace h := h r35 er35
    refine lv_aload_n (x := o) hx hb dX8_put_36 rfl (lv_at hl 0 rfl) ?_
    refine cs_get hx hb hK hT hown 9 hk34_ (by decide) rfl 6 (by decide) kfX8_57 (v := .int (cs_i S33 906 o)) rfl dX8_put_37 ?_
    refine lv_lload_n hx hb dX8_put_40 rfl (lv_at hl 3 rfl) ?_
    obtain ⟨b36, rfl, h⟩ := h
    obtain ⟨hk37_, h⟩ := h
    obtain ⟨hi, h⟩ := h
    refine cs_last hx hb hK hT hk37_ hi dX8_put_41 (fun H locs hT_ => ?_)
    replace hT := hT_
    obtain ⟨S38, eS38⟩ : ∃ z, z = cs_ual S33 b36 (cs_i S33 906 o).toNatClampNeg p3 := ⟨_, rfl⟩
    rw [← eS38] at hT
    replace h := h S38 eS38
    refine lv_aload_n (x := o) hx hb dX8_put_42 rfl (lv_at hl 0 rfl) ?_
    refine lv_dup hx hb dX8_put_43 rfl ?_
    obtain ⟨hk39_, h⟩ := h
    refine cs_get hx hb hK hT hown 9 hk39_ (by decide) rfl 6 (by decide) kfX8_57 (v := .int (cs_i S38 906 o)) rfl dX8_put_44 ?_
    refine lv_iconst (v := 1) hx hb dX8_put_47 (by decide) ?_
    refine lv_iadd hx hb dX8_put_48 ?_
    refine cs_puti (x := ((cs_i S38 906 o) + 1)) hx hb hK hT hown 9 hk39_ (by decide) rfl 6 (by decide) kfX8_57 rfl (tyX8_ok 6 (by decide)) rfl 906 rfl dX8_put_49 (fun H locs hT_ => ?_)
    replace hT := hT_
    obtain ⟨S40, eS40⟩ : ∃ z, z = cs_ui S38 906 o ((cs_i S38 906 o) + 1) := ⟨_, rfl⟩
    rw [← eS40] at hT
    replace h := h S40 eS40
    exact t_X8_put_52 hC hin hO S40 _ _ _ h hT (lv_sub hl [] rfl)
/-! X8_octetAt -/
abbrev rm_X8_octetAt : Room := { frames := 0, cells := 0, slots := 0, locals := 0 }
def w_X8_octetAt_22 (post : Int32 → cs_S → Prop) (G : Nat → Nat) (S : cs_S) (y0 : Int32) : Prop := post y0 S
section
variable {p : Program} {l : Launch} {e : Env} {s : State} {m : MethodId} {args : Array Value} {below : List Frame} {meth : Method} {c : Code} {P : hw_G} {G : Nat → Nat} {A : Nat → Prop}
set_option maxRecDepth 100000 in
set_option maxHeartbeats 4000000 in
theorem t_X8_octetAt_22 {post : Int32 → cs_S → Prop} (hC : rf_C P RX8 p s m meth c cX8_octetAt 2 (some .int)) (hin : meth.name = yX8_octetAt.name) (hO : cs_O G A s s.heap) (S : cs_S) (y0 : Int32) (H : Heap) (locs : List Loc) (ls : Array Slot) (h : w_X8_octetAt_22 post G S y0) (hT : cs_T P s A S H locs) (hl : lv_has ls 2 []) : W p l e rm_X8_octetAt s m args below meth c H locs 0 0 (MQ below (cs_Qi P A post) args s 0 0 A) (F0 m 22 ls [.int y0]) := by
  obtain ⟨hx, hb, hml, hown, hK, -, -⟩ := id hC
  exact cs_iret hC hT h dX8_octetAt_22 (Nat.le_refl _) (Nat.le_refl _)
end
def w_X8_octetAt_21 (post : Int32 → cs_S → Prop) (G : Nat → Nat) (S : cs_S)  : Prop := w_X8_octetAt_22 post G S ((-1))
section
variable {p : Program} {l : Launch} {e : Env} {s : State} {m : MethodId} {args : Array Value} {below : List Frame} {meth : Method} {c : Code} {P : hw_G} {G : Nat → Nat} {A : Nat → Prop}
set_option maxRecDepth 100000 in
set_option maxHeartbeats 4000000 in
theorem t_X8_octetAt_21 {post : Int32 → cs_S → Prop} (hC : rf_C P RX8 p s m meth c cX8_octetAt 2 (some .int)) (hin : meth.name = yX8_octetAt.name) (hO : cs_O G A s s.heap) (S : cs_S)  (H : Heap) (locs : List Loc) (ls : Array Slot) (h : w_X8_octetAt_21 post G S ) (hT : cs_T P s A S H locs) (hl : lv_has ls 2 []) : W p l e rm_X8_octetAt s m args below meth c H locs 0 0 (MQ below (cs_Qi P A post) args s 0 0 A) (F0 m 21 ls []) := by
  obtain ⟨hx, hb, hml, hown, hK, -, -⟩ := id hC
  refine lv_iconst (v := (-1)) hx hb dX8_octetAt_21 (by decide) ?_
  exact t_X8_octetAt_22 hC hin hO S ((-1)) _ _ _ h hT (lv_sub hl [] rfl)
end
def wp_X8_octetAt (post : Int32 → cs_S → Prop) (G : Nat → Nat) (S : cs_S) (o : Nat) (p1 : Int32) : Prop := (p1 < 0 → w_X8_octetAt_21 post G S) ∧ (¬ p1 < 0 → cs_k S o = 10 ∧ ((cs_i S 905 o) ≤ p1 → w_X8_octetAt_21 post G S) ∧ (¬ (cs_i S 905 o) ≤ p1 → ∀ r6, r6 = cs_r S 904 o → ∃ b7, r6 = some b7 ∧ cs_k S b7 = 20 ∧ vp_in p1 (cs_n S b7) ∧ w_X8_octetAt_22 post G S (cs_ai S b7 p1.toNatClampNeg)))
set_option maxRecDepth 100000 in
set_option maxHeartbeats 4000000 in
theorem c_X8_octetAt {l : Launch} {P : hw_G} {G : Nat → Nat} {S : cs_S} {sz : Nat} {o : Nat} {p1 : Int32} {post : Int32 → cs_S → Prop} (h : wp_X8_octetAt post G S o p1) : Met l yX8_octetAt [Cond.code yX8_octetAt cX8_octetAt 2 (some .int)] rm_X8_octetAt (cs_Pc P G S sz [.ref o, .int p1]) (cs_Qi P (cs_A S sz) post) 0 0 (cs_A S sz) := by
  refine cs_met (by decide) rfl (Nat.le_of_ble_eq_true rfl) ?_
  intro p e s m below meth c ls hC hin hO hT hl
  obtain ⟨hx, hb, hml, hown, hK, -, -⟩ := id hC
  replace hl : lv_has ls 2 [(0, .ref o), (1, .int p1)] := hl
  refine lv_iload_n hx hb dX8_octetAt_0 rfl (lv_at hl 1 rfl) ?_
  refine lv_if_lt (tgt := 21) hx hb dX8_octetAt_1 (by decide) (fun hc => ?_) (fun hc => ?_)
  · replace h := h.1 hc
    exact t_X8_octetAt_21 hC hin hO S _ _ _ h hT (lv_sub hl [] rfl)
  · replace h := h.2 hc
    refine lv_iload_n hx hb dX8_octetAt_4 rfl (lv_at hl 1 rfl) ?_
    refine lv_aload_n (x := o) hx hb dX8_octetAt_5 rfl (lv_at hl 0 rfl) ?_
    obtain ⟨hk5_, h⟩ := h
    refine cs_get hx hb hK hT hown 9 hk5_ (by decide) rfl 5 (by decide) kfX8_53 (v := .int (cs_i S 905 o)) rfl dX8_octetAt_6 ?_
    refine lv_icmp_ge (tgt := 21) hx hb dX8_octetAt_9 (by decide) (fun hc => ?_) (fun hc => ?_)
    · replace h := h.1 hc
      exact t_X8_octetAt_21 hC hin hO S _ _ _ h hT (lv_sub hl [] rfl)
    · replace h := h.2 hc
      refine lv_aload_n (x := o) hx hb dX8_octetAt_12 rfl (lv_at hl 0 rfl) ?_
      refine cs_get hx hb hK hT hown 9 hk5_ (by decide) rfl 4 (by decide) kfX8_28 (v := va_rf (cs_r S 904 o)) rfl dX8_octetAt_13 ?_
      refine hw_topr (fun r6 er6 => ?_)
      replace h := h r6 er6
      refine lv_iload_n hx hb dX8_octetAt_16 rfl (lv_at hl 1 rfl) ?_
      obtain ⟨b7, rfl, h⟩ := h
      obtain ⟨hk8_, h⟩ := h
      obtain ⟨hi, h⟩ := h
      refine cs_iald hx hb hK hT hk8_ hi dX8_octetAt_17 ?_
      refine lv_goto (tgt := 22) hx hb dX8_octetAt_18 (by decide) ?_
      exact t_X8_octetAt_22 hC hin hO S (cs_ai S b7 p1.toNatClampNeg) _ _ _ h hT (lv_sub hl [] rfl)
/-! X9_same -/
abbrev rm_X9_same : Room := { frames := 0, cells := 0, slots := 0, locals := 0 }
def w_X9_same_33 (post : Int32 → cs_S → Prop) (G : Nat → Nat) (S : cs_S)  : Prop := post 0 S
section
variable {p : Program} {l : Launch} {e : Env} {s : State} {m : MethodId} {args : Array Value} {below : List Frame} {meth : Method} {c : Code} {P : hw_G} {G : Nat → Nat} {A : Nat → Prop}
set_option maxRecDepth 100000 in
set_option maxHeartbeats 4000000 in
theorem t_X9_same_33 {post : Int32 → cs_S → Prop} (hC : rf_C P RX9 p s m meth c cX9_same 3 (some .boolean)) (hin : meth.name = yX9_same.name) (hO : cs_O G A s s.heap) (S : cs_S)  (H : Heap) (locs : List Loc) (ls : Array Slot) (h : w_X9_same_33 post G S ) (hT : cs_T P s A S H locs) (hl : lv_has ls 3 []) : W p l e rm_X9_same s m args below meth c H locs 0 0 (MQ below (cs_Qi P A post) args s 0 0 A) (F0 m 33 ls []) := by
  obtain ⟨hx, hb, hml, hown, hK, -, -⟩ := id hC
  refine lv_iconst (v := 0) hx hb dX9_same_33 (by decide) ?_
  exact cs_zret hC hT rfl h dX9_same_34 (Nat.le_refl _) (Nat.le_refl _)
end
def w_X9_same_78 (post : Int32 → cs_S → Prop) (G : Nat → Nat) (S : cs_S)  : Prop := post 1 S
section
variable {p : Program} {l : Launch} {e : Env} {s : State} {m : MethodId} {args : Array Value} {below : List Frame} {meth : Method} {c : Code} {P : hw_G} {G : Nat → Nat} {A : Nat → Prop}
set_option maxRecDepth 100000 in
set_option maxHeartbeats 4000000 in
theorem t_X9_same_78 {post : Int32 → cs_S → Prop} (hC : rf_C P RX9 p s m meth c cX9_same 3 (some .boolean)) (hin : meth.name = yX9_same.name) (hO : cs_O G A s s.heap) (S : cs_S)  (H : Heap) (locs : List Loc) (ls : Array Slot) (h : w_X9_same_78 post G S ) (hT : cs_T P s A S H locs) (hl : lv_has ls 3 []) : W p l e rm_X9_same s m args below meth c H locs 0 0 (MQ below (cs_Qi P A post) args s 0 0 A) (F0 m 78 ls []) := by
  obtain ⟨hx, hb, hml, hown, hK, -, -⟩ := id hC
  refine lv_iconst (v := 1) hx hb dX9_same_78 (by decide) ?_
  exact cs_zret hC hT rfl h dX9_same_79 (Nat.le_refl _) (Nat.le_refl _)
end
def w_X9_same_37 (post : Int32 → cs_S → Prop) (G : Nat → Nat) : Nat → cs_S → Nat → Option Nat → Int32 → Prop
  | 0, _, _, _, _ => False
  | n + 1, S, x0, x1, x2 => cs_k S x0 = 11 ∧ ∀ r17, r17 = cs_r S 1002 x0 → ∃ b18, r17 = some b18 ∧ cs_k S b18 = 20 ∧ ((Int32.ofNat (cs_n S b18)) ≤ x2 → w_X9_same_78 post G S) ∧ (¬ (Int32.ofNat (cs_n S b18)) ≤ x2 → ∃ b20, x1 = some b20 ∧ cs_k S b20 = 11 ∧ ∀ r22, r22 = cs_r S 1002 b20 → ∃ b23, r22 = some b23 ∧ cs_k S b23 = 20 ∧ ((Int32.ofNat (cs_n S b23)) ≤ x2 → w_X9_same_78 post G S) ∧ (¬ (Int32.ofNat (cs_n S b23)) ≤ x2 → ∀ r25, r25 = cs_r S 1002 x0 → ∃ b26, r25 = some b26 ∧ cs_k S b26 = 20 ∧ vp_in x2 (cs_n S b26) ∧ ∀ r28, r28 = cs_r S 1002 b20 → ∃ b29, r28 = some b29 ∧ cs_k S b29 = 20 ∧ vp_in x2 (cs_n S b29) ∧ ((cs_ai S b26 x2.toNatClampNeg) = (cs_ai S b29 x2.toNatClampNeg) → w_X9_same_37 post G n S x0 (some b20) (x2 + 1)) ∧ (¬ (cs_ai S b26 x2.toNatClampNeg) = (cs_ai S b29 x2.toNatClampNeg) → post 0 S)))
section
variable {p : Program} {l : Launch} {e : Env} {s : State} {m : MethodId} {args : Array Value} {below : List Frame} {meth : Method} {c : Code} {P : hw_G} {G : Nat → Nat} {A : Nat → Prop}
set_option maxRecDepth 100000 in
set_option maxHeartbeats 4000000 in
theorem t_X9_same_37 {post : Int32 → cs_S → Prop} (hC : rf_C P RX9 p s m meth c cX9_same 3 (some .boolean)) (hin : meth.name = yX9_same.name) (hO : cs_O G A s s.heap) : ∀ (n : Nat) (S : cs_S) (x0 : Nat) (x1 : Option Nat) (x2 : Int32) (H : Heap) (locs : List Loc) (ls : Array Slot), w_X9_same_37 post G n S x0 x1 x2 → cs_T P s A S H locs → lv_has ls 3 [(0, .ref x0), (1, va_rf x1), (2, .int x2)] → W p l e rm_X9_same s m args below meth c H locs 0 0 (MQ below (cs_Qi P A post) args s 0 0 A) (F0 m 37 ls []) := by
  obtain ⟨hx, hb, hml, hown, hK, -, -⟩ := id hC
  intro n
  induction n with
  | zero => intro S x0 x1 x2 H locs ls h; exact False.elim h
  | succ n ih =>
    intro S x0 x1 x2 H locs ls h hT hl
    refine lv_iload_n hx hb dX9_same_37 rfl (lv_at hl 2 rfl) ?_
    refine lv_aload_n (x := x0) hx hb dX9_same_38 rfl (lv_at hl 0 rfl) ?_
    obtain ⟨hk16_, h⟩ := h
    refine cs_get hx hb hK hT hown 10 hk16_ (by decide) rfl 2 (by decide) kfX9_18 (v := va_rf (cs_r S 1002 x0)) rfl dX9_same_39 ?_
    refine hw_topr (fun r17 er17 => ?_)
    replace h := h r17 er17
    obtain ⟨b18, rfl, h⟩ := h
    obtain ⟨hk19_, h⟩ := h
    refine cs_alen hx hb hK hT 20 hk19_ (by decide) (by decide) dX9_same_42 ?_
    refine lv_icmp_ge (tgt := 78) hx hb dX9_same_43 (by decide) (fun hc => ?_) (fun hc => ?_)
    · replace h := h.1 hc
      exact t_X9_same_78 hC hin hO S _ _ _ h hT (lv_sub hl [] rfl)
    · replace h := h.2 hc
      refine lv_iload_n hx hb dX9_same_46 rfl (lv_at hl 2 rfl) ?_
      refine hw_aload_n (x := x1) hx hb dX9_same_47 rfl (lv_at hl 1 rfl) ?_
      obtain ⟨b20, rfl, h⟩ := h
      obtain ⟨hk21_, h⟩ := h
      refine cs_get hx hb hK hT hown 10 hk21_ (by decide) rfl 2 (by decide) kfX9_18 (v := va_rf (cs_r S 1002 b20)) rfl dX9_same_48 ?_
      refine hw_topr (fun r22 er22 => ?_)
      replace h := h r22 er22
      obtain ⟨b23, rfl, h⟩ := h
      obtain ⟨hk24_, h⟩ := h
      refine cs_alen hx hb hK hT 20 hk24_ (by decide) (by decide) dX9_same_51 ?_
      refine lv_icmp_ge (tgt := 78) hx hb dX9_same_52 (by decide) (fun hc => ?_) (fun hc => ?_)
      · replace h := h.1 hc
        exact t_X9_same_78 hC hin hO S _ _ _ h hT (lv_sub hl [] rfl)
      · replace h := h.2 hc
        refine lv_aload_n (x := x0) hx hb dX9_same_55 rfl (lv_at hl 0 rfl) ?_
        refine cs_get hx hb hK hT hown 10 hk16_ (by decide) rfl 2 (by decide) kfX9_18 (v := va_rf (cs_r S 1002 x0)) rfl dX9_same_56 ?_
        refine hw_topr (fun r25 er25 => ?_)
        replace h := h r25 er25
        refine lv_iload_n hx hb dX9_same_59 rfl (lv_at hl 2 rfl) ?_
        obtain ⟨b26, rfl, h⟩ := h
        obtain ⟨hk27_, h⟩ := h
        obtain ⟨hi, h⟩ := h
        refine cs_iald hx hb hK hT hk27_ hi dX9_same_60 ?_
        refine lv_aload_n (x := b20) hx hb dX9_same_61 rfl (lv_at hl 1 rfl) ?_
        refine cs_get hx hb hK hT hown 10 hk21_ (by decide) rfl 2 (by decide) kfX9_18 (v := va_rf (cs_r S 1002 b20)) rfl dX9_same_62 ?_
        refine hw_topr (fun r28 er28 => ?_)
        replace h := h r28 er28
        refine lv_iload_n hx hb dX9_same_65 rfl (lv_at hl 2 rfl) ?_
        obtain ⟨b29, rfl, h⟩ := h
        obtain ⟨hk30_, h⟩ := h
        obtain ⟨hi, h⟩ := h
        refine cs_iald hx hb hK hT hk30_ hi dX9_same_66 ?_
        refine lv_icmp_eq (tgt := 72) hx hb dX9_same_67 (by decide) (fun hc => ?_) (fun hc => ?_)
        · replace h := h.1 hc
          refine lv_iinc (v := x2 + 1) (lv' := [(2, _), (0, _), (1, _)]) hx hb dX9_same_72 hl (k := 2) rfl rfl (by decide) rfl (fun ls hl_ => ?_)
          replace hl := hl_
          refine lv_goto (tgt := 37) hx hb dX9_same_75 (by decide) ?_
          exact ih S x0 (some b20) (x2 + 1) _ _ _ h hT (lv_sub hl [1, 2, 0] rfl)
        · replace h := h.2 hc
          refine lv_iconst (v := 0) hx hb dX9_same_70 (by decide) ?_
          exact cs_zret hC hT rfl h dX9_same_71 (Nat.le_refl _) (Nat.le_refl _)
end
def wp_X9_same (post : Int32 → cs_S → Prop) (G : Nat → Nat) (S : cs_S) (o : Nat) (p1 : Option Nat) : Prop := cs_k S o = 11 ∧ ∃ b32, p1 = some b32 ∧ cs_k S b32 = 11 ∧ (¬ (cs_i S 1000 o) = (cs_i S 1000 b32) → w_X9_same_33 post G S) ∧ ((cs_i S 1000 o) = (cs_i S 1000 b32) → (¬ (cs_i S 1003 o) = (cs_i S 1003 b32) → w_X9_same_33 post G S) ∧ ((cs_i S 1003 o) = (cs_i S 1003 b32) → ((cs_i S 1001 o) = (cs_i S 1001 b32) → ∃ n9, w_X9_same_37 post G n9 S o (some b32) 0) ∧ (¬ (cs_i S 1001 o) = (cs_i S 1001 b32) → w_X9_same_33 post G S)))
set_option maxRecDepth 100000 in
set_option maxHeartbeats 4000000 in
theorem c_X9_same {l : Launch} {P : hw_G} {G : Nat → Nat} {S : cs_S} {sz : Nat} {o : Nat} {p1 : Option Nat} {post : Int32 → cs_S → Prop} (h : wp_X9_same post G S o p1) : Met l yX9_same [Cond.code yX9_same cX9_same 3 (some .boolean)] rm_X9_same (cs_Pc P G S sz [.ref o, va_rf p1]) (cs_Qi P (cs_A S sz) post) 0 0 (cs_A S sz) := by
  refine cs_met (by decide) rfl (by cases p1 <;> exact Nat.le_of_ble_eq_true rfl) ?_
  intro p e s m below meth c ls hC hin hO hT hl
  obtain ⟨hx, hb, hml, hown, hK, -, -⟩ := id hC
  replace hl : lv_has ls 3 [(0, .ref o), (1, va_rf p1)] := by cases p1 <;> exact hl
  refine lv_aload_n (x := o) hx hb dX9_same_0 rfl (lv_at hl 0 rfl) ?_
  obtain ⟨hk31_, h⟩ := h
  refine cs_get hx hb hK hT hown 10 hk31_ (by decide) rfl 0 (by decide) kfX9_9 (v := .int (cs_i S 1000 o)) rfl dX9_same_1 ?_
  refine hw_aload_n (x := p1) hx hb dX9_same_4 rfl (lv_at hl 1 rfl) ?_
  obtain ⟨b32, rfl, h⟩ := h
  obtain ⟨hk33_, h⟩ := h
  refine cs_get hx hb hK hT hown 10 hk33_ (by decide) rfl 0 (by decide) kfX9_9 (v := .int (cs_i S 1000 b32)) rfl dX9_same_5 ?_
  refine lv_icmp_ne (tgt := 33) hx hb dX9_same_8 (by decide) (fun hc => ?_) (fun hc => ?_)
  · replace h := h.1 hc
    exact t_X9_same_33 hC hin hO S _ _ _ h hT (lv_sub hl [] rfl)
  · replace h := h.2 hc
    refine lv_aload_n (x := o) hx hb dX9_same_11 rfl (lv_at hl 0 rfl) ?_
    refine cs_get hx hb hK hT hown 10 hk31_ (by decide) rfl 3 (by decide) kfX9_22 (v := .int (cs_i S 1003 o)) rfl dX9_same_12 ?_
    refine lv_aload_n (x := b32) hx hb dX9_same_15 rfl (lv_at hl 1 rfl) ?_
    refine cs_get hx hb hK hT hown 10 hk33_ (by decide) rfl 3 (by decide) kfX9_22 (v := .int (cs_i S 1003 b32)) rfl dX9_same_16 ?_
    refine lv_icmp_ne (tgt := 33) hx hb dX9_same_19 (by decide) (fun hc => ?_) (fun hc => ?_)
    · replace h := h.1 hc
      exact t_X9_same_33 hC hin hO S _ _ _ h hT (lv_sub hl [] rfl)
    · replace h := h.2 hc
      refine lv_aload_n (x := o) hx hb dX9_same_22 rfl (lv_at hl 0 rfl) ?_
      refine cs_get hx hb hK hT hown 10 hk31_ (by decide) rfl 1 (by decide) kfX9_15 (v := .int (cs_i S 1001 o)) rfl dX9_same_23 ?_
      refine lv_aload_n (x := b32) hx hb dX9_same_26 rfl (lv_at hl 1 rfl) ?_
      refine cs_get hx hb hK hT hown 10 hk33_ (by decide) rfl 1 (by decide) kfX9_15 (v := .int (cs_i S 1001 b32)) rfl dX9_same_27 ?_
      refine lv_icmp_eq (tgt := 35) hx hb dX9_same_30 (by decide) (fun hc => ?_) (fun hc => ?_)
      · replace h := h.1 hc
        refine lv_iconst (v := 0) hx hb dX9_same_35 (by decide) ?_
        refine lv_istore_n (lv' := [(2, _), (0, _), (1, _)]) hx hb dX9_same_36 rfl hl (by decide) rfl (fun ls hl_ => ?_)
        replace hl := hl_
        obtain ⟨n9, h⟩ := h
        exact t_X9_same_37 hC hin hO n9 S o (some b32) 0 _ _ _ h hT (lv_sub hl [1, 2, 0] rfl)
      · replace h := h.2 hc
        exact t_X9_same_33 hC hin hO S _ _ _ h hT (lv_sub hl [] rfl)
/-! X9_like -/
abbrev rm_X9_like : Room := { frames := 0, cells := 0, slots := 0, locals := 0 }
def w_X9_like_164 (post : Int32 → cs_S → Prop) (G : Nat → Nat) (S : cs_S) (y0 : Int32) : Prop := narrow .boolean (.int y0) = .int y0 ∧ post y0 S
section
variable {p : Program} {l : Launch} {e : Env} {s : State} {m : MethodId} {args : Array Value} {below : List Frame} {meth : Method} {c : Code} {P : hw_G} {G : Nat → Nat} {A : Nat → Prop}
set_option maxRecDepth 100000 in
set_option maxHeartbeats 4000000 in
theorem t_X9_like_164 {post : Int32 → cs_S → Prop} (hC : rf_C P RX9 p s m meth c cX9_like 8 (some .boolean)) (hin : meth.name = yX9_like.name) (hO : cs_O G A s s.heap) (S : cs_S) (y0 : Int32) (H : Heap) (locs : List Loc) (ls : Array Slot) (h : w_X9_like_164 post G S y0) (hT : cs_T P s A S H locs) (hl : lv_has ls 8 []) : W p l e rm_X9_like s m args below meth c H locs 0 0 (MQ below (cs_Qi P A post) args s 0 0 A) (F0 m 164 ls [.int y0]) := by
  obtain ⟨hx, hb, hml, hown, hK, -, -⟩ := id hC
  exact cs_zret hC hT h.1 h.2 dX9_like_164 (Nat.le_refl _) (Nat.le_refl _)
end
def w_X9_like_150 (post : Int32 → cs_S → Prop) (G : Nat → Nat) (S : cs_S) (x1 : Option Nat) (x3 : Int32) : Prop := ∃ b27, x1 = some b27 ∧ cs_k S b27 = 11 ∧ ∀ r29, r29 = cs_r S 1002 b27 → ∃ b30, r29 = some b30 ∧ cs_k S b30 = 20 ∧ (¬ x3 = (Int32.ofNat (cs_n S b30)) → w_X9_like_164 post G S 0) ∧ (x3 = (Int32.ofNat (cs_n S b30)) → w_X9_like_164 post G S 1)
section
variable {p : Program} {l : Launch} {e : Env} {s : State} {m : MethodId} {args : Array Value} {below : List Frame} {meth : Method} {c : Code} {P : hw_G} {G : Nat → Nat} {A : Nat → Prop}
set_option maxRecDepth 100000 in
set_option maxHeartbeats 4000000 in
theorem t_X9_like_150 {post : Int32 → cs_S → Prop} (hC : rf_C P RX9 p s m meth c cX9_like 8 (some .boolean)) (hin : meth.name = yX9_like.name) (hO : cs_O G A s s.heap) (S : cs_S) (x1 : Option Nat) (x3 : Int32) (H : Heap) (locs : List Loc) (ls : Array Slot) (h : w_X9_like_150 post G S x1 x3) (hT : cs_T P s A S H locs) (hl : lv_has ls 8 [(1, va_rf x1), (3, .int x3)]) : W p l e rm_X9_like s m args below meth c H locs 0 0 (MQ below (cs_Qi P A post) args s 0 0 A) (F0 m 150 ls []) := by
  obtain ⟨hx, hb, hml, hown, hK, -, -⟩ := id hC
  refine lv_iload_n hx hb dX9_like_150 rfl (lv_at hl 1 rfl) ?_
  refine hw_aload_n (x := x1) hx hb dX9_like_151 rfl (lv_at hl 0 rfl) ?_
  obtain ⟨b27, rfl, h⟩ := h
  obtain ⟨hk28_, h⟩ := h
  refine cs_get hx hb hK hT hown 10 hk28_ (by decide) rfl 2 (by decide) kfX9_18 (v := va_rf (cs_r S 1002 b27)) rfl dX9_like_152 ?_
  refine hw_topr (fun r29 er29 => ?_)
  replace h := h r29 er29
  obtain ⟨b30, rfl, h⟩ := h
  obtain ⟨hk31_, h⟩ := h
  refine cs_alen hx hb hK hT 20 hk31_ (by decide) (by decide) dX9_like_155 ?_
  refine lv_icmp_ne (tgt := 163) hx hb dX9_like_156 (by decide) (fun hc => ?_) (fun hc => ?_)
  · replace h := h.1 hc
    refine lv_iconst (v := 0) hx hb dX9_like_163 (by decide) ?_
    exact t_X9_like_164 hC hin hO S 0 _ _ _ h hT (lv_sub hl [] rfl)
  · replace h := h.2 hc
    refine lv_iconst (v := 1) hx hb dX9_like_159 (by decide) ?_
    refine lv_goto (tgt := 164) hx hb dX9_like_160 (by decide) ?_
    exact t_X9_like_164 hC hin hO S 1 _ _ _ h hT (lv_sub hl [] rfl)
end
def w_X9_like_124 (post : Int32 → cs_S → Prop) (G : Nat → Nat) : Nat → cs_S → Option Nat → Int32 → Prop
  | 0, _, _, _ => False
  | n + 1, S, x1, x3 => ∃ b32, x1 = some b32 ∧ cs_k S b32 = 11 ∧ ∀ r34, r34 = cs_r S 1002 b32 → ∃ b35, r34 = some b35 ∧ cs_k S b35 = 20 ∧ ((Int32.ofNat (cs_n S b35)) ≤ x3 → w_X9_like_150 post G S (some b32) x3) ∧ (¬ (Int32.ofNat (cs_n S b35)) ≤ x3 → ∀ r37, r37 = cs_r S 1002 b32 → ∃ b38, r37 = some b38 ∧ cs_k S b38 = 20 ∧ vp_in x3 (cs_n S b38) ∧ (¬ (cs_ai S b38 x3.toNatClampNeg) = 42 → w_X9_like_150 post G S (some b32) x3) ∧ ((cs_ai S b38 x3.toNatClampNeg) = 42 → w_X9_like_124 post G n S (some b32) (x3 + 1)))
section
variable {p : Program} {l : Launch} {e : Env} {s : State} {m : MethodId} {args : Array Value} {below : List Frame} {meth : Method} {c : Code} {P : hw_G} {G : Nat → Nat} {A : Nat → Prop}
set_option maxRecDepth 100000 in
set_option maxHeartbeats 4000000 in
theorem t_X9_like_124 {post : Int32 → cs_S → Prop} (hC : rf_C P RX9 p s m meth c cX9_like 8 (some .boolean)) (hin : meth.name = yX9_like.name) (hO : cs_O G A s s.heap) : ∀ (n : Nat) (S : cs_S) (x1 : Option Nat) (x3 : Int32) (H : Heap) (locs : List Loc) (ls : Array Slot), w_X9_like_124 post G n S x1 x3 → cs_T P s A S H locs → lv_has ls 8 [(1, va_rf x1), (3, .int x3)] → W p l e rm_X9_like s m args below meth c H locs 0 0 (MQ below (cs_Qi P A post) args s 0 0 A) (F0 m 124 ls []) := by
  obtain ⟨hx, hb, hml, hown, hK, -, -⟩ := id hC
  intro n
  induction n with
  | zero => intro S x1 x3 H locs ls h; exact False.elim h
  | succ n ih =>
    intro S x1 x3 H locs ls h hT hl
    refine lv_iload_n hx hb dX9_like_124 rfl (lv_at hl 1 rfl) ?_
    refine hw_aload_n (x := x1) hx hb dX9_like_125 rfl (lv_at hl 0 rfl) ?_
    obtain ⟨b32, rfl, h⟩ := h
    obtain ⟨hk33_, h⟩ := h
    refine cs_get hx hb hK hT hown 10 hk33_ (by decide) rfl 2 (by decide) kfX9_18 (v := va_rf (cs_r S 1002 b32)) rfl dX9_like_126 ?_
    refine hw_topr (fun r34 er34 => ?_)
    replace h := h r34 er34
    obtain ⟨b35, rfl, h⟩ := h
    obtain ⟨hk36_, h⟩ := h
    refine cs_alen hx hb hK hT 20 hk36_ (by decide) (by decide) dX9_like_129 ?_
    refine lv_icmp_ge (tgt := 150) hx hb dX9_like_130 (by decide) (fun hc => ?_) (fun hc => ?_)
    · replace h := h.1 hc
      exact t_X9_like_150 hC hin hO S (some b32) x3 _ _ _ h hT (lv_sub hl [0, 1] rfl)
    · replace h := h.2 hc
      refine lv_aload_n (x := b32) hx hb dX9_like_133 rfl (lv_at hl 0 rfl) ?_
      refine cs_get hx hb hK hT hown 10 hk33_ (by decide) rfl 2 (by decide) kfX9_18 (v := va_rf (cs_r S 1002 b32)) rfl dX9_like_134 ?_
      refine hw_topr (fun r37 er37 => ?_)
      replace h := h r37 er37
      refine lv_iload_n hx hb dX9_like_137 rfl (lv_at hl 1 rfl) ?_
      obtain ⟨b38, rfl, h⟩ := h
      obtain ⟨hk39_, h⟩ := h
      obtain ⟨hi, h⟩ := h
      refine cs_iald hx hb hK hT hk39_ hi dX9_like_138 ?_
      refine lv_bipush (v := 42) hx hb dX9_like_139 (by decide) ?_
      refine lv_icmp_ne (tgt := 150) hx hb dX9_like_141 (by decide) (fun hc => ?_) (fun hc => ?_)
      · replace h := h.1 hc
        exact t_X9_like_150 hC hin hO S (some b32) x3 _ _ _ h hT (lv_sub hl [0, 1] rfl)
      · replace h := h.2 hc
        refine lv_iinc (v := x3 + 1) (lv' := [(3, _), (1, _)]) hx hb dX9_like_144 hl (k := 1) rfl rfl (by decide) rfl (fun ls hl_ => ?_)
        replace hl := hl_
        refine lv_goto (tgt := 124) hx hb dX9_like_147 (by decide) ?_
        exact ih S (some b32) (x3 + 1) _ _ _ h hT (lv_sub hl [1, 0] rfl)
end
def w_X9_like_118 (post : Int32 → cs_S → Prop) (G : Nat → Nat) (k13 : cs_S → Nat → Option Nat → Int32 → Int32 → Int32 → Int32 → Int32 → Prop) (S : cs_S) (x0 : Nat) (x1 : Option Nat) (x2 : Int32) (x3 : Int32) (x4 : Int32) (x5 : Int32) (x6 : Int32) : Prop := k13 S x0 x1 x2 x3 x4 x5 (x6 + 1)
section
variable {p : Program} {l : Launch} {e : Env} {s : State} {m : MethodId} {args : Array Value} {below : List Frame} {meth : Method} {c : Code} {P : hw_G} {G : Nat → Nat} {A : Nat → Prop}
set_option maxRecDepth 100000 in
set_option maxHeartbeats 4000000 in
theorem t_X9_like_118 {post : Int32 → cs_S → Prop} {k13 : cs_S → Nat → Option Nat → Int32 → Int32 → Int32 → Int32 → Int32 → Prop} (hC : rf_C P RX9 p s m meth c cX9_like 8 (some .boolean)) (hin : meth.name = yX9_like.name) (hO : cs_O G A s s.heap) (hk13 : ∀ (S : cs_S) (x0 : Nat) (x1 : Option Nat) (x2 : Int32) (x3 : Int32) (x4 : Int32) (x5 : Int32) (x6 : Int32) (H : Heap) (locs : List Loc) (ls : Array Slot), k13 S x0 x1 x2 x3 x4 x5 x6 → cs_T P s A S H locs → lv_has ls 8 [(0, .ref x0), (1, va_rf x1), (2, .int x2), (3, .int x3), (4, .int x4), (5, .int x5), (6, .int x6)] → W p l e rm_X9_like s m args below meth c H locs 0 0 (MQ below (cs_Qi P A post) args s 0 0 A) (F0 m 13 ls [])) (S : cs_S) (x0 : Nat) (x1 : Option Nat) (x2 : Int32) (x3 : Int32) (x4 : Int32) (x5 : Int32) (x6 : Int32) (H : Heap) (locs : List Loc) (ls : Array Slot) (h : w_X9_like_118 post G k13 S x0 x1 x2 x3 x4 x5 x6) (hT : cs_T P s A S H locs) (hl : lv_has ls 8 [(0, .ref x0), (1, va_rf x1), (2, .int x2), (3, .int x3), (4, .int x4), (5, .int x5), (6, .int x6)]) : W p l e rm_X9_like s m args below meth c H locs 0 0 (MQ below (cs_Qi P A post) args s 0 0 A) (F0 m 118 ls []) := by
  obtain ⟨hx, hb, hml, hown, hK, -, -⟩ := id hC
  refine lv_iinc (v := x6 + 1) (lv' := [(6, _), (0, _), (1, _), (2, _), (3, _), (4, _), (5, _)]) hx hb dX9_like_118 hl (k := 6) rfl rfl (by decide) rfl (fun ls hl_ => ?_)
  replace hl := hl_
  refine lv_goto (tgt := 13) hx hb dX9_like_121 (by decide) ?_
  exact hk13 S x0 x1 x2 x3 x4 x5 (x6 + 1) _ _ _ h hT (lv_sub hl [1, 2, 3, 4, 5, 6, 0] rfl)
end
def w_X9_like_87 (post : Int32 → cs_S → Prop) (G : Nat → Nat) (k13 : cs_S → Nat → Option Nat → Int32 → Int32 → Int32 → Int32 → Int32 → Prop) (S : cs_S) (x0 : Nat) (x1 : Option Nat) (x2 : Int32) (x3 : Int32) (x4 : Int32) (x5 : Int32) (x6 : Int32) : Prop := w_X9_like_118 post G k13 S x0 x1 (x2 + 1) (x3 + 1) x4 x5 x6
section
variable {p : Program} {l : Launch} {e : Env} {s : State} {m : MethodId} {args : Array Value} {below : List Frame} {meth : Method} {c : Code} {P : hw_G} {G : Nat → Nat} {A : Nat → Prop}
set_option maxRecDepth 100000 in
set_option maxHeartbeats 4000000 in
theorem t_X9_like_87 {post : Int32 → cs_S → Prop} {k13 : cs_S → Nat → Option Nat → Int32 → Int32 → Int32 → Int32 → Int32 → Prop} (hC : rf_C P RX9 p s m meth c cX9_like 8 (some .boolean)) (hin : meth.name = yX9_like.name) (hO : cs_O G A s s.heap) (hk13 : ∀ (S : cs_S) (x0 : Nat) (x1 : Option Nat) (x2 : Int32) (x3 : Int32) (x4 : Int32) (x5 : Int32) (x6 : Int32) (H : Heap) (locs : List Loc) (ls : Array Slot), k13 S x0 x1 x2 x3 x4 x5 x6 → cs_T P s A S H locs → lv_has ls 8 [(0, .ref x0), (1, va_rf x1), (2, .int x2), (3, .int x3), (4, .int x4), (5, .int x5), (6, .int x6)] → W p l e rm_X9_like s m args below meth c H locs 0 0 (MQ below (cs_Qi P A post) args s 0 0 A) (F0 m 13 ls [])) (S : cs_S) (x0 : Nat) (x1 : Option Nat) (x2 : Int32) (x3 : Int32) (x4 : Int32) (x5 : Int32) (x6 : Int32) (H : Heap) (locs : List Loc) (ls : Array Slot) (h : w_X9_like_87 post G k13 S x0 x1 x2 x3 x4 x5 x6) (hT : cs_T P s A S H locs) (hl : lv_has ls 8 [(0, .ref x0), (1, va_rf x1), (2, .int x2), (3, .int x3), (4, .int x4), (5, .int x5), (6, .int x6)]) : W p l e rm_X9_like s m args below meth c H locs 0 0 (MQ below (cs_Qi P A post) args s 0 0 A) (F0 m 87 ls []) := by
  obtain ⟨hx, hb, hml, hown, hK, -, -⟩ := id hC
  refine lv_iinc (v := x3 + 1) (lv' := [(3, _), (0, _), (1, _), (2, _), (4, _), (5, _), (6, _)]) hx hb dX9_like_87 hl (k := 3) rfl rfl (by decide) rfl (fun ls hl_ => ?_)
  replace hl := hl_
  refine lv_iinc (v := x2 + 1) (lv' := [(2, _), (3, _), (0, _), (1, _), (4, _), (5, _), (6, _)]) hx hb dX9_like_90 hl (k := 3) rfl rfl (by decide) (congrArg (List.cons _) ((hw_flt (fun q hq => by simp only [List.mem_cons, List.not_mem_nil, or_false] at hq; rcases hq with rfl | rfl | rfl | rfl | rfl | rfl | rfl <;> first | exact fun _ => rfl | exact fun _ => va_rf_cat _ | exact fun h => absurd h (by decide))).trans rfl)) (fun ls hl_ => ?_)
  replace hl := hl_
  refine lv_goto (tgt := 118) hx hb dX9_like_93 (by decide) ?_
  exact t_X9_like_118 hC hin hO hk13 S x0 x1 (x2 + 1) (x3 + 1) x4 x5 x6 _ _ _ h hT (lv_sub hl [2, 3, 0, 1, 4, 5, 6] rfl)
end
def w_X9_like_48 (post : Int32 → cs_S → Prop) (G : Nat → Nat) (k13 : cs_S → Nat → Option Nat → Int32 → Int32 → Int32 → Int32 → Int32 → Prop) (S : cs_S) (x0 : Nat) (x1 : Option Nat) (x2 : Int32) (x3 : Int32) (x4 : Int32) (x5 : Int32) (x6 : Int32) (y0 : Int32) : Prop := (¬ y0 = 42 → (y0 = 63 → w_X9_like_87 post G k13 S x0 x1 x2 x3 x4 x5 x6) ∧ (¬ y0 = 63 → cs_k S x0 = 11 ∧ ∀ r41, r41 = cs_r S 1002 x0 → ∃ b42, r41 = some b42 ∧ cs_k S b42 = 20 ∧ vp_in x2 (cs_n S b42) ∧ (¬ y0 = (cs_ai S b42 x2.toNatClampNeg) → (x4 = ((-1)) → post 0 S) ∧ (¬ x4 = ((-1)) → w_X9_like_118 post G k13 S x0 x1 (x5 + 1) (x4 + 1) x4 (x5 + 1) x6)) ∧ (y0 = (cs_ai S b42 x2.toNatClampNeg) → w_X9_like_87 post G k13 S x0 x1 x2 x3 x4 x5 x6))) ∧ (y0 = 42 → w_X9_like_118 post G k13 S x0 x1 x2 (x3 + 1) x3 x2 x6)
section
variable {p : Program} {l : Launch} {e : Env} {s : State} {m : MethodId} {args : Array Value} {below : List Frame} {meth : Method} {c : Code} {P : hw_G} {G : Nat → Nat} {A : Nat → Prop}
set_option maxRecDepth 100000 in
set_option maxHeartbeats 4000000 in
theorem t_X9_like_48 {post : Int32 → cs_S → Prop} {k13 : cs_S → Nat → Option Nat → Int32 → Int32 → Int32 → Int32 → Int32 → Prop} (hC : rf_C P RX9 p s m meth c cX9_like 8 (some .boolean)) (hin : meth.name = yX9_like.name) (hO : cs_O G A s s.heap) (hk13 : ∀ (S : cs_S) (x0 : Nat) (x1 : Option Nat) (x2 : Int32) (x3 : Int32) (x4 : Int32) (x5 : Int32) (x6 : Int32) (H : Heap) (locs : List Loc) (ls : Array Slot), k13 S x0 x1 x2 x3 x4 x5 x6 → cs_T P s A S H locs → lv_has ls 8 [(0, .ref x0), (1, va_rf x1), (2, .int x2), (3, .int x3), (4, .int x4), (5, .int x5), (6, .int x6)] → W p l e rm_X9_like s m args below meth c H locs 0 0 (MQ below (cs_Qi P A post) args s 0 0 A) (F0 m 13 ls [])) (S : cs_S) (x0 : Nat) (x1 : Option Nat) (x2 : Int32) (x3 : Int32) (x4 : Int32) (x5 : Int32) (x6 : Int32) (y0 : Int32) (H : Heap) (locs : List Loc) (ls : Array Slot) (h : w_X9_like_48 post G k13 S x0 x1 x2 x3 x4 x5 x6 y0) (hT : cs_T P s A S H locs) (hl : lv_has ls 8 [(0, .ref x0), (1, va_rf x1), (2, .int x2), (3, .int x3), (4, .int x4), (5, .int x5), (6, .int x6)]) : W p l e rm_X9_like s m args below meth c H locs 0 0 (MQ below (cs_Qi P A post) args s 0 0 A) (F0 m 48 ls [.int y0]) := by
  obtain ⟨hx, hb, hml, hown, hK, -, -⟩ := id hC
  refine lv_istore (lv' := [(7, _), (0, _), (1, _), (2, _), (3, _), (4, _), (5, _), (6, _)]) hx hb dX9_like_48 hl (by decide) rfl (fun ls hl_ => ?_)
  replace hl := hl_
  refine lv_iload hx hb dX9_like_50 (lv_at hl 0 rfl) ?_
  refine lv_bipush (v := 42) hx hb dX9_like_52 (by decide) ?_
  refine lv_icmp_ne (tgt := 69) hx hb dX9_like_54 (by decide) (fun hc => ?_) (fun hc => ?_)
  · replace h := h.1 hc
    refine lv_iload hx hb dX9_like_69 (lv_at hl 0 rfl) ?_
    refine lv_bipush (v := 63) hx hb dX9_like_71 (by decide) ?_
    refine lv_icmp_eq (tgt := 87) hx hb dX9_like_73 (by decide) (fun hc => ?_) (fun hc => ?_)
    · replace h := h.1 hc
      exact t_X9_like_87 hC hin hO hk13 S x0 x1 x2 x3 x4 x5 x6 _ _ _ h hT (lv_sub hl [1, 2, 3, 4, 5, 6, 7] rfl)
    · replace h := h.2 hc
      refine lv_iload hx hb dX9_like_76 (lv_at hl 0 rfl) ?_
      refine lv_aload_n (x := x0) hx hb dX9_like_78 rfl (lv_at hl 1 rfl) ?_
      obtain ⟨hk40_, h⟩ := h
      refine cs_get hx hb hK hT hown 10 hk40_ (by decide) rfl 2 (by decide) kfX9_18 (v := va_rf (cs_r S 1002 x0)) rfl dX9_like_79 ?_
      refine hw_topr (fun r41 er41 => ?_)
      replace h := h r41 er41
      refine lv_iload_n hx hb dX9_like_82 rfl (lv_at hl 3 rfl) ?_
      obtain ⟨b42, rfl, h⟩ := h
      obtain ⟨hk43_, h⟩ := h
      obtain ⟨hi, h⟩ := h
      refine cs_iald hx hb hK hT hk43_ hi dX9_like_83 ?_
      refine lv_icmp_ne (tgt := 96) hx hb dX9_like_84 (by decide) (fun hc => ?_) (fun hc => ?_)
      · replace h := h.1 hc
        refine lv_iload hx hb dX9_like_96 (lv_at hl 5 rfl) ?_
        refine lv_iconst (v := (-1)) hx hb dX9_like_98 (by decide) ?_
        refine lv_icmp_eq (tgt := 116) hx hb dX9_like_99 (by decide) (fun hc => ?_) (fun hc => ?_)
        · replace h := h.1 hc
          refine lv_iconst (v := 0) hx hb dX9_like_116 (by decide) ?_
          exact cs_zret hC hT rfl h dX9_like_117 (Nat.le_refl _) (Nat.le_refl _)
        · replace h := h.2 hc
          refine lv_iinc (v := x5 + 1) (lv' := [(5, _), (7, _), (0, _), (1, _), (2, _), (3, _), (4, _), (6, _)]) hx hb dX9_like_102 hl (k := 6) rfl rfl (by decide) rfl (fun ls hl_ => ?_)
          replace hl := hl_
          refine lv_iload hx hb dX9_like_105 (lv_at hl 0 rfl) ?_
          refine lv_istore_n (lv' := [(2, _), (5, _), (7, _), (0, _), (1, _), (3, _), (4, _), (6, _)]) hx hb dX9_like_107 rfl hl (by decide) (congrArg (List.cons _) ((hw_flt (fun q hq => by simp only [List.mem_cons, List.not_mem_nil, or_false] at hq; rcases hq with rfl | rfl | rfl | rfl | rfl | rfl | rfl | rfl <;> first | exact fun _ => rfl | exact fun _ => va_rf_cat _ | exact fun h => absurd h (by decide))).trans rfl)) (fun ls hl_ => ?_)
          replace hl := hl_
          refine lv_iload hx hb dX9_like_108 (lv_at hl 6 rfl) ?_
          refine lv_iconst (v := 1) hx hb dX9_like_110 (by decide) ?_
          refine lv_iadd hx hb dX9_like_111 ?_
          refine lv_istore_n (lv' := [(3, _), (2, _), (5, _), (7, _), (0, _), (1, _), (4, _), (6, _)]) hx hb dX9_like_112 rfl hl (by decide) rfl (fun ls hl_ => ?_)
          replace hl := hl_
          refine lv_goto (tgt := 118) hx hb dX9_like_113 (by decide) ?_
          exact t_X9_like_118 hC hin hO hk13 S x0 x1 (x5 + 1) (x4 + 1) x4 (x5 + 1) x6 _ _ _ h hT (lv_sub hl [4, 5, 1, 0, 6, 2, 7] rfl)
      · replace h := h.2 hc
        exact t_X9_like_87 hC hin hO hk13 S x0 x1 x2 x3 x4 x5 x6 _ _ _ h hT (lv_sub hl [1, 2, 3, 4, 5, 6, 7] rfl)
  · replace h := h.2 hc
    refine lv_iload_n hx hb dX9_like_57 rfl (lv_at hl 4 rfl) ?_
    refine lv_istore (lv' := [(4, _), (7, _), (0, _), (1, _), (2, _), (3, _), (5, _), (6, _)]) hx hb dX9_like_58 hl (by decide) rfl (fun ls hl_ => ?_)
    replace hl := hl_
    refine lv_iload_n hx hb dX9_like_60 rfl (lv_at hl 4 rfl) ?_
    refine lv_istore (lv' := [(5, _), (4, _), (7, _), (0, _), (1, _), (2, _), (3, _), (6, _)]) hx hb dX9_like_61 hl (by decide) rfl (fun ls hl_ => ?_)
    replace hl := hl_
    refine lv_iinc (v := x3 + 1) (lv' := [(3, _), (5, _), (4, _), (7, _), (0, _), (1, _), (2, _), (6, _)]) hx hb dX9_like_63 hl (k := 6) rfl rfl (by decide) rfl (fun ls hl_ => ?_)
    replace hl := hl_
    refine lv_goto (tgt := 118) hx hb dX9_like_66 (by decide) ?_
    exact t_X9_like_118 hC hin hO hk13 S x0 x1 x2 (x3 + 1) x3 x2 x6 _ _ _ h hT (lv_sub hl [4, 5, 6, 0, 2, 1, 7] rfl)
end
def w_X9_like_13 (post : Int32 → cs_S → Prop) (G : Nat → Nat) : Nat → cs_S → Nat → Option Nat → Int32 → Int32 → Int32 → Int32 → Int32 → Prop
  | 0, _, _, _, _, _, _, _, _ => False
  | n + 1, S, x0, x1, x2, x3, x4, x5, x6 => (1000000 ≤ x6 → ∃ n9, w_X9_like_124 post G n9 S x1 x3) ∧ (¬ 1000000 ≤ x6 → cs_k S x0 = 11 ∧ ∀ r45, r45 = cs_r S 1002 x0 → ∃ b46, r45 = some b46 ∧ cs_k S b46 = 20 ∧ ((Int32.ofNat (cs_n S b46)) ≤ x2 → ∃ n9, w_X9_like_124 post G n9 S x1 x3) ∧ (¬ (Int32.ofNat (cs_n S b46)) ≤ x2 → ∃ b48, x1 = some b48 ∧ cs_k S b48 = 11 ∧ ∀ r50, r50 = cs_r S 1002 b48 → ∃ b51, r50 = some b51 ∧ cs_k S b51 = 20 ∧ ((Int32.ofNat (cs_n S b51)) ≤ x3 → w_X9_like_48 post G (w_X9_like_13 post G n) S x0 (some b48) x2 x3 x4 x5 x6 ((-1))) ∧ (¬ (Int32.ofNat (cs_n S b51)) ≤ x3 → ∀ r53, r53 = cs_r S 1002 b48 → ∃ b54, r53 = some b54 ∧ cs_k S b54 = 20 ∧ vp_in x3 (cs_n S b54) ∧ w_X9_like_48 post G (w_X9_like_13 post G n) S x0 (some b48) x2 x3 x4 x5 x6 (cs_ai S b54 x3.toNatClampNeg))))
section
variable {p : Program} {l : Launch} {e : Env} {s : State} {m : MethodId} {args : Array Value} {below : List Frame} {meth : Method} {c : Code} {P : hw_G} {G : Nat → Nat} {A : Nat → Prop}
set_option maxRecDepth 100000 in
set_option maxHeartbeats 4000000 in
theorem t_X9_like_13 {post : Int32 → cs_S → Prop} (hC : rf_C P RX9 p s m meth c cX9_like 8 (some .boolean)) (hin : meth.name = yX9_like.name) (hO : cs_O G A s s.heap) : ∀ (n : Nat) (S : cs_S) (x0 : Nat) (x1 : Option Nat) (x2 : Int32) (x3 : Int32) (x4 : Int32) (x5 : Int32) (x6 : Int32) (H : Heap) (locs : List Loc) (ls : Array Slot), w_X9_like_13 post G n S x0 x1 x2 x3 x4 x5 x6 → cs_T P s A S H locs → lv_has ls 8 [(0, .ref x0), (1, va_rf x1), (2, .int x2), (3, .int x3), (4, .int x4), (5, .int x5), (6, .int x6)] → W p l e rm_X9_like s m args below meth c H locs 0 0 (MQ below (cs_Qi P A post) args s 0 0 A) (F0 m 13 ls []) := by
  obtain ⟨hx, hb, hml, hown, hK, -, -⟩ := id hC
  intro n
  induction n with
  | zero => intro S x0 x1 x2 x3 x4 x5 x6 H locs ls h; exact False.elim h
  | succ n ih =>
    intro S x0 x1 x2 x3 x4 x5 x6 H locs ls h hT hl
    refine lv_iload hx hb dX9_like_13 (lv_at hl 6 rfl) ?_
    refine lv_ldc (v := 1000000) hx hb hown (hK.word kkX9_25 rfl) dX9_like_15 ?_
    refine lv_icmp_ge (tgt := 124) hx hb dX9_like_17 (by decide) (fun hc => ?_) (fun hc => ?_)
    · replace h := h.1 hc
      obtain ⟨n9, h⟩ := h
      exact t_X9_like_124 hC hin hO n9 S x1 x3 _ _ _ h hT (lv_sub hl [1, 3] rfl)
    · replace h := h.2 hc
      refine lv_iload_n hx hb dX9_like_20 rfl (lv_at hl 2 rfl) ?_
      refine lv_aload_n (x := x0) hx hb dX9_like_21 rfl (lv_at hl 0 rfl) ?_
      obtain ⟨hk44_, h⟩ := h
      refine cs_get hx hb hK hT hown 10 hk44_ (by decide) rfl 2 (by decide) kfX9_18 (v := va_rf (cs_r S 1002 x0)) rfl dX9_like_22 ?_
      refine hw_topr (fun r45 er45 => ?_)
      replace h := h r45 er45
      obtain ⟨b46, rfl, h⟩ := h
      obtain ⟨hk47_, h⟩ := h
      refine cs_alen hx hb hK hT 20 hk47_ (by decide) (by decide) dX9_like_25 ?_
      refine lv_icmp_ge (tgt := 124) hx hb dX9_like_26 (by decide) (fun hc => ?_) (fun hc => ?_)
      · replace h := h.1 hc
        obtain ⟨n9, h⟩ := h
        exact t_X9_like_124 hC hin hO n9 S x1 x3 _ _ _ h hT (lv_sub hl [1, 3] rfl)
      · replace h := h.2 hc
        refine lv_iload_n hx hb dX9_like_29 rfl (lv_at hl 3 rfl) ?_
        refine hw_aload_n (x := x1) hx hb dX9_like_30 rfl (lv_at hl 1 rfl) ?_
        obtain ⟨b48, rfl, h⟩ := h
        obtain ⟨hk49_, h⟩ := h
        refine cs_get hx hb hK hT hown 10 hk49_ (by decide) rfl 2 (by decide) kfX9_18 (v := va_rf (cs_r S 1002 b48)) rfl dX9_like_31 ?_
        refine hw_topr (fun r50 er50 => ?_)
        replace h := h r50 er50
        obtain ⟨b51, rfl, h⟩ := h
        obtain ⟨hk52_, h⟩ := h
        refine cs_alen hx hb hK hT 20 hk52_ (by decide) (by decide) dX9_like_34 ?_
        refine lv_icmp_ge (tgt := 47) hx hb dX9_like_35 (by decide) (fun hc => ?_) (fun hc => ?_)
        · replace h := h.1 hc
          refine lv_iconst (v := (-1)) hx hb dX9_like_47 (by decide) ?_
          exact t_X9_like_48 hC hin hO ih S x0 (some b48) x2 x3 x4 x5 x6 ((-1)) _ _ _ h hT (lv_sub hl [0, 1, 2, 3, 4, 5, 6] rfl)
        · replace h := h.2 hc
          refine lv_aload_n (x := b48) hx hb dX9_like_38 rfl (lv_at hl 1 rfl) ?_
          refine cs_get hx hb hK hT hown 10 hk49_ (by decide) rfl 2 (by decide) kfX9_18 (v := va_rf (cs_r S 1002 b48)) rfl dX9_like_39 ?_
          refine hw_topr (fun r53 er53 => ?_)
          replace h := h r53 er53
          refine lv_iload_n hx hb dX9_like_42 rfl (lv_at hl 3 rfl) ?_
          obtain ⟨b54, rfl, h⟩ := h
          obtain ⟨hk55_, h⟩ := h
          obtain ⟨hi, h⟩ := h
          refine cs_iald hx hb hK hT hk55_ hi dX9_like_43 ?_
          refine lv_goto (tgt := 48) hx hb dX9_like_44 (by decide) ?_
          exact t_X9_like_48 hC hin hO ih S x0 (some b48) x2 x3 x4 x5 x6 (cs_ai S b54 x3.toNatClampNeg) _ _ _ h hT (lv_sub hl [0, 1, 2, 3, 4, 5, 6] rfl)
end
def wp_X9_like (post : Int32 → cs_S → Prop) (G : Nat → Nat) (S : cs_S) (o : Nat) (p1 : Option Nat) : Prop := ∃ n9, w_X9_like_13 post G n9 S o p1 0 0 ((-1)) 0 0
set_option maxRecDepth 100000 in
set_option maxHeartbeats 4000000 in
theorem c_X9_like {l : Launch} {P : hw_G} {G : Nat → Nat} {S : cs_S} {sz : Nat} {o : Nat} {p1 : Option Nat} {post : Int32 → cs_S → Prop} (h : wp_X9_like post G S o p1) : Met l yX9_like [Cond.code yX9_like cX9_like 8 (some .boolean)] rm_X9_like (cs_Pc P G S sz [.ref o, va_rf p1]) (cs_Qi P (cs_A S sz) post) 0 0 (cs_A S sz) := by
  refine cs_met (by decide) rfl (by cases p1 <;> exact Nat.le_of_ble_eq_true rfl) ?_
  intro p e s m below meth c ls hC hin hO hT hl
  obtain ⟨hx, hb, hml, hown, hK, -, -⟩ := id hC
  replace hl : lv_has ls 8 [(0, .ref o), (1, va_rf p1)] := by cases p1 <;> exact hl
  refine lv_iconst (v := 0) hx hb dX9_like_0 (by decide) ?_
  refine lv_istore_n (lv' := [(2, _), (0, _), (1, _)]) hx hb dX9_like_1 rfl hl (by decide) (congrArg (List.cons _) ((hw_flt (fun q hq => by simp only [List.mem_cons, List.not_mem_nil, or_false] at hq; rcases hq with rfl | rfl <;> first | exact fun _ => rfl | exact fun _ => va_rf_cat _ | exact fun h => absurd h (by decide))).trans rfl)) (fun ls hl_ => ?_)
  replace hl := hl_
  refine lv_iconst (v := 0) hx hb dX9_like_2 (by decide) ?_
  refine lv_istore_n (lv' := [(3, _), (2, _), (0, _), (1, _)]) hx hb dX9_like_3 rfl hl (by decide) rfl (fun ls hl_ => ?_)
  replace hl := hl_
  refine lv_iconst (v := (-1)) hx hb dX9_like_4 (by decide) ?_
  refine lv_istore (lv' := [(4, _), (3, _), (2, _), (0, _), (1, _)]) hx hb dX9_like_5 hl (by decide) rfl (fun ls hl_ => ?_)
  replace hl := hl_
  refine lv_iconst (v := 0) hx hb dX9_like_7 (by decide) ?_
  refine lv_istore (lv' := [(5, _), (4, _), (3, _), (2, _), (0, _), (1, _)]) hx hb dX9_like_8 hl (by decide) rfl (fun ls hl_ => ?_)
  replace hl := hl_
  refine lv_iconst (v := 0) hx hb dX9_like_10 (by decide) ?_
  refine lv_istore (lv' := [(6, _), (5, _), (4, _), (3, _), (2, _), (0, _), (1, _)]) hx hb dX9_like_11 hl (by decide) rfl (fun ls hl_ => ?_)
  replace hl := hl_
  obtain ⟨n9, h⟩ := h
  exact t_X9_like_13 hC hin hO n9 S o p1 0 0 ((-1)) 0 0 _ _ _ h hT (lv_sub hl [5, 6, 4, 3, 2, 1, 0] rfl)
/-! X3_find -/
abbrev rm_X3_find : Room := { frames := 0, cells := 0, slots := 0, locals := 0 }
def w_X3_find_44 (post : Option Nat → cs_S → Prop) (G : Nat → Nat) (S : cs_S)  : Prop := post none S
section
variable {p : Program} {l : Launch} {e : Env} {s : State} {m : MethodId} {args : Array Value} {below : List Frame} {meth : Method} {c : Code} {P : hw_G} {G : Nat → Nat} {A : Nat → Prop}
set_option maxRecDepth 100000 in
set_option maxHeartbeats 4000000 in
theorem t_X3_find_44 {post : Option Nat → cs_S → Prop} (hC : rf_C P RX3 p s m meth c cX3_find 4 (some (.object "WatchHouse$Value"))) (hin : meth.name = yX3_find.name) (hO : cs_O G A s s.heap) (S : cs_S)  (H : Heap) (locs : List Loc) (ls : Array Slot) (h : w_X3_find_44 post G S ) (hT : cs_T P s A S H locs) (hl : lv_has ls 4 []) : W p l e rm_X3_find s m args below meth c H locs 0 0 (MQ below (cs_Qr P A post) args s 0 0 A) (F0 m 44 ls []) := by
  obtain ⟨hx, hb, hml, hown, hK, -, -⟩ := id hC
  refine hw_null hx hb dX3_find_44 ?_
  exact cs_aret (v := none) hC (Or.inl ⟨_, rfl⟩) hT h dX3_find_45 (Nat.le_refl _) (Nat.le_refl _)
end
def w_X3_find_2 (post : Option Nat → cs_S → Prop) (G : Nat → Nat) : Nat → cs_S → Nat → Int64 → Int32 → Prop
  | 0, _, _, _, _ => False
  | n + 1, S, x0, x1, x3 => cs_k S x0 = 5 ∧ ∀ r16, r16 = cs_r S 403 x0 → ∃ b17, r16 = some b17 ∧ cs_k S b17 = 21 ∧ ((Int32.ofNat (cs_n S b17)) ≤ x3 → w_X3_find_44 post G S) ∧ (¬ (Int32.ofNat (cs_n S b17)) ≤ x3 → ∀ r19, r19 = cs_r S 404 x0 → ∃ b20, r19 = some b20 ∧ cs_k S b20 = 26 ∧ ((Int32.ofNat (cs_n S b20)) ≤ x3 → w_X3_find_44 post G S) ∧ (¬ (Int32.ofNat (cs_n S b20)) ≤ x3 → ∀ r22, r22 = cs_r S 403 x0 → ∃ b23, r22 = some b23 ∧ cs_k S b23 = 21 ∧ vp_in x3 (cs_n S b23) ∧ (¬ (lg_cmp (cs_al S b23 x3.toNatClampNeg) x1) = 0 → w_X3_find_2 post G n S x0 x1 (x3 + 1)) ∧ ((lg_cmp (cs_al S b23 x3.toNatClampNeg) x1) = 0 → ∀ r25, r25 = cs_r S 404 x0 → ∃ b26, r25 = some b26 ∧ cs_k S b26 = 26 ∧ vp_in x3 (cs_n S b26) ∧ ∀ r28, r28 = cs_ar S b26 x3.toNatClampNeg → post r28 S)))
section
variable {p : Program} {l : Launch} {e : Env} {s : State} {m : MethodId} {args : Array Value} {below : List Frame} {meth : Method} {c : Code} {P : hw_G} {G : Nat → Nat} {A : Nat → Prop}
set_option maxRecDepth 100000 in
set_option maxHeartbeats 4000000 in
theorem t_X3_find_2 {post : Option Nat → cs_S → Prop} (hC : rf_C P RX3 p s m meth c cX3_find 4 (some (.object "WatchHouse$Value"))) (hin : meth.name = yX3_find.name) (hO : cs_O G A s s.heap) : ∀ (n : Nat) (S : cs_S) (x0 : Nat) (x1 : Int64) (x3 : Int32) (H : Heap) (locs : List Loc) (ls : Array Slot), w_X3_find_2 post G n S x0 x1 x3 → cs_T P s A S H locs → lv_has ls 4 [(0, .ref x0), (1, .long x1), (3, .int x3)] → W p l e rm_X3_find s m args below meth c H locs 0 0 (MQ below (cs_Qr P A post) args s 0 0 A) (F0 m 2 ls []) := by
  obtain ⟨hx, hb, hml, hown, hK, -, -⟩ := id hC
  intro n
  induction n with
  | zero => intro S x0 x1 x3 H locs ls h; exact False.elim h
  | succ n ih =>
    intro S x0 x1 x3 H locs ls h hT hl
    refine lv_iload_n hx hb dX3_find_2 rfl (lv_at hl 2 rfl) ?_
    refine lv_aload_n (x := x0) hx hb dX3_find_3 rfl (lv_at hl 0 rfl) ?_
    obtain ⟨hk15_, h⟩ := h
    refine cs_get hx hb hK hT hown 4 hk15_ (by decide) rfl 3 (by decide) kfX3_20 (v := va_rf (cs_r S 403 x0)) rfl dX3_find_4 ?_
    refine hw_topr (fun r16 er16 => ?_)
    replace h := h r16 er16
    obtain ⟨b17, rfl, h⟩ := h
    obtain ⟨hk18_, h⟩ := h
    refine cs_alen hx hb hK hT 21 hk18_ (by decide) (by decide) dX3_find_7 ?_
    refine lv_icmp_ge (tgt := 44) hx hb dX3_find_8 (by decide) (fun hc => ?_) (fun hc => ?_)
    · replace h := h.1 hc
      exact t_X3_find_44 hC hin hO S _ _ _ h hT (lv_sub hl [] rfl)
    · replace h := h.2 hc
      refine lv_iload_n hx hb dX3_find_11 rfl (lv_at hl 2 rfl) ?_
      refine lv_aload_n (x := x0) hx hb dX3_find_12 rfl (lv_at hl 0 rfl) ?_
      refine cs_get hx hb hK hT hown 4 hk15_ (by decide) rfl 4 (by decide) kfX3_24 (v := va_rf (cs_r S 404 x0)) rfl dX3_find_13 ?_
      refine hw_topr (fun r19 er19 => ?_)
      replace h := h r19 er19
      obtain ⟨b20, rfl, h⟩ := h
      obtain ⟨hk21_, h⟩ := h
      refine cs_alen hx hb hK hT 26 hk21_ (by decide) (by decide) dX3_find_16 ?_
      refine lv_icmp_ge (tgt := 44) hx hb dX3_find_17 (by decide) (fun hc => ?_) (fun hc => ?_)
      · replace h := h.1 hc
        exact t_X3_find_44 hC hin hO S _ _ _ h hT (lv_sub hl [] rfl)
      · replace h := h.2 hc
        refine lv_aload_n (x := x0) hx hb dX3_find_20 rfl (lv_at hl 0 rfl) ?_
        refine cs_get hx hb hK hT hown 4 hk15_ (by decide) rfl 3 (by decide) kfX3_20 (v := va_rf (cs_r S 403 x0)) rfl dX3_find_21 ?_
        refine hw_topr (fun r22 er22 => ?_)
        replace h := h r22 er22
        refine lv_iload_n hx hb dX3_find_24 rfl (lv_at hl 2 rfl) ?_
        obtain ⟨b23, rfl, h⟩ := h
        obtain ⟨hk24_, h⟩ := h
        obtain ⟨hi, h⟩ := h
        refine cs_lald hx hb hK hT hk24_ hi dX3_find_25 ?_
        refine lv_lload_n hx hb dX3_find_26 rfl (lv_at hl 1 rfl) ?_
        refine W.lcmp hx hb dX3_find_27 ?_
        refine lv_if_ne (tgt := 38) hx hb dX3_find_28 (by decide) (fun hc => ?_) (fun hc => ?_)
        · replace h := h.1 hc
          refine lv_iinc (v := x3 + 1) (lv' := [(3, _), (0, _), (1, _)]) hx hb dX3_find_38 hl (k := 2) rfl rfl (by decide) rfl (fun ls hl_ => ?_)
          replace hl := hl_
          refine lv_goto (tgt := 2) hx hb dX3_find_41 (by decide) ?_
          exact ih S x0 x1 (x3 + 1) _ _ _ h hT (lv_sub hl [1, 2, 0] rfl)
        · replace h := h.2 hc
          refine lv_aload_n (x := x0) hx hb dX3_find_31 rfl (lv_at hl 0 rfl) ?_
          refine cs_get hx hb hK hT hown 4 hk15_ (by decide) rfl 4 (by decide) kfX3_24 (v := va_rf (cs_r S 404 x0)) rfl dX3_find_32 ?_
          refine hw_topr (fun r25 er25 => ?_)
          replace h := h r25 er25
          refine lv_iload_n hx hb dX3_find_35 rfl (lv_at hl 2 rfl) ?_
          obtain ⟨b26, rfl, h⟩ := h
          obtain ⟨hk27_, h⟩ := h
          obtain ⟨hi, h⟩ := h
          refine cs_aald hx hb hK hT 26 hk27_ (by decide) rfl (by decide) hi dX3_find_36 ?_
          refine hw_topr (fun r28 er28 => ?_)
          replace h := h r28 er28
          exact cs_aret (v := r28) hC (Or.inl ⟨_, rfl⟩) hT h dX3_find_37 (Nat.le_refl _) (Nat.le_refl _)
end
def wp_X3_find (post : Option Nat → cs_S → Prop) (G : Nat → Nat) (S : cs_S) (o : Nat) (p1 : Int64) : Prop := ∃ n9, w_X3_find_2 post G n9 S o p1 0
set_option maxRecDepth 100000 in
set_option maxHeartbeats 4000000 in
theorem c_X3_find {l : Launch} {P : hw_G} {G : Nat → Nat} {S : cs_S} {sz : Nat} {o : Nat} {p1 : Int64} {post : Option Nat → cs_S → Prop} (h : wp_X3_find post G S o p1) : Met l yX3_find [Cond.code yX3_find cX3_find 4 (some (.object "WatchHouse$Value"))] rm_X3_find (cs_Pc P G S sz [.ref o, .long p1]) (cs_Qr P (cs_A S sz) post) 0 0 (cs_A S sz) := by
  refine cs_met (by decide) rfl (Nat.le_of_ble_eq_true rfl) ?_
  intro p e s m below meth c ls hC hin hO hT hl
  obtain ⟨hx, hb, hml, hown, hK, -, -⟩ := id hC
  replace hl : lv_has ls 4 [(0, .ref o), (1, .long p1)] := hl
  refine lv_iconst (v := 0) hx hb dX3_find_0 (by decide) ?_
  refine lv_istore_n (lv' := [(3, _), (0, _), (1, _)]) hx hb dX3_find_1 rfl hl (by decide) rfl (fun ls hl_ => ?_)
  replace hl := hl_
  obtain ⟨n9, h⟩ := h
  exact t_X3_find_2 hC hin hO n9 S o p1 0 _ _ _ h hT (lv_sub hl [1, 2, 0] rfl)
/-! X4_valueAt -/
abbrev rm_X4_valueAt : Room := { frames := 0, cells := 0, slots := 0, locals := 0 }
def w_X4_valueAt_23 (post : Option Nat → cs_S → Prop) (G : Nat → Nat) (S : cs_S) (y0 : Option Nat) : Prop := post y0 S
section
variable {p : Program} {l : Launch} {e : Env} {s : State} {m : MethodId} {args : Array Value} {below : List Frame} {meth : Method} {c : Code} {P : hw_G} {G : Nat → Nat} {A : Nat → Prop}
set_option maxRecDepth 100000 in
set_option maxHeartbeats 4000000 in
theorem t_X4_valueAt_23 {post : Option Nat → cs_S → Prop} (hC : rf_C P RX4 p s m meth c cX4_valueAt 2 (some (.object "WatchHouse$Value"))) (hin : meth.name = yX4_valueAt.name) (hO : cs_O G A s s.heap) (S : cs_S) (y0 : Option Nat) (H : Heap) (locs : List Loc) (ls : Array Slot) (h : w_X4_valueAt_23 post G S y0) (hT : cs_T P s A S H locs) (hl : lv_has ls 2 []) : W p l e rm_X4_valueAt s m args below meth c H locs 0 0 (MQ below (cs_Qr P A post) args s 0 0 A) (F0 m 23 ls [va_rf y0]) := by
  obtain ⟨hx, hb, hml, hown, hK, -, -⟩ := id hC
  exact cs_aret (v := y0) hC (Or.inl ⟨_, rfl⟩) hT h dX4_valueAt_23 (Nat.le_refl _) (Nat.le_refl _)
end
def w_X4_valueAt_13 (post : Option Nat → cs_S → Prop) (G : Nat → Nat) (S : cs_S)  : Prop := w_X4_valueAt_23 post G S none
section
variable {p : Program} {l : Launch} {e : Env} {s : State} {m : MethodId} {args : Array Value} {below : List Frame} {meth : Method} {c : Code} {P : hw_G} {G : Nat → Nat} {A : Nat → Prop}
set_option maxRecDepth 100000 in
set_option maxHeartbeats 4000000 in
theorem t_X4_valueAt_13 {post : Option Nat → cs_S → Prop} (hC : rf_C P RX4 p s m meth c cX4_valueAt 2 (some (.object "WatchHouse$Value"))) (hin : meth.name = yX4_valueAt.name) (hO : cs_O G A s s.heap) (S : cs_S)  (H : Heap) (locs : List Loc) (ls : Array Slot) (h : w_X4_valueAt_13 post G S ) (hT : cs_T P s A S H locs) (hl : lv_has ls 2 []) : W p l e rm_X4_valueAt s m args below meth c H locs 0 0 (MQ below (cs_Qr P A post) args s 0 0 A) (F0 m 13 ls []) := by
  obtain ⟨hx, hb, hml, hown, hK, -, -⟩ := id hC
  refine hw_null hx hb dX4_valueAt_13 ?_
  refine lv_goto (tgt := 23) hx hb dX4_valueAt_14 (by decide) ?_
  exact t_X4_valueAt_23 hC hin hO S none _ _ _ h hT (lv_sub hl [] rfl)
end
def wp_X4_valueAt (post : Option Nat → cs_S → Prop) (G : Nat → Nat) (S : cs_S) (o : Nat) (p1 : Int32) : Prop := (p1 < 0 → w_X4_valueAt_13 post G S) ∧ (¬ p1 < 0 → cs_k S o = 6 ∧ ∀ r10, r10 = cs_r S 500 o → ∃ b11, r10 = some b11 ∧ cs_k S b11 = 26 ∧ (p1 < (Int32.ofNat (cs_n S b11)) → ∀ r13, r13 = cs_r S 500 o → ∃ b14, r13 = some b14 ∧ cs_k S b14 = 26 ∧ vp_in p1 (cs_n S b14) ∧ ∀ r16, r16 = cs_ar S b14 p1.toNatClampNeg → w_X4_valueAt_23 post G S r16) ∧ (¬ p1 < (Int32.ofNat (cs_n S b11)) → w_X4_valueAt_13 post G S))
set_option maxRecDepth 100000 in
set_option maxHeartbeats 4000000 in
theorem c_X4_valueAt {l : Launch} {P : hw_G} {G : Nat → Nat} {S : cs_S} {sz : Nat} {o : Nat} {p1 : Int32} {post : Option Nat → cs_S → Prop} (h : wp_X4_valueAt post G S o p1) : Met l yX4_valueAt [Cond.code yX4_valueAt cX4_valueAt 2 (some (.object "WatchHouse$Value"))] rm_X4_valueAt (cs_Pc P G S sz [.ref o, .int p1]) (cs_Qr P (cs_A S sz) post) 0 0 (cs_A S sz) := by
  refine cs_met (by decide) rfl (Nat.le_of_ble_eq_true rfl) ?_
  intro p e s m below meth c ls hC hin hO hT hl
  obtain ⟨hx, hb, hml, hown, hK, -, -⟩ := id hC
  replace hl : lv_has ls 2 [(0, .ref o), (1, .int p1)] := hl
  refine lv_iload_n hx hb dX4_valueAt_0 rfl (lv_at hl 1 rfl) ?_
  refine lv_if_lt (tgt := 13) hx hb dX4_valueAt_1 (by decide) (fun hc => ?_) (fun hc => ?_)
  · replace h := h.1 hc
    exact t_X4_valueAt_13 hC hin hO S _ _ _ h hT (lv_sub hl [] rfl)
  · replace h := h.2 hc
    refine lv_iload_n hx hb dX4_valueAt_4 rfl (lv_at hl 1 rfl) ?_
    refine lv_aload_n (x := o) hx hb dX4_valueAt_5 rfl (lv_at hl 0 rfl) ?_
    obtain ⟨hk9_, h⟩ := h
    refine cs_get hx hb hK hT hown 5 hk9_ (by decide) rfl 0 (by decide) kfX4_9 (v := va_rf (cs_r S 500 o)) rfl dX4_valueAt_6 ?_
    refine hw_topr (fun r10 er10 => ?_)
    replace h := h r10 er10
    obtain ⟨b11, rfl, h⟩ := h
    obtain ⟨hk12_, h⟩ := h
    refine cs_alen hx hb hK hT 26 hk12_ (by decide) (by decide) dX4_valueAt_9 ?_
    refine lv_icmp_lt (tgt := 17) hx hb dX4_valueAt_10 (by decide) (fun hc => ?_) (fun hc => ?_)
    · replace h := h.1 hc
      refine lv_aload_n (x := o) hx hb dX4_valueAt_17 rfl (lv_at hl 0 rfl) ?_
      refine cs_get hx hb hK hT hown 5 hk9_ (by decide) rfl 0 (by decide) kfX4_9 (v := va_rf (cs_r S 500 o)) rfl dX4_valueAt_18 ?_
      refine hw_topr (fun r13 er13 => ?_)
      replace h := h r13 er13
      refine lv_iload_n hx hb dX4_valueAt_21 rfl (lv_at hl 1 rfl) ?_
      obtain ⟨b14, rfl, h⟩ := h
      obtain ⟨hk15_, h⟩ := h
      obtain ⟨hi, h⟩ := h
      refine cs_aald hx hb hK hT 26 hk15_ (by decide) rfl (by decide) hi dX4_valueAt_22 ?_
      refine hw_topr (fun r16 er16 => ?_)
      replace h := h r16 er16
      exact t_X4_valueAt_23 hC hin hO S r16 _ _ _ h hT (lv_sub hl [] rfl)
    · replace h := h.2 hc
      exact t_X4_valueAt_13 hC hin hO S _ _ _ h hT (lv_sub hl [] rfl)
/-! X4_holdsValues -/
abbrev rm_X4_holdsValues : Room := { frames := 1, cells := 0, slots := 0, locals := 22 }
def w_X4_holdsValues_17 (post : Int32 → cs_S → Prop) (G : Nat → Nat) (S : cs_S)  : Prop := post 0 S
section
variable {p : Program} {l : Launch} {e : Env} {s : State} {m : MethodId} {args : Array Value} {below : List Frame} {meth : Method} {c : Code} {P : hw_G} {G : Nat → Nat} {A : Nat → Prop}
set_option maxRecDepth 100000 in
set_option maxHeartbeats 4000000 in
theorem t_X4_holdsValues_17 {post : Int32 → cs_S → Prop} (hC : rf_C P RX4 p s m meth c cX4_holdsValues 5 (some .boolean)) (hin : meth.name = yX4_holdsValues.name) (hO : cs_O G A s s.heap) (S : cs_S)  (H : Heap) (locs : List Loc) (ls : Array Slot) (h : w_X4_holdsValues_17 post G S ) (hT : cs_T P s A S H locs) (hl : lv_has ls 5 []) : W p l e rm_X4_holdsValues s m args below meth c H locs 0 0 (MQ below (cs_Qi P A post) args s 0 0 A) (F0 m 17 ls []) := by
  obtain ⟨hx, hb, hml, hown, hK, -, -⟩ := id hC
  refine lv_iconst (v := 0) hx hb dX4_holdsValues_17 (by decide) ?_
  exact cs_zret hC hT rfl h dX4_holdsValues_18 (Nat.le_refl _) (Nat.le_refl _)
end
def w_X4_holdsValues_60 (post : Int32 → cs_S → Prop) (G : Nat → Nat) (S : cs_S)  : Prop := post 1 S
section
variable {p : Program} {l : Launch} {e : Env} {s : State} {m : MethodId} {args : Array Value} {below : List Frame} {meth : Method} {c : Code} {P : hw_G} {G : Nat → Nat} {A : Nat → Prop}
set_option maxRecDepth 100000 in
set_option maxHeartbeats 4000000 in
theorem t_X4_holdsValues_60 {post : Int32 → cs_S → Prop} (hC : rf_C P RX4 p s m meth c cX4_holdsValues 5 (some .boolean)) (hin : meth.name = yX4_holdsValues.name) (hO : cs_O G A s s.heap) (S : cs_S)  (H : Heap) (locs : List Loc) (ls : Array Slot) (h : w_X4_holdsValues_60 post G S ) (hT : cs_T P s A S H locs) (hl : lv_has ls 5 []) : W p l e rm_X4_holdsValues s m args below meth c H locs 0 0 (MQ below (cs_Qi P A post) args s 0 0 A) (F0 m 60 ls []) := by
  obtain ⟨hx, hb, hml, hown, hK, -, -⟩ := id hC
  refine lv_iconst (v := 1) hx hb dX4_holdsValues_60 (by decide) ?_
  exact cs_zret hC hT rfl h dX4_holdsValues_61 (Nat.le_refl _) (Nat.le_refl _)
end
def w_X4_holdsValues_22 (post : Int32 → cs_S → Prop) (G : Nat → Nat) : Nat → cs_S → Nat → Option Nat → Int32 → Int32 → Prop
  | 0, _, _, _, _, _ => False
  | n + 1, S, x0, x1, x2, x4 => (x2 ≤ x4 → w_X4_holdsValues_60 post G S) ∧ (¬ x2 ≤ x4 → ∃ b15, x1 = some b15 ∧ cs_k S b15 = 26 ∧ ((Int32.ofNat (cs_n S b15)) ≤ x4 → w_X4_holdsValues_60 post G S) ∧ (¬ (Int32.ofNat (cs_n S b15)) ≤ x4 → cs_k S x0 = 6 ∧ ∀ r18, r18 = cs_r S 500 x0 → ∃ b19, r18 = some b19 ∧ cs_k S b19 = 26 ∧ vp_in x4 (cs_n S b19) ∧ ∀ r21, r21 = cs_ar S b19 x4.toNatClampNeg → vp_in x4 (cs_n S b15) ∧ ∀ r22, r22 = cs_ar S b15 x4.toNatClampNeg → ∃ b23, r21 = some b23 ∧ cs_k S b23 = 11 ∧ wp_X9_same (fun r24 S24 => (¬ r24 = 0 → w_X4_holdsValues_22 post G n S24 x0 (some b15) x2 (x4 + 1)) ∧ (r24 = 0 → post 0 S24)) G S b23 r22))
section
variable {p : Program} {l : Launch} {e : Env} {s : State} {m : MethodId} {args : Array Value} {below : List Frame} {meth : Method} {c : Code} {P : hw_G} {G : Nat → Nat} {A : Nat → Prop}
set_option maxRecDepth 100000 in
set_option maxHeartbeats 4000000 in
theorem t_X4_holdsValues_22 {post : Int32 → cs_S → Prop} (hC : rf_C P RX4 p s m meth c cX4_holdsValues 5 (some .boolean)) (hin : meth.name = yX4_holdsValues.name) (hO : cs_O G A s s.heap) : ∀ (n : Nat) (S : cs_S) (x0 : Nat) (x1 : Option Nat) (x2 : Int32) (x4 : Int32) (H : Heap) (locs : List Loc) (ls : Array Slot), w_X4_holdsValues_22 post G n S x0 x1 x2 x4 → cs_T P s A S H locs → lv_has ls 5 [(0, .ref x0), (1, va_rf x1), (2, .int x2), (4, .int x4)] → W p l e rm_X4_holdsValues s m args below meth c H locs 0 0 (MQ below (cs_Qi P A post) args s 0 0 A) (F0 m 22 ls []) := by
  obtain ⟨hx, hb, hml, hown, hK, -, -⟩ := id hC
  intro n
  induction n with
  | zero => intro S x0 x1 x2 x4 H locs ls h; exact False.elim h
  | succ n ih =>
    intro S x0 x1 x2 x4 H locs ls h hT hl
    refine lv_iload hx hb dX4_holdsValues_22 (lv_at hl 3 rfl) ?_
    refine lv_iload_n hx hb dX4_holdsValues_24 rfl (lv_at hl 2 rfl) ?_
    refine lv_icmp_ge (tgt := 60) hx hb dX4_holdsValues_25 (by decide) (fun hc => ?_) (fun hc => ?_)
    · replace h := h.1 hc
      exact t_X4_holdsValues_60 hC hin hO S _ _ _ h hT (lv_sub hl [] rfl)
    · replace h := h.2 hc
      refine lv_iload hx hb dX4_holdsValues_28 (lv_at hl 3 rfl) ?_
      refine hw_aload_n (x := x1) hx hb dX4_holdsValues_30 rfl (lv_at hl 1 rfl) ?_
      obtain ⟨b15, rfl, h⟩ := h
      obtain ⟨hk16_, h⟩ := h
      refine cs_alen hx hb hK hT 26 hk16_ (by decide) (by decide) dX4_holdsValues_31 ?_
      refine lv_icmp_ge (tgt := 60) hx hb dX4_holdsValues_32 (by decide) (fun hc => ?_) (fun hc => ?_)
      · replace h := h.1 hc
        exact t_X4_holdsValues_60 hC hin hO S _ _ _ h hT (lv_sub hl [] rfl)
      · replace h := h.2 hc
        refine lv_aload_n (x := x0) hx hb dX4_holdsValues_35 rfl (lv_at hl 0 rfl) ?_
        obtain ⟨hk17_, h⟩ := h
        refine cs_get hx hb hK hT hown 5 hk17_ (by decide) rfl 0 (by decide) kfX4_9 (v := va_rf (cs_r S 500 x0)) rfl dX4_holdsValues_36 ?_
        refine hw_topr (fun r18 er18 => ?_)
        replace h := h r18 er18
        refine lv_iload hx hb dX4_holdsValues_39 (lv_at hl 3 rfl) ?_
        obtain ⟨b19, rfl, h⟩ := h
        obtain ⟨hk20_, h⟩ := h
        obtain ⟨hi, h⟩ := h
        refine cs_aald hx hb hK hT 26 hk20_ (by decide) rfl (by decide) hi dX4_holdsValues_41 ?_
        refine hw_topr (fun r21 er21 => ?_)
        replace h := h r21 er21
        refine lv_aload_n (x := b15) hx hb dX4_holdsValues_42 rfl (lv_at hl 1 rfl) ?_
        refine lv_iload hx hb dX4_holdsValues_43 (lv_at hl 3 rfl) ?_
        obtain ⟨hi, h⟩ := h
        refine cs_aald hx hb hK hT 26 hk16_ (by decide) rfl (by decide) hi dX4_holdsValues_45 ?_
        refine hw_topr (fun r22 er22 => ?_)
        replace h := h r22 er22
        obtain ⟨b23, rfl, h⟩ := h
        obtain ⟨hk25_, h⟩ := h
        refine cs_calli0 (cs_runV hx hb hml hown hK hO hT 10 hk25_ (by decide) rfl (c_X9_same h) rfl rfl klX4_26 ki_X9_same ks_X9_same kn_X9 kc_X9_same 1 ⟨rfl, by decide, by decide, by decide +kernel⟩ ⟨by decide, by decide⟩ rfl hl.1 rfl (Nat.le_of_ble_eq_true rfl) ⟨(Nat.le_refl _), (Nat.le_refl _)⟩ dX4_holdsValues_46) hT (fun r24 S24 H locs h_ hT_ => ?_)
        replace h := h_
        replace hT := hT_
        refine lv_if_ne (tgt := 54) hx hb dX4_holdsValues_49 (by decide) (fun hc => ?_) (fun hc => ?_)
        · replace h := h.1 hc
          refine lv_iinc (v := x4 + 1) (lv' := [(4, _), (0, _), (1, _), (2, _)]) hx hb dX4_holdsValues_54 hl (k := 3) rfl rfl (by decide) rfl (fun ls hl_ => ?_)
          replace hl := hl_
          refine lv_goto (tgt := 22) hx hb dX4_holdsValues_57 (by decide) ?_
          exact ih S24 x0 (some b15) x2 (x4 + 1) _ _ _ h hT (lv_sub hl [1, 2, 3, 0] rfl)
        · replace h := h.2 hc
          refine lv_iconst (v := 0) hx hb dX4_holdsValues_52 (by decide) ?_
          exact cs_zret hC hT rfl h dX4_holdsValues_53 (Nat.le_refl _) (Nat.le_refl _)
end
def wp_X4_holdsValues (post : Int32 → cs_S → Prop) (G : Nat → Nat) (S : cs_S) (o : Nat) (p1 : Option Nat) (p2 : Int32) (p3 : Int32) : Prop := cs_k S o = 6 ∧ (¬ (cs_i S 501 o) = p3 → w_X4_holdsValues_17 post G S) ∧ ((cs_i S 501 o) = p3 → ∀ r27, r27 = cs_r S 500 o → ∃ b28, r27 = some b28 ∧ cs_k S b28 = 26 ∧ ((Int32.ofNat (cs_n S b28)) = p2 → ∃ n9, w_X4_holdsValues_22 post G n9 S o p1 p2 0) ∧ (¬ (Int32.ofNat (cs_n S b28)) = p2 → w_X4_holdsValues_17 post G S))
set_option maxRecDepth 100000 in
set_option maxHeartbeats 4000000 in
theorem c_X4_holdsValues {l : Launch} {P : hw_G} {G : Nat → Nat} {S : cs_S} {sz : Nat} {o : Nat} {p1 : Option Nat} {p2 : Int32} {p3 : Int32} {post : Int32 → cs_S → Prop} (h : wp_X4_holdsValues post G S o p1 p2 p3) : Met l yX4_holdsValues [Cond.code yX4_holdsValues cX4_holdsValues 5 (some .boolean)] rm_X4_holdsValues (cs_Pc P G S sz [.ref o, va_rf p1, .int p2, .int p3]) (cs_Qi P (cs_A S sz) post) 0 0 (cs_A S sz) := by
  refine cs_met (by decide) rfl (by cases p1 <;> exact Nat.le_of_ble_eq_true rfl) ?_
  intro p e s m below meth c ls hC hin hO hT hl
  obtain ⟨hx, hb, hml, hown, hK, -, -⟩ := id hC
  replace hl : lv_has ls 5 [(0, .ref o), (1, va_rf p1), (2, .int p2), (3, .int p3)] := by cases p1 <;> exact hl
  refine lv_aload_n (x := o) hx hb dX4_holdsValues_0 rfl (lv_at hl 0 rfl) ?_
  obtain ⟨hk26_, h⟩ := h
  refine cs_get hx hb hK hT hown 5 hk26_ (by decide) rfl 1 (by decide) kfX4_15 (v := .int (cs_i S 501 o)) rfl dX4_holdsValues_1 ?_
  refine lv_iload_n hx hb dX4_holdsValues_4 rfl (lv_at hl 3 rfl) ?_
  refine lv_icmp_ne (tgt := 17) hx hb dX4_holdsValues_5 (by decide) (fun hc => ?_) (fun hc => ?_)
  · replace h := h.1 hc
    exact t_X4_holdsValues_17 hC hin hO S _ _ _ h hT (lv_sub hl [] rfl)
  · replace h := h.2 hc
    refine lv_aload_n (x := o) hx hb dX4_holdsValues_8 rfl (lv_at hl 0 rfl) ?_
    refine cs_get hx hb hK hT hown 5 hk26_ (by decide) rfl 0 (by decide) kfX4_9 (v := va_rf (cs_r S 500 o)) rfl dX4_holdsValues_9 ?_
    refine hw_topr (fun r27 er27 => ?_)
    replace h := h r27 er27
    obtain ⟨b28, rfl, h⟩ := h
    obtain ⟨hk29_, h⟩ := h
    refine cs_alen hx hb hK hT 26 hk29_ (by decide) (by decide) dX4_holdsValues_12 ?_
    refine lv_iload_n hx hb dX4_holdsValues_13 rfl (lv_at hl 2 rfl) ?_
    refine lv_icmp_eq (tgt := 19) hx hb dX4_holdsValues_14 (by decide) (fun hc => ?_) (fun hc => ?_)
    · replace h := h.1 hc
      refine lv_iconst (v := 0) hx hb dX4_holdsValues_19 (by decide) ?_
      refine lv_istore (lv' := [(4, _), (0, _), (1, _), (2, _), (3, _)]) hx hb dX4_holdsValues_20 hl (by decide) rfl (fun ls hl_ => ?_)
      replace hl := hl_
      obtain ⟨n9, h⟩ := h
      exact t_X4_holdsValues_22 hC hin hO n9 S o p1 p2 0 _ _ _ h hT (lv_sub hl [1, 2, 3, 0] rfl)
    · replace h := h.2 hc
      exact t_X4_holdsValues_17 hC hin hO S _ _ _ h hT (lv_sub hl [] rfl)
/-! X6_more -/
abbrev rm_X6_more : Room := { frames := 0, cells := 0, slots := 0, locals := 0 }
def w_X6_more_23 (post : Int32 → cs_S → Prop) (G : Nat → Nat) (S : cs_S) (y0 : Int32) : Prop := narrow .boolean (.int y0) = .int y0 ∧ post y0 S
section
variable {p : Program} {l : Launch} {e : Env} {s : State} {m : MethodId} {args : Array Value} {below : List Frame} {meth : Method} {c : Code} {P : hw_G} {G : Nat → Nat} {A : Nat → Prop}
set_option maxRecDepth 100000 in
set_option maxHeartbeats 4000000 in
theorem t_X6_more_23 {post : Int32 → cs_S → Prop} (hC : rf_C P RX6 p s m meth c cX6_more 1 (some .boolean)) (hin : meth.name = yX6_more.name) (hO : cs_O G A s s.heap) (S : cs_S) (y0 : Int32) (H : Heap) (locs : List Loc) (ls : Array Slot) (h : w_X6_more_23 post G S y0) (hT : cs_T P s A S H locs) (hl : lv_has ls 1 []) : W p l e rm_X6_more s m args below meth c H locs 0 0 (MQ below (cs_Qi P A post) args s 0 0 A) (F0 m 23 ls [.int y0]) := by
  obtain ⟨hx, hb, hml, hown, hK, -, -⟩ := id hC
  exact cs_zret hC hT h.1 h.2 dX6_more_23 (Nat.le_refl _) (Nat.le_refl _)
end
def w_X6_more_22 (post : Int32 → cs_S → Prop) (G : Nat → Nat) (S : cs_S)  : Prop := w_X6_more_23 post G S 0
section
variable {p : Program} {l : Launch} {e : Env} {s : State} {m : MethodId} {args : Array Value} {below : List Frame} {meth : Method} {c : Code} {P : hw_G} {G : Nat → Nat} {A : Nat → Prop}
set_option maxRecDepth 100000 in
set_option maxHeartbeats 4000000 in
theorem t_X6_more_22 {post : Int32 → cs_S → Prop} (hC : rf_C P RX6 p s m meth c cX6_more 1 (some .boolean)) (hin : meth.name = yX6_more.name) (hO : cs_O G A s s.heap) (S : cs_S)  (H : Heap) (locs : List Loc) (ls : Array Slot) (h : w_X6_more_22 post G S ) (hT : cs_T P s A S H locs) (hl : lv_has ls 1 []) : W p l e rm_X6_more s m args below meth c H locs 0 0 (MQ below (cs_Qi P A post) args s 0 0 A) (F0 m 22 ls []) := by
  obtain ⟨hx, hb, hml, hown, hK, -, -⟩ := id hC
  refine lv_iconst (v := 0) hx hb dX6_more_22 (by decide) ?_
  exact t_X6_more_23 hC hin hO S 0 _ _ _ h hT (lv_sub hl [] rfl)
end
def wp_X6_more (post : Int32 → cs_S → Prop) (G : Nat → Nat) (S : cs_S) (o : Nat) : Prop := cs_k S o = 8 ∧ (¬ (cs_i S 700 o) = 0 → w_X6_more_22 post G S) ∧ ((cs_i S 700 o) = 0 → ((cs_i S 705 o) ≤ (cs_i S 706 o) → w_X6_more_22 post G S) ∧ (¬ (cs_i S 705 o) ≤ (cs_i S 706 o) → w_X6_more_23 post G S 1))
set_option maxRecDepth 100000 in
set_option maxHeartbeats 4000000 in
theorem c_X6_more {l : Launch} {P : hw_G} {G : Nat → Nat} {S : cs_S} {sz : Nat} {o : Nat} {post : Int32 → cs_S → Prop} (h : wp_X6_more post G S o) : Met l yX6_more [Cond.code yX6_more cX6_more 1 (some .boolean)] rm_X6_more (cs_Pc P G S sz [.ref o]) (cs_Qi P (cs_A S sz) post) 0 0 (cs_A S sz) := by
  refine cs_met (by decide) rfl (Nat.le_of_ble_eq_true rfl) ?_
  intro p e s m below meth c ls hC hin hO hT hl
  obtain ⟨hx, hb, hml, hown, hK, -, -⟩ := id hC
  replace hl : lv_has ls 1 [(0, .ref o)] := hl
  refine lv_aload_n (x := o) hx hb dX6_more_0 rfl (lv_at hl 0 rfl) ?_
  obtain ⟨hk2_, h⟩ := h
  refine cs_get hx hb hK hT hown 7 hk2_ (by decide) rfl 0 (by decide) kfX6_37 (v := .int (cs_i S 700 o)) rfl dX6_more_1 ?_
  refine lv_if_ne (tgt := 22) hx hb dX6_more_4 (by decide) (fun hc => ?_) (fun hc => ?_)
  · replace h := h.1 hc
    exact t_X6_more_22 hC hin hO S _ _ _ h hT (lv_sub hl [] rfl)
  · replace h := h.2 hc
    refine lv_aload_n (x := o) hx hb dX6_more_7 rfl (lv_at hl 0 rfl) ?_
    refine cs_get hx hb hK hT hown 7 hk2_ (by decide) rfl 6 (by decide) kfX6_34 (v := .int (cs_i S 706 o)) rfl dX6_more_8 ?_
    refine lv_aload_n (x := o) hx hb dX6_more_11 rfl (lv_at hl 0 rfl) ?_
    refine cs_get hx hb hK hT hown 7 hk2_ (by decide) rfl 5 (by decide) kfX6_31 (v := .int (cs_i S 705 o)) rfl dX6_more_12 ?_
    refine lv_icmp_ge (tgt := 22) hx hb dX6_more_15 (by decide) (fun hc => ?_) (fun hc => ?_)
    · replace h := h.1 hc
      exact t_X6_more_22 hC hin hO S _ _ _ h hT (lv_sub hl [] rfl)
    · replace h := h.2 hc
      refine lv_iconst (v := 1) hx hb dX6_more_18 (by decide) ?_
      refine lv_goto (tgt := 23) hx hb dX6_more_19 (by decide) ?_
      exact t_X6_more_23 hC hin hO S 1 _ _ _ h hT (lv_sub hl [] rfl)
/-! X6_open -/
abbrev rm_X6_open : Room := { frames := 1, cells := 0, slots := 0, locals := 24 }
def wp_X6_open (post : cs_S → Prop) (G : Nat → Nat) (S : cs_S) (o : Nat) (p1 : Option Nat) (p2 : Int32) : Prop := cs_k S o = 8 ∧ ∀ S14, S14 = cs_ur S 704 o p1 → ∃ b15, p1 = some b15 ∧ cs_k S14 b15 = 20 ∧ cs_k S14 o = 8 ∧ ∀ S18, S18 = cs_ui S14 705 o (if Int32.ofNat (cs_n S14 b15) < p2 then Int32.ofNat (cs_n S14 b15) else p2) → cs_k S18 o = 8 ∧ ∀ S20, S20 = cs_ui S18 706 o 0 → cs_k S20 o = 8 ∧ ∀ S22, S22 = cs_ui S20 700 o 0 → cs_k S22 o = 8 ∧ ∀ S24, S24 = cs_ui S22 701 o ((-1)) → post S24
set_option maxRecDepth 100000 in
set_option maxHeartbeats 4000000 in
theorem c_X6_open {l : Launch} {P : hw_G} {G : Nat → Nat} {S : cs_S} {sz : Nat} {o : Nat} {p1 : Option Nat} {p2 : Int32} {post : cs_S → Prop} (h : wp_X6_open post G S o p1 p2) : Met l yX6_open [Cond.code yX6_open cX6_open 3 none] rm_X6_open (cs_Pc P G S sz [.ref o, va_rf p1, .int p2]) (cs_Qv P (cs_A S sz) post) 0 0 (cs_A S sz) := by
  refine cs_met (by decide) rfl (by cases p1 <;> exact Nat.le_of_ble_eq_true rfl) ?_
  intro p e s m below meth c ls hC hin hO hT hl
  obtain ⟨hx, hb, hml, hown, hK, -, -⟩ := id hC
  replace hl : lv_has ls 3 [(0, .ref o), (1, va_rf p1), (2, .int p2)] := by cases p1 <;> exact hl
  refine lv_aload_n (x := o) hx hb dX6_open_0 rfl (lv_at hl 0 rfl) ?_
  refine hw_aload_n (x := p1) hx hb dX6_open_1 rfl (lv_at hl 1 rfl) ?_
  obtain ⟨hk13_, h⟩ := h
  refine cs_putr (x := p1) hx hb hK hT hown 7 hk13_ (by decide) rfl 4 (by decide) kfX6_18 rfl (tyX6_ok 4 (by decide)) rfl 704 rfl dX6_open_2 (fun H locs hT_ => ?_)
  replace hT := hT_
  obtain ⟨S14, eS14⟩ : ∃ z, z = cs_ur S 704 o p1 := ⟨_, rfl⟩
  rw [← eS14] at hT
  replace h := h S14 eS14
  refine lv_aload_n (x := o) hx hb dX6_open_5 rfl (lv_at hl 0 rfl) ?_
  refine lv_iload_n hx hb dX6_open_6 rfl (lv_at hl 2 rfl) ?_
  refine hw_aload_n (x := p1) hx hb dX6_open_7 rfl (lv_at hl 1 rfl) ?_
  obtain ⟨b15, rfl, h⟩ := h
  obtain ⟨hk16_, h⟩ := h
  refine cs_alen hx hb hK hT 20 hk16_ (by decide) (by decide) dX6_open_8 ?_
  refine va_mmin hx hb (hml.trans hl.1.symm) hown (hK.word klX6_25m rfl) (hK.word ki_mmin rfl) (hK.word kn_J9 rfl) (hK.word kc_mmin rfl) (by decide) (Nat.le_of_ble_eq_true rfl) (Nat.le_refl _) (Nat.le_refl _) dX6_open_9 ?_
  obtain ⟨hk17_, h⟩ := h
  refine cs_puti (x := (if Int32.ofNat (cs_n S14 b15) < p2 then Int32.ofNat (cs_n S14 b15) else p2)) hx hb hK hT hown 7 hk17_ (by decide) rfl 5 (by decide) kfX6_31 rfl (tyX6_ok 5 (by decide)) rfl 705 rfl dX6_open_12 (fun H locs hT_ => ?_)
  replace hT := hT_
  obtain ⟨S18, eS18⟩ : ∃ z, z = cs_ui S14 705 o (if Int32.ofNat (cs_n S14 b15) < p2 then Int32.ofNat (cs_n S14 b15) else p2) := ⟨_, rfl⟩
  rw [← eS18] at hT
  replace h := h S18 eS18
  refine lv_aload_n (x := o) hx hb dX6_open_15 rfl (lv_at hl 0 rfl) ?_
  refine lv_iconst (v := 0) hx hb dX6_open_16 (by decide) ?_
  obtain ⟨hk19_, h⟩ := h
  refine cs_puti (x := 0) hx hb hK hT hown 7 hk19_ (by decide) rfl 6 (by decide) kfX6_34 rfl (tyX6_ok 6 (by decide)) rfl 706 rfl dX6_open_17 (fun H locs hT_ => ?_)
  replace hT := hT_
  obtain ⟨S20, eS20⟩ : ∃ z, z = cs_ui S18 706 o 0 := ⟨_, rfl⟩
  rw [← eS20] at hT
  replace h := h S20 eS20
  refine lv_aload_n (x := o) hx hb dX6_open_20 rfl (lv_at hl 0 rfl) ?_
  refine lv_iconst (v := 0) hx hb dX6_open_21 (by decide) ?_
  obtain ⟨hk21_, h⟩ := h
  refine cs_puti (x := 0) hx hb hK hT hown 7 hk21_ (by decide) rfl 0 (by decide) kfX6_37 rfl (tyX6_ok 0 (by decide)) rfl 700 rfl dX6_open_22 (fun H locs hT_ => ?_)
  replace hT := hT_
  obtain ⟨S22, eS22⟩ : ∃ z, z = cs_ui S20 700 o 0 := ⟨_, rfl⟩
  rw [← eS22] at hT
  replace h := h S22 eS22
  refine lv_aload_n (x := o) hx hb dX6_open_25 rfl (lv_at hl 0 rfl) ?_
  refine lv_iconst (v := (-1)) hx hb dX6_open_26 (by decide) ?_
  obtain ⟨hk23_, h⟩ := h
  refine cs_puti (x := ((-1))) hx hb hK hT hown 7 hk23_ (by decide) rfl 1 (by decide) kfX6_21 rfl (tyX6_ok 1 (by decide)) rfl 701 rfl dX6_open_27 (fun H locs hT_ => ?_)
  replace hT := hT_
  obtain ⟨S24, eS24⟩ : ∃ z, z = cs_ui S22 701 o ((-1)) := ⟨_, rfl⟩
  rw [← eS24] at hT
  replace h := h S24 eS24
  exact cs_vret hC hT h dX6_open_30 (Nat.le_refl _) (Nat.le_refl _)
/-! X10_latestAt -/
abbrev rm_X10_latestAt : Room := { frames := 0, cells := 0, slots := 0, locals := 0 }
def w_X10_latestAt_36 (post : Option Nat → cs_S → Prop) (G : Nat → Nat) (S : cs_S) (y0 : Option Nat) : Prop := post y0 S
section
variable {p : Program} {l : Launch} {e : Env} {s : State} {m : MethodId} {args : Array Value} {below : List Frame} {meth : Method} {c : Code} {P : hw_G} {G : Nat → Nat} {A : Nat → Prop}
set_option maxRecDepth 100000 in
set_option maxHeartbeats 4000000 in
theorem t_X10_latestAt_36 {post : Option Nat → cs_S → Prop} (hC : rf_C P RX10 p s m meth c cX10_latestAt 2 (some (.object "WatchHouse$Event"))) (hin : meth.name = yX10_latestAt.name) (hO : cs_O G A s s.heap) (S : cs_S) (y0 : Option Nat) (H : Heap) (locs : List Loc) (ls : Array Slot) (h : w_X10_latestAt_36 post G S y0) (hT : cs_T P s A S H locs) (hl : lv_has ls 2 []) : W p l e rm_X10_latestAt s m args below meth c H locs 0 0 (MQ below (cs_Qr P A post) args s 0 0 A) (F0 m 36 ls [va_rf y0]) := by
  obtain ⟨hx, hb, hml, hown, hK, -, -⟩ := id hC
  exact cs_aret (v := y0) hC (Or.inl ⟨_, rfl⟩) hT h dX10_latestAt_36 (Nat.le_refl _) (Nat.le_refl _)
end
def w_X10_latestAt_23 (post : Option Nat → cs_S → Prop) (G : Nat → Nat) (S : cs_S)  : Prop := w_X10_latestAt_36 post G S none
section
variable {p : Program} {l : Launch} {e : Env} {s : State} {m : MethodId} {args : Array Value} {below : List Frame} {meth : Method} {c : Code} {P : hw_G} {G : Nat → Nat} {A : Nat → Prop}
set_option maxRecDepth 100000 in
set_option maxHeartbeats 4000000 in
theorem t_X10_latestAt_23 {post : Option Nat → cs_S → Prop} (hC : rf_C P RX10 p s m meth c cX10_latestAt 2 (some (.object "WatchHouse$Event"))) (hin : meth.name = yX10_latestAt.name) (hO : cs_O G A s s.heap) (S : cs_S)  (H : Heap) (locs : List Loc) (ls : Array Slot) (h : w_X10_latestAt_23 post G S ) (hT : cs_T P s A S H locs) (hl : lv_has ls 2 []) : W p l e rm_X10_latestAt s m args below meth c H locs 0 0 (MQ below (cs_Qr P A post) args s 0 0 A) (F0 m 23 ls []) := by
  obtain ⟨hx, hb, hml, hown, hK, -, -⟩ := id hC
  refine hw_null hx hb dX10_latestAt_23 ?_
  refine lv_goto (tgt := 36) hx hb dX10_latestAt_24 (by decide) ?_
  exact t_X10_latestAt_36 hC hin hO S none _ _ _ h hT (lv_sub hl [] rfl)
end
def wp_X10_latestAt (post : Option Nat → cs_S → Prop) (G : Nat → Nat) (S : cs_S) (o : Nat) (p1 : Int32) : Prop := (p1 < 0 → w_X10_latestAt_23 post G S) ∧ (¬ p1 < 0 → cs_k S o = 12 ∧ ((cs_i S 1104 o) ≤ p1 → w_X10_latestAt_23 post G S) ∧ (¬ (cs_i S 1104 o) ≤ p1 → (((cs_i S 1104 o) - 64) ≤ p1 → ∀ r7, r7 = cs_r S 1102 o → ¬ (64 : Int32) = 0 ∧ ∃ b8, r7 = some b8 ∧ cs_k S b8 = 23 ∧ vp_in (p1 - p1 / 64 * 64) (cs_n S b8) ∧ ∀ r10, r10 = cs_ar S b8 (p1 - p1 / 64 * 64).toNatClampNeg → w_X10_latestAt_36 post G S r10) ∧ (¬ ((cs_i S 1104 o) - 64) ≤ p1 → w_X10_latestAt_23 post G S)))
set_option maxRecDepth 100000 in
set_option maxHeartbeats 4000000 in
theorem c_X10_latestAt {l : Launch} {P : hw_G} {G : Nat → Nat} {S : cs_S} {sz : Nat} {o : Nat} {p1 : Int32} {post : Option Nat → cs_S → Prop} (h : wp_X10_latestAt post G S o p1) : Met l yX10_latestAt [Cond.code yX10_latestAt cX10_latestAt 2 (some (.object "WatchHouse$Event"))] rm_X10_latestAt (cs_Pc P G S sz [.ref o, .int p1]) (cs_Qr P (cs_A S sz) post) 0 0 (cs_A S sz) := by
  refine cs_met (by decide) rfl (Nat.le_of_ble_eq_true rfl) ?_
  intro p e s m below meth c ls hC hin hO hT hl
  obtain ⟨hx, hb, hml, hown, hK, -, -⟩ := id hC
  replace hl : lv_has ls 2 [(0, .ref o), (1, .int p1)] := hl
  refine lv_iload_n hx hb dX10_latestAt_0 rfl (lv_at hl 1 rfl) ?_
  refine lv_if_lt (tgt := 23) hx hb dX10_latestAt_1 (by decide) (fun hc => ?_) (fun hc => ?_)
  · replace h := h.1 hc
    exact t_X10_latestAt_23 hC hin hO S _ _ _ h hT (lv_sub hl [] rfl)
  · replace h := h.2 hc
    refine lv_iload_n hx hb dX10_latestAt_4 rfl (lv_at hl 1 rfl) ?_
    refine lv_aload_n (x := o) hx hb dX10_latestAt_5 rfl (lv_at hl 0 rfl) ?_
    obtain ⟨hk6_, h⟩ := h
    refine cs_get hx hb hK hT hown 11 hk6_ (by decide) rfl 4 (by decide) kfX10_48 (v := .int (cs_i S 1104 o)) rfl dX10_latestAt_6 ?_
    refine lv_icmp_ge (tgt := 23) hx hb dX10_latestAt_9 (by decide) (fun hc => ?_) (fun hc => ?_)
    · replace h := h.1 hc
      exact t_X10_latestAt_23 hC hin hO S _ _ _ h hT (lv_sub hl [] rfl)
    · replace h := h.2 hc
      refine lv_iload_n hx hb dX10_latestAt_12 rfl (lv_at hl 1 rfl) ?_
      refine lv_aload_n (x := o) hx hb dX10_latestAt_13 rfl (lv_at hl 0 rfl) ?_
      refine cs_get hx hb hK hT hown 11 hk6_ (by decide) rfl 4 (by decide) kfX10_48 (v := .int (cs_i S 1104 o)) rfl dX10_latestAt_14 ?_
      refine lv_bipush (v := 64) hx hb dX10_latestAt_17 (by decide) ?_
      refine lv_isub hx hb dX10_latestAt_19 ?_
      refine lv_icmp_ge (tgt := 27) hx hb dX10_latestAt_20 (by decide) (fun hc => ?_) (fun hc => ?_)
      · replace h := h.1 hc
        refine lv_aload_n (x := o) hx hb dX10_latestAt_27 rfl (lv_at hl 0 rfl) ?_
        refine cs_get hx hb hK hT hown 11 hk6_ (by decide) rfl 2 (by decide) kfX10_27 (v := va_rf (cs_r S 1102 o)) rfl dX10_latestAt_28 ?_
        refine hw_topr (fun r7 er7 => ?_)
        replace h := h r7 er7
        refine lv_iload_n hx hb dX10_latestAt_31 rfl (lv_at hl 1 rfl) ?_
        refine lv_bipush (v := 64) hx hb dX10_latestAt_32 (by decide) ?_
        obtain ⟨hi, h⟩ := h
        refine lv_irem hx hb dX10_latestAt_34 hi ?_
        obtain ⟨b8, rfl, h⟩ := h
        obtain ⟨hk9_, h⟩ := h
        obtain ⟨hi, h⟩ := h
        refine cs_aald hx hb hK hT 23 hk9_ (by decide) rfl (by decide) hi dX10_latestAt_35 ?_
        refine hw_topr (fun r10 er10 => ?_)
        replace h := h r10 er10
        exact t_X10_latestAt_36 hC hin hO S r10 _ _ _ h hT (lv_sub hl [] rfl)
      · replace h := h.2 hc
        exact t_X10_latestAt_23 hC hin hO S _ _ _ h hT (lv_sub hl [] rfl)
