/-! X12_bad -/
abbrev rm_X12_bad : Room := { frames := 0, cells := 0, slots := 0, locals := 0 }
def w_X12_bad_9 (post : Int32 → rf_S → Prop) (σ : rf_S) (y0 : Int32) : Prop := post y0 σ
section
variable {p : Program} {l : Launch} {e : Env} {s : State} {m : MethodId} {args : Array Value} {below : List Frame} {meth : Method} {c : Code} {P : hw_G} {o : Nat} {ad : Nat → Nat}
set_option maxRecDepth 100000 in
set_option maxHeartbeats 4000000 in
theorem t_X12_bad_9 {post : Int32 → rf_S → Prop} (hC : rf_C P RX12 p s m meth c cX12_bad 2 (some .int)) (σ : rf_S) (y0 : Int32) (H : Heap) (locs : List Loc) (ls : Array Slot) (h : w_X12_bad_9 post σ y0) (hT : rf_T P s (rf_A o ad) o ad σ H locs) (hl : lv_has ls 2 []) : W p l e rm_X12_bad s m args below meth c H locs 0 0 (MQ below (rf_Qi P o ad post) args s 0 0 (rf_A o ad)) (F0 m 9 ls [.int y0]) := by
  obtain ⟨hx, hb, hml, hown, hK, -, -⟩ := id hC
  exact rf_iret hC hT h dX12_bad_9
end
def wp_X12_bad (post : Int32 → rf_S → Prop) (σ : rf_S) (p1 : Int32) : Prop := (p1 = 0 → w_X12_bad_9 post σ ((-1))) ∧ (¬ p1 = 0 → w_X12_bad_9 post σ 0)
set_option maxRecDepth 100000 in
set_option maxHeartbeats 4000000 in
theorem c_X12_bad {l : Launch} {P : hw_G} {o : Nat} {ad : Nat → Nat} {σ : rf_S} {p1 : Int32} {post : Int32 → rf_S → Prop} (h : wp_X12_bad post σ p1) : Met l yX12_bad [Cond.code yX12_bad cX12_bad 2 (some .int)] rm_X12_bad (rf_Pc P o ad σ [.ref o, .int p1]) (rf_Qi P o ad post) 0 0 (rf_A o ad) := by
  refine rf_met (by decide) rfl (Nat.le_of_ble_eq_true rfl) ?_
  intro p e s m below meth c ls hC hT hl
  obtain ⟨hx, hb, hml, hown, hK, -, -⟩ := id hC
  have hl : lv_has ls 2 [(0, .ref o), (1, .int p1)] := hl
  refine lv_iload_n hx hb dX12_bad_0 rfl (lv_at hl 1 rfl) ?_
  refine lv_if_eq (tgt := 8) hx hb dX12_bad_1 (by decide) (fun hc => ?_) (fun hc => ?_)
  · have h := h.1 hc
    refine lv_iconst (v := (-1)) hx hb dX12_bad_8 (by decide) ?_
    exact t_X12_bad_9 hC σ ((-1)) _ _ _ h hT (lv_sub hl [] rfl)
  · have h := h.2 hc
    refine lv_iconst (v := 0) hx hb dX12_bad_4 (by decide) ?_
    refine lv_goto (tgt := 9) hx hb dX12_bad_5 (by decide) ?_
    exact t_X12_bad_9 hC σ 0 _ _ _ h hT (lv_sub hl [] rfl)
/-! X12_node -/
abbrev rm_X12_node : Room := { frames := 0, cells := 0, slots := 0, locals := 0 }
def wp_X12_node (post : Int32 → rf_S → Prop) (σ : rf_S) (p1 : Int32) (p2 : Int32) (p3 : Int32) : Prop := vp_in (σ.1 53) (rf_n 47) ∧ vp_in (σ.1 53) (rf_n 48) ∧ vp_in (σ.1 53) (rf_n 49) ∧ post (((σ.1 53) + 1) - 1) (rf_ui (rf_ua (rf_ua (rf_ua σ 47 (σ.1 53).toNatClampNeg p1) 48 (σ.1 53).toNatClampNeg p2) 49 (σ.1 53).toNatClampNeg p3) 53 ((σ.1 53) + 1))
set_option maxRecDepth 100000 in
set_option maxHeartbeats 4000000 in
theorem c_X12_node {l : Launch} {P : hw_G} {o : Nat} {ad : Nat → Nat} {σ : rf_S} {p1 : Int32} {p2 : Int32} {p3 : Int32} {post : Int32 → rf_S → Prop} (h : wp_X12_node post σ p1 p2 p3) : Met l yX12_node [Cond.code yX12_node cX12_node 4 (some .int)] rm_X12_node (rf_Pc P o ad σ [.ref o, .int p1, .int p2, .int p3]) (rf_Qi P o ad post) 0 0 (rf_A o ad) := by
  refine rf_met (by decide) rfl (Nat.le_of_ble_eq_true rfl) ?_
  intro p e s m below meth c ls hC hT hl
  obtain ⟨hx, hb, hml, hown, hK, -, -⟩ := id hC
  have hl : lv_has ls 4 [(0, .ref o), (1, .int p1), (2, .int p2), (3, .int p3)] := hl
  refine lv_aload_n hx hb dX12_node_0 rfl (lv_at hl 0 rfl) ?_
  refine rf_get hx hb hK hT hown 47 (by decide) kfX12_235 (v := .ref (ad 47)) rfl dX12_node_1 ?_
  refine lv_aload_n hx hb dX12_node_4 rfl (lv_at hl 0 rfl) ?_
  refine rf_get hx hb hK hT hown 53 (by decide) kfX12_374 (v := .int (σ.1 53)) rfl dX12_node_5 ?_
  refine lv_iload_n hx hb dX12_node_8 rfl (lv_at hl 1 rfl) ?_
  obtain ⟨hi, h⟩ := h
  refine rf_iast hx hb hK hT 47 (by decide) rfl hi dX12_node_9 (fun H locs hT => ?_)
  refine lv_aload_n hx hb dX12_node_10 rfl (lv_at hl 0 rfl) ?_
  refine rf_get hx hb hK hT hown 48 (by decide) kfX12_238 (v := .ref (ad 48)) rfl dX12_node_11 ?_
  refine lv_aload_n hx hb dX12_node_14 rfl (lv_at hl 0 rfl) ?_
  refine rf_get hx hb hK hT hown 53 (by decide) kfX12_374 (v := .int (σ.1 53)) rfl dX12_node_15 ?_
  refine lv_iload_n hx hb dX12_node_18 rfl (lv_at hl 2 rfl) ?_
  obtain ⟨hi, h⟩ := h
  refine rf_iast hx hb hK hT 48 (by decide) rfl hi dX12_node_19 (fun H locs hT => ?_)
  refine lv_aload_n hx hb dX12_node_20 rfl (lv_at hl 0 rfl) ?_
  refine rf_get hx hb hK hT hown 49 (by decide) kfX12_241 (v := .ref (ad 49)) rfl dX12_node_21 ?_
  refine lv_aload_n hx hb dX12_node_24 rfl (lv_at hl 0 rfl) ?_
  refine rf_get hx hb hK hT hown 53 (by decide) kfX12_374 (v := .int (σ.1 53)) rfl dX12_node_25 ?_
  refine lv_iload_n hx hb dX12_node_28 rfl (lv_at hl 3 rfl) ?_
  obtain ⟨hi, h⟩ := h
  refine rf_iast hx hb hK hT 49 (by decide) rfl hi dX12_node_29 (fun H locs hT => ?_)
  refine lv_aload_n hx hb dX12_node_30 rfl (lv_at hl 0 rfl) ?_
  refine lv_dup hx hb dX12_node_31 rfl ?_
  refine rf_get hx hb hK hT hown 53 (by decide) kfX12_374 (v := .int (σ.1 53)) rfl dX12_node_32 ?_
  refine lv_iconst (v := 1) hx hb dX12_node_35 (by decide) ?_
  refine lv_iadd hx hb dX12_node_36 ?_
  refine rf_puti hx hb hK hT hown 53 (by decide) kfX12_374 rfl rfl dX12_node_37 (fun H locs hT => ?_)
  refine lv_aload_n hx hb dX12_node_40 rfl (lv_at hl 0 rfl) ?_
  refine rf_get hx hb hK hT hown 53 (by decide) kfX12_374 (v := .int ((σ.1 53) + 1)) rfl dX12_node_41 ?_
  refine lv_iconst (v := 1) hx hb dX12_node_44 (by decide) ?_
  refine lv_isub hx hb dX12_node_45 ?_
  exact rf_iret hC hT h dX12_node_46
/-! X12_alerted -/
abbrev rm_X12_alerted : Room := { frames := 4, cells := 0, slots := 0, locals := 93 }
def w_X12_alerted_22 (post : Int32 → rf_S → Prop) : Nat → rf_S → Int32 → Prop
  | 0, _, _ => False
  | n + 1, σ, x1 => ((σ.1 34) ≤ x1 → wp_X12_wrong (fun r9 σ9 => wp_X12_bad (fun r10 σ10 => post r10 σ10) σ9 r9) σ 5 (σ.1 55)) ∧ (¬ (σ.1 34) ≤ x1 → vp_in ((12 * (σ.1 32)) + x1) (rf_n 35) ∧ ((lg_cmp (σ.2.2.2 35 ((12 * (σ.1 32)) + x1).toNatClampNeg) (σ.2.1 58)) = 0 → wp_X12_node (fun r11 σ11 => wp_X12_next (fun σ12 => post r11 σ12) σ11) σ 5 x1 ((-1))) ∧ (¬ (lg_cmp (σ.2.2.2 35 ((12 * (σ.1 32)) + x1).toNatClampNeg) (σ.2.1 58)) = 0 → w_X12_alerted_22 post n σ (x1 + 1)))
section
variable {p : Program} {l : Launch} {e : Env} {s : State} {m : MethodId} {args : Array Value} {below : List Frame} {meth : Method} {c : Code} {P : hw_G} {o : Nat} {ad : Nat → Nat}
set_option maxRecDepth 100000 in
set_option maxHeartbeats 4000000 in
theorem t_X12_alerted_22 {post : Int32 → rf_S → Prop} (hC : rf_C P RX12 p s m meth c cX12_alerted 3 (some .int)) : ∀ (n : Nat) (σ : rf_S) (x1 : Int32) (H : Heap) (locs : List Loc) (ls : Array Slot), w_X12_alerted_22 post n σ x1 → rf_T P s (rf_A o ad) o ad σ H locs → lv_has ls 3 [(0, .ref o), (1, .int x1)] → W p l e rm_X12_alerted s m args below meth c H locs 0 0 (MQ below (rf_Qi P o ad post) args s 0 0 (rf_A o ad)) (F0 m 22 ls []) := by
  obtain ⟨hx, hb, hml, hown, hK, -, -⟩ := id hC
  intro n
  induction n with
  | zero => intro σ x1 H locs ls h; exact False.elim h
  | succ n ih =>
    intro σ x1 H locs ls h hT hl
    refine lv_iload_n hx hb dX12_alerted_22 rfl (lv_at hl 1 rfl) ?_
    refine lv_aload_n hx hb dX12_alerted_23 rfl (lv_at hl 0 rfl) ?_
    refine rf_get hx hb hK hT hown 34 (by decide) kfX12_371 (v := .int (σ.1 34)) rfl dX12_alerted_24 ?_
    refine lv_icmp_ge (tgt := 75) hx hb dX12_alerted_27 (by decide) (fun hc => ?_) (fun hc => ?_)
    · have h := h.1 hc
      refine lv_aload_n hx hb dX12_alerted_75 rfl (lv_at hl 0 rfl) ?_
      refine lv_aload_n hx hb dX12_alerted_76 rfl (lv_at hl 0 rfl) ?_
      refine lv_iconst (v := 5) hx hb dX12_alerted_77 (by decide) ?_
      refine lv_aload_n hx hb dX12_alerted_78 rfl (lv_at hl 0 rfl) ?_
      refine rf_get hx hb hK hT hown 55 (by decide) kfX12_313 (v := .int (σ.1 55)) rfl dX12_alerted_79 ?_
      refine rf_calli (rf_runV hx hb hml hown hK hT (c_X12_wrong h) rfl rfl klX12_111 ki_X12_wrong ks_X12_wrong kn_X12 kc_X12_wrong 2 ⟨rfl, by decide, by decide, by decide +kernel⟩ ⟨by decide, by decide⟩ rfl hl.1 rfl (Nat.le_of_ble_eq_true rfl) ⟨Nat.le_refl _, Nat.le_refl _⟩ dX12_alerted_82) hT (fun r9 σ9 H locs h hT => ?_)
      refine rf_calli (rf_runV hx hb hml hown hK hT (c_X12_bad h) rfl rfl klX12_425 ki_X12_bad ks_X12_bad kn_X12 kc_X12_bad 1 ⟨rfl, by decide, by decide, by decide +kernel⟩ ⟨by decide, by decide⟩ rfl hl.1 rfl (Nat.le_of_ble_eq_true rfl) ⟨Nat.le_refl _, Nat.le_refl _⟩ dX12_alerted_85) hT (fun r10 σ10 H locs h hT => ?_)
      exact rf_iret hC hT h dX12_alerted_88
    · have h := h.2 hc
      refine lv_aload_n hx hb dX12_alerted_30 rfl (lv_at hl 0 rfl) ?_
      refine rf_get hx hb hK hT hown 35 (by decide) kfX12_199 (v := .ref (ad 35)) rfl dX12_alerted_31 ?_
      refine lv_bipush (v := 12) hx hb dX12_alerted_34 (by decide) ?_
      refine lv_aload_n hx hb dX12_alerted_36 rfl (lv_at hl 0 rfl) ?_
      refine rf_get hx hb hK hT hown 32 (by decide) kfX12_368 (v := .int (σ.1 32)) rfl dX12_alerted_37 ?_
      refine lv_imul hx hb dX12_alerted_40 ?_
      refine lv_iload_n hx hb dX12_alerted_41 rfl (lv_at hl 1 rfl) ?_
      refine lv_iadd hx hb dX12_alerted_42 ?_
      obtain ⟨hi, h⟩ := h
      refine rf_lald hx hb hK hT 35 (by decide) rfl hi (v := σ.2.2.2 35 ((12 * (σ.1 32)) + x1).toNatClampNeg) rfl dX12_alerted_43 ?_
      refine lv_aload_n hx hb dX12_alerted_44 rfl (lv_at hl 0 rfl) ?_
      refine rf_get hx hb hK hT hown 58 (by decide) kfX12_337 (v := .long (σ.2.1 58)) rfl dX12_alerted_45 ?_
      refine W.lcmp hx hb dX12_alerted_48 ?_
      refine lv_if_eq (tgt := 55) hx hb dX12_alerted_49 (by decide) (fun hc => ?_) (fun hc => ?_)
      · have h := h.1 hc
        refine lv_aload_n hx hb dX12_alerted_55 rfl (lv_at hl 0 rfl) ?_
        refine lv_iconst (v := 5) hx hb dX12_alerted_56 (by decide) ?_
        refine lv_iload_n hx hb dX12_alerted_57 rfl (lv_at hl 1 rfl) ?_
        refine lv_iconst (v := (-1)) hx hb dX12_alerted_58 (by decide) ?_
        refine rf_calli (rf_runV hx hb hml hown hK hT (c_X12_node h) rfl rfl klX12_418 ki_X12_node ks_X12_node kn_X12 kc_X12_node 3 ⟨rfl, by decide, by decide, by decide +kernel⟩ ⟨by decide, by decide⟩ rfl hl.1 rfl (Nat.le_of_ble_eq_true rfl) ⟨Nat.le_refl _, Nat.le_refl _⟩ dX12_alerted_59) hT (fun r11 σ11 H locs h hT => ?_)
        refine lv_istore_n (lv' := [(2, _), (0, _), (1, _)]) hx hb dX12_alerted_62 rfl hl (by decide) rfl (fun ls hl => ?_)
        refine lv_aload_n hx hb dX12_alerted_63 rfl (lv_at hl 1 rfl) ?_
        refine rf_callv (rf_runV hx hb hml hown hK hT (c_X12_next h) rfl rfl klX12_359 ki_X12_next ks_X12_next kn_X12 kc_X12_next 0 ⟨rfl, by decide, by decide, by decide +kernel⟩ ⟨by decide, by decide⟩ rfl hl.1 rfl (Nat.le_of_ble_eq_true rfl) ⟨Nat.le_refl _, Nat.le_refl _⟩ dX12_alerted_64) hT (fun σ12 H locs h hT => ?_)
        refine lv_iload_n hx hb dX12_alerted_67 rfl (lv_at hl 0 rfl) ?_
        exact rf_iret hC hT h dX12_alerted_68
      · have h := h.2 hc
        refine lv_goto (tgt := 69) hx hb dX12_alerted_52 (by decide) ?_
        refine lv_iinc (v := x1 + 1) (lv' := [(1, _), (0, _)]) hx hb dX12_alerted_69 hl (k := 1) rfl rfl (by decide) rfl (fun ls hl => ?_)
        refine lv_goto (tgt := 22) hx hb dX12_alerted_72 (by decide) ?_
        exact ih σ (x1 + 1) _ _ _ h hT (lv_sub hl [1, 0] rfl)
end
def wp_X12_alerted (post : Int32 → rf_S → Prop) (σ : rf_S)  : Prop := wp_X12_next (fun σ13 => wp_X12_isName (fun r14 σ14 => (¬ r14 = 0 → ∃ n9, w_X12_alerted_22 post n9 σ14 0) ∧ (r14 = 0 → wp_X12_cant (fun r15 σ15 => wp_X12_bad (fun r16 σ16 => post r16 σ16) σ15 r15) σ14)) σ13) σ
set_option maxRecDepth 100000 in
set_option maxHeartbeats 4000000 in
theorem c_X12_alerted {l : Launch} {P : hw_G} {o : Nat} {ad : Nat → Nat} {σ : rf_S}  {post : Int32 → rf_S → Prop} (h : wp_X12_alerted post σ ) : Met l yX12_alerted [Cond.code yX12_alerted cX12_alerted 3 (some .int)] rm_X12_alerted (rf_Pc P o ad σ [.ref o]) (rf_Qi P o ad post) 0 0 (rf_A o ad) := by
  refine rf_met (by decide) rfl (Nat.le_of_ble_eq_true rfl) ?_
  intro p e s m below meth c ls hC hT hl
  obtain ⟨hx, hb, hml, hown, hK, -, -⟩ := id hC
  have hl : lv_has ls 3 [(0, .ref o)] := hl
  refine lv_aload_n hx hb dX12_alerted_0 rfl (lv_at hl 0 rfl) ?_
  refine rf_callv (rf_runV hx hb hml hown hK hT (c_X12_next h) rfl rfl klX12_359 ki_X12_next ks_X12_next kn_X12 kc_X12_next 0 ⟨rfl, by decide, by decide, by decide +kernel⟩ ⟨by decide, by decide⟩ rfl hl.1 rfl (Nat.le_of_ble_eq_true rfl) ⟨Nat.le_refl _, Nat.le_refl _⟩ dX12_alerted_1) hT (fun σ13 H locs h hT => ?_)
  refine lv_aload_n hx hb dX12_alerted_4 rfl (lv_at hl 0 rfl) ?_
  refine rf_calli (rf_runV hx hb hml hown hK hT (c_X12_isName h) rfl rfl klX12_386 ki_X12_isName ks_X12_isName kn_X12 kc_X12_isName 0 ⟨rfl, by decide, by decide, by decide +kernel⟩ ⟨by decide, by decide⟩ rfl hl.1 rfl (Nat.le_of_ble_eq_true rfl) ⟨Nat.le_refl _, Nat.le_refl _⟩ dX12_alerted_5) hT (fun r14 σ14 H locs h hT => ?_)
  refine lv_if_ne (tgt := 20) hx hb dX12_alerted_8 (by decide) (fun hc => ?_) (fun hc => ?_)
  · have h := h.1 hc
    refine lv_iconst (v := 0) hx hb dX12_alerted_20 (by decide) ?_
    refine lv_istore_n (lv' := [(1, _), (0, _)]) hx hb dX12_alerted_21 rfl hl (by decide) rfl (fun ls hl => ?_)
    obtain ⟨n9, h⟩ := h
    exact t_X12_alerted_22 hC n9 σ14 0 _ _ _ h hT (lv_sub hl [1, 0] rfl)
  · have h := h.2 hc
    refine lv_aload_n hx hb dX12_alerted_11 rfl (lv_at hl 0 rfl) ?_
    refine lv_aload_n hx hb dX12_alerted_12 rfl (lv_at hl 0 rfl) ?_
    refine rf_calli (rf_runV hx hb hml hown hK hT (c_X12_cant h) rfl rfl klX12_356 ki_X12_cant ks_X12_cant kn_X12 kc_X12_cant 0 ⟨rfl, by decide, by decide, by decide +kernel⟩ ⟨by decide, by decide⟩ rfl hl.1 rfl (Nat.le_of_ble_eq_true rfl) ⟨Nat.le_refl _, Nat.le_refl _⟩ dX12_alerted_13) hT (fun r15 σ15 H locs h hT => ?_)
    refine rf_calli (rf_runV hx hb hml hown hK hT (c_X12_bad h) rfl rfl klX12_425 ki_X12_bad ks_X12_bad kn_X12 kc_X12_bad 1 ⟨rfl, by decide, by decide, by decide +kernel⟩ ⟨by decide, by decide⟩ rfl hl.1 rfl (Nat.le_of_ble_eq_true rfl) ⟨Nat.le_refl _, Nat.le_refl _⟩ dX12_alerted_16) hT (fun r16 σ16 H locs h hT => ?_)
    exact rf_iret hC hT h dX12_alerted_19
/-! X12_compared -/
abbrev rm_X12_compared : Room := { frames := 5, cells := 0, slots := 0, locals := 115 }
def w_X12_compared_362 (post : Int32 → rf_S → Prop) (σ : rf_S)  : Prop := post ((-1)) σ
section
variable {p : Program} {l : Launch} {e : Env} {s : State} {m : MethodId} {args : Array Value} {below : List Frame} {meth : Method} {c : Code} {P : hw_G} {o : Nat} {ad : Nat → Nat}
set_option maxRecDepth 100000 in
set_option maxHeartbeats 4000000 in
theorem t_X12_compared_362 {post : Int32 → rf_S → Prop} (hC : rf_C P RX12 p s m meth c cX12_compared 6 (some .int)) (σ : rf_S)  (H : Heap) (locs : List Loc) (ls : Array Slot) (h : w_X12_compared_362 post σ ) (hT : rf_T P s (rf_A o ad) o ad σ H locs) (hl : lv_has ls 6 []) : W p l e rm_X12_compared s m args below meth c H locs 0 0 (MQ below (rf_Qi P o ad post) args s 0 0 (rf_A o ad)) (F0 m 362 ls []) := by
  obtain ⟨hx, hb, hml, hown, hK, -, -⟩ := id hC
  refine lv_iconst (v := (-1)) hx hb dX12_compared_362 (by decide) ?_
  exact rf_iret hC hT h dX12_compared_363
end
def w_X12_compared_329 (post : Int32 → rf_S → Prop) (σ : rf_S) (x3 : Int32) (x5 : Int32) (y1 : Int32) (y2 : Int32) : Prop := vp_in y1 (rf_n 48) ∧ wp_X12_next (fun σ19 => (x3 = 7 → wp_X12_mustSign (fun r20 σ20 => (r20 = 0 → w_X12_compared_362 post σ20) ∧ (¬ r20 = 0 → wp_X12_mustNumber (fun r21 σ21 => (¬ r21 = 0 → vp_in x5 (rf_n 49) ∧ post x5 (rf_ua σ21 49 x5.toNatClampNeg (σ21.1 60))) ∧ (r21 = 0 → w_X12_compared_362 post σ21)) σ20 0 32)) σ19 47) ∧ (¬ x3 = 7 → post x5 σ19)) (rf_ua σ 48 y1.toNatClampNeg y2)
section
variable {p : Program} {l : Launch} {e : Env} {s : State} {m : MethodId} {args : Array Value} {below : List Frame} {meth : Method} {c : Code} {P : hw_G} {o : Nat} {ad : Nat → Nat}
set_option maxRecDepth 100000 in
set_option maxHeartbeats 4000000 in
theorem t_X12_compared_329 {post : Int32 → rf_S → Prop} (hC : rf_C P RX12 p s m meth c cX12_compared 6 (some .int)) (σ : rf_S) (x3 : Int32) (x5 : Int32) (y1 : Int32) (y2 : Int32) (H : Heap) (locs : List Loc) (ls : Array Slot) (h : w_X12_compared_329 post σ x3 x5 y1 y2) (hT : rf_T P s (rf_A o ad) o ad σ H locs) (hl : lv_has ls 6 [(0, .ref o), (3, .int x3), (5, .int x5)]) : W p l e rm_X12_compared s m args below meth c H locs 0 0 (MQ below (rf_Qi P o ad post) args s 0 0 (rf_A o ad)) (F0 m 329 ls [.int y2, .int y1, .ref (ad 48)]) := by
  obtain ⟨hx, hb, hml, hown, hK, -, -⟩ := id hC
  obtain ⟨hi, h⟩ := h
  refine rf_iast hx hb hK hT 48 (by decide) rfl hi dX12_compared_329 (fun H locs hT => ?_)
  refine lv_aload_n hx hb dX12_compared_330 rfl (lv_at hl 0 rfl) ?_
  refine rf_callv (rf_runV hx hb hml hown hK hT (c_X12_next h) rfl rfl klX12_359 ki_X12_next ks_X12_next kn_X12 kc_X12_next 0 ⟨rfl, by decide, by decide, by decide +kernel⟩ ⟨by decide, by decide⟩ rfl hl.1 rfl (Nat.le_of_ble_eq_true rfl) ⟨Nat.le_refl _, Nat.le_refl _⟩ dX12_compared_331) hT (fun σ19 H locs h hT => ?_)
  refine lv_iload_n hx hb dX12_compared_334 rfl (lv_at hl 1 rfl) ?_
  refine lv_bipush (v := 7) hx hb dX12_compared_335 (by decide) ?_
  refine lv_icmp_eq (tgt := 343) hx hb dX12_compared_337 (by decide) (fun hc => ?_) (fun hc => ?_)
  · have h := h.1 hc
    refine lv_aload_n hx hb dX12_compared_343 rfl (lv_at hl 0 rfl) ?_
    refine lv_bipush (v := 47) hx hb dX12_compared_344 (by decide) ?_
    refine rf_calli (rf_runV hx hb hml hown hK hT (c_X12_mustSign h) rfl rfl klX12_402 ki_X12_mustSign ks_X12_mustSign kn_X12 kc_X12_mustSign 1 ⟨rfl, by decide, by decide, by decide +kernel⟩ ⟨by decide, by decide⟩ rfl hl.1 rfl (Nat.le_of_ble_eq_true rfl) ⟨Nat.le_refl _, Nat.le_refl _⟩ dX12_compared_346) hT (fun r20 σ20 H locs h hT => ?_)
    refine lv_if_eq (tgt := 362) hx hb dX12_compared_349 (by decide) (fun hc => ?_) (fun hc => ?_)
    · have h := h.1 hc
      exact t_X12_compared_362 hC σ20 _ _ _ h hT (lv_sub hl [] rfl)
    · have h := h.2 hc
      refine lv_aload_n hx hb dX12_compared_352 rfl (lv_at hl 0 rfl) ?_
      refine lv_iconst (v := 0) hx hb dX12_compared_353 (by decide) ?_
      refine lv_bipush (v := 32) hx hb dX12_compared_354 (by decide) ?_
      refine rf_calli (rf_runV hx hb hml hown hK hT (c_X12_mustNumber h) rfl rfl klX12_399 ki_X12_mustNumber ks_X12_mustNumber kn_X12 kc_X12_mustNumber 2 ⟨rfl, by decide, by decide, by decide +kernel⟩ ⟨by decide, by decide⟩ rfl hl.1 rfl (Nat.le_of_ble_eq_true rfl) ⟨Nat.le_refl _, Nat.le_refl _⟩ dX12_compared_356) hT (fun r21 σ21 H locs h hT => ?_)
      refine lv_if_ne (tgt := 364) hx hb dX12_compared_359 (by decide) (fun hc => ?_) (fun hc => ?_)
      · have h := h.1 hc
        refine lv_aload_n hx hb dX12_compared_364 rfl (lv_at hl 0 rfl) ?_
        refine rf_get hx hb hK hT hown 49 (by decide) kfX12_241 (v := .ref (ad 49)) rfl dX12_compared_365 ?_
        refine lv_iload hx hb dX12_compared_368 (lv_at hl 2 rfl) ?_
        refine lv_aload_n hx hb dX12_compared_370 rfl (lv_at hl 0 rfl) ?_
        refine rf_get hx hb hK hT hown 60 (by decide) kfX12_365 (v := .int (σ21.1 60)) rfl dX12_compared_371 ?_
        obtain ⟨hi, h⟩ := h
        refine rf_iast hx hb hK hT 49 (by decide) rfl hi dX12_compared_374 (fun H locs hT => ?_)
        refine lv_iload hx hb dX12_compared_375 (lv_at hl 2 rfl) ?_
        exact rf_iret hC hT h dX12_compared_377
      · have h := h.2 hc
        exact t_X12_compared_362 hC σ21 _ _ _ h hT (lv_sub hl [] rfl)
  · have h := h.2 hc
    refine lv_iload hx hb dX12_compared_340 (lv_at hl 2 rfl) ?_
    exact rf_iret hC hT h dX12_compared_342
end
def w_X12_compared_286 (post : Int32 → rf_S → Prop) (σ : rf_S) (x3 : Int32) (x5 : Int32) (y1 : Int32) (y2 : Int32) : Prop := vp_in y1 (rf_n 51) ∧ vp_in x5 (rf_n 50) ∧ (¬ (σ.1 54) = 3 → w_X12_compared_329 post (rf_ua (rf_ua σ 51 y1.toNatClampNeg y2) 50 x5.toNatClampNeg (σ.1 56)) x3 x5 x5 ((-1))) ∧ ((σ.1 54) = 3 → w_X12_compared_329 post (rf_ua (rf_ua σ 51 y1.toNatClampNeg y2) 50 x5.toNatClampNeg (σ.1 56)) x3 x5 x5 ((2120 * (σ.1 32)) + (σ.1 57)))
section
variable {p : Program} {l : Launch} {e : Env} {s : State} {m : MethodId} {args : Array Value} {below : List Frame} {meth : Method} {c : Code} {P : hw_G} {o : Nat} {ad : Nat → Nat}
set_option maxRecDepth 100000 in
set_option maxHeartbeats 4000000 in
theorem t_X12_compared_286 {post : Int32 → rf_S → Prop} (hC : rf_C P RX12 p s m meth c cX12_compared 6 (some .int)) (σ : rf_S) (x3 : Int32) (x5 : Int32) (y1 : Int32) (y2 : Int32) (H : Heap) (locs : List Loc) (ls : Array Slot) (h : w_X12_compared_286 post σ x3 x5 y1 y2) (hT : rf_T P s (rf_A o ad) o ad σ H locs) (hl : lv_has ls 6 [(0, .ref o), (3, .int x3), (5, .int x5)]) : W p l e rm_X12_compared s m args below meth c H locs 0 0 (MQ below (rf_Qi P o ad post) args s 0 0 (rf_A o ad)) (F0 m 286 ls [.int y2, .int y1, .ref (ad 51)]) := by
  obtain ⟨hx, hb, hml, hown, hK, -, -⟩ := id hC
  obtain ⟨hi, h⟩ := h
  refine rf_iast hx hb hK hT 51 (by decide) rfl hi dX12_compared_286 (fun H locs hT => ?_)
  refine lv_aload_n hx hb dX12_compared_287 rfl (lv_at hl 0 rfl) ?_
  refine rf_get hx hb hK hT hown 50 (by decide) kfX12_244 (v := .ref (ad 50)) rfl dX12_compared_288 ?_
  refine lv_iload hx hb dX12_compared_291 (lv_at hl 2 rfl) ?_
  refine lv_aload_n hx hb dX12_compared_293 rfl (lv_at hl 0 rfl) ?_
  refine rf_get hx hb hK hT hown 56 (by decide) kfX12_347 (v := .int (σ.1 56)) rfl dX12_compared_294 ?_
  obtain ⟨hi, h⟩ := h
  refine rf_iast hx hb hK hT 50 (by decide) rfl hi dX12_compared_297 (fun H locs hT => ?_)
  refine lv_aload_n hx hb dX12_compared_298 rfl (lv_at hl 0 rfl) ?_
  refine rf_get hx hb hK hT hown 48 (by decide) kfX12_238 (v := .ref (ad 48)) rfl dX12_compared_299 ?_
  refine lv_iload hx hb dX12_compared_302 (lv_at hl 2 rfl) ?_
  refine lv_aload_n hx hb dX12_compared_304 rfl (lv_at hl 0 rfl) ?_
  refine rf_get hx hb hK hT hown 54 (by decide) kfX12_316 (v := .int (σ.1 54)) rfl dX12_compared_305 ?_
  refine lv_iconst (v := 3) hx hb dX12_compared_308 (by decide) ?_
  refine lv_icmp_ne (tgt := 328) hx hb dX12_compared_309 (by decide) (fun hc => ?_) (fun hc => ?_)
  · have h := h.1 hc
    refine lv_iconst (v := (-1)) hx hb dX12_compared_328 (by decide) ?_
    exact t_X12_compared_329 hC (rf_ua (rf_ua σ 51 y1.toNatClampNeg y2) 50 x5.toNatClampNeg (σ.1 56)) x3 x5 x5 ((-1)) _ _ _ h hT (lv_sub hl [0, 1, 2] rfl)
  · have h := h.2 hc
    refine lv_sipush (v := 2120) hx hb dX12_compared_312 (by decide) ?_
    refine lv_aload_n hx hb dX12_compared_315 rfl (lv_at hl 0 rfl) ?_
    refine rf_get hx hb hK hT hown 32 (by decide) kfX12_368 (v := .int (σ.1 32)) rfl dX12_compared_316 ?_
    refine lv_imul hx hb dX12_compared_319 ?_
    refine lv_aload_n hx hb dX12_compared_320 rfl (lv_at hl 0 rfl) ?_
    refine rf_get hx hb hK hT hown 57 (by decide) kfX12_350 (v := .int (σ.1 57)) rfl dX12_compared_321 ?_
    refine lv_iadd hx hb dX12_compared_324 ?_
    refine lv_goto (tgt := 329) hx hb dX12_compared_325 (by decide) ?_
    exact t_X12_compared_329 hC (rf_ua (rf_ua σ 51 y1.toNatClampNeg y2) 50 x5.toNatClampNeg (σ.1 56)) x3 x5 x5 ((2120 * (σ.1 32)) + (σ.1 57)) _ _ _ h hT (lv_sub hl [0, 1, 2] rfl)
end
def w_X12_compared_222 (post : Int32 → rf_S → Prop) (σ : rf_S) (x1 : Int64) (x3 : Int32) (y0 : Int32) : Prop := (¬ y0 = 0 → wp_X12_node (fun r22 σ22 => vp_in r22 (rf_n 52) ∧ (¬ (σ22.1 54) = 2 → (¬ (σ22.1 54) = 3 → w_X12_compared_286 post (rf_ub σ22 52 r22.toNatClampNeg x1) x3 r22 r22 2) ∧ ((σ22.1 54) = 3 → w_X12_compared_286 post (rf_ub σ22 52 r22.toNatClampNeg x1) x3 r22 r22 1)) ∧ ((σ22.1 54) = 2 → w_X12_compared_286 post (rf_ub σ22 52 r22.toNatClampNeg x1) x3 r22 r22 0)) σ x3 ((-1)) ((-1))) ∧ (y0 = 0 → wp_X12_cant (fun r23 σ23 => wp_X12_bad (fun r24 σ24 => post r24 σ24) σ23 r23) σ)
section
variable {p : Program} {l : Launch} {e : Env} {s : State} {m : MethodId} {args : Array Value} {below : List Frame} {meth : Method} {c : Code} {P : hw_G} {o : Nat} {ad : Nat → Nat}
set_option maxRecDepth 100000 in
set_option maxHeartbeats 4000000 in
theorem t_X12_compared_222 {post : Int32 → rf_S → Prop} (hC : rf_C P RX12 p s m meth c cX12_compared 6 (some .int)) (σ : rf_S) (x1 : Int64) (x3 : Int32) (y0 : Int32) (H : Heap) (locs : List Loc) (ls : Array Slot) (h : w_X12_compared_222 post σ x1 x3 y0) (hT : rf_T P s (rf_A o ad) o ad σ H locs) (hl : lv_has ls 6 [(0, .ref o), (1, .long x1), (3, .int x3)]) : W p l e rm_X12_compared s m args below meth c H locs 0 0 (MQ below (rf_Qi P o ad post) args s 0 0 (rf_A o ad)) (F0 m 222 ls [.int y0]) := by
  obtain ⟨hx, hb, hml, hown, hK, -, -⟩ := id hC
  refine lv_istore (lv' := [(4, _), (0, _), (1, _), (3, _)]) hx hb dX12_compared_222 hl (by decide) rfl (fun ls hl => ?_)
  refine lv_iload hx hb dX12_compared_224 (lv_at hl 0 rfl) ?_
  refine lv_if_ne (tgt := 238) hx hb dX12_compared_226 (by decide) (fun hc => ?_) (fun hc => ?_)
  · have h := h.1 hc
    refine lv_aload_n hx hb dX12_compared_238 rfl (lv_at hl 1 rfl) ?_
    refine lv_iload_n hx hb dX12_compared_239 rfl (lv_at hl 3 rfl) ?_
    refine lv_iconst (v := (-1)) hx hb dX12_compared_240 (by decide) ?_
    refine lv_iconst (v := (-1)) hx hb dX12_compared_241 (by decide) ?_
    refine rf_calli (rf_runV hx hb hml hown hK hT (c_X12_node h) rfl rfl klX12_418 ki_X12_node ks_X12_node kn_X12 kc_X12_node 3 ⟨rfl, by decide, by decide, by decide +kernel⟩ ⟨by decide, by decide⟩ rfl hl.1 rfl (Nat.le_of_ble_eq_true rfl) ⟨Nat.le_refl _, Nat.le_refl _⟩ dX12_compared_242) hT (fun r22 σ22 H locs h hT => ?_)
    refine lv_istore (lv' := [(5, _), (4, _), (0, _), (1, _), (3, _)]) hx hb dX12_compared_245 hl (by decide) rfl (fun ls hl => ?_)
    refine lv_aload_n hx hb dX12_compared_247 rfl (lv_at hl 2 rfl) ?_
    refine rf_get hx hb hK hT hown 52 (by decide) kfX12_250 (v := .ref (ad 52)) rfl dX12_compared_248 ?_
    refine lv_iload hx hb dX12_compared_251 (lv_at hl 0 rfl) ?_
    refine lv_lload_n hx hb dX12_compared_253 rfl (lv_at hl 3 rfl) ?_
    obtain ⟨hi, h⟩ := h
    refine rf_last hx hb hK hT 52 (by decide) rfl hi dX12_compared_254 (fun H locs hT => ?_)
    refine lv_aload_n hx hb dX12_compared_255 rfl (lv_at hl 2 rfl) ?_
    refine rf_get hx hb hK hT hown 51 (by decide) kfX12_247 (v := .ref (ad 51)) rfl dX12_compared_256 ?_
    refine lv_iload hx hb dX12_compared_259 (lv_at hl 0 rfl) ?_
    refine lv_aload_n hx hb dX12_compared_261 rfl (lv_at hl 2 rfl) ?_
    refine rf_get hx hb hK hT hown 54 (by decide) kfX12_316 (v := .int (σ22.1 54)) rfl dX12_compared_262 ?_
    refine lv_iconst (v := 2) hx hb dX12_compared_265 (by decide) ?_
    refine lv_icmp_ne (tgt := 273) hx hb dX12_compared_266 (by decide) (fun hc => ?_) (fun hc => ?_)
    · have h := h.1 hc
      refine lv_aload_n hx hb dX12_compared_273 rfl (lv_at hl 2 rfl) ?_
      refine rf_get hx hb hK hT hown 54 (by decide) kfX12_316 (v := .int (σ22.1 54)) rfl dX12_compared_274 ?_
      refine lv_iconst (v := 3) hx hb dX12_compared_277 (by decide) ?_
      refine lv_icmp_ne (tgt := 285) hx hb dX12_compared_278 (by decide) (fun hc => ?_) (fun hc => ?_)
      · have h := h.1 hc
        refine lv_iconst (v := 2) hx hb dX12_compared_285 (by decide) ?_
        exact t_X12_compared_286 hC (rf_ub σ22 52 r22.toNatClampNeg x1) x3 r22 r22 2 _ _ _ h hT (lv_sub hl [2, 4, 0] rfl)
      · have h := h.2 hc
        refine lv_iconst (v := 1) hx hb dX12_compared_281 (by decide) ?_
        refine lv_goto (tgt := 286) hx hb dX12_compared_282 (by decide) ?_
        exact t_X12_compared_286 hC (rf_ub σ22 52 r22.toNatClampNeg x1) x3 r22 r22 1 _ _ _ h hT (lv_sub hl [2, 4, 0] rfl)
    · have h := h.2 hc
      refine lv_iconst (v := 0) hx hb dX12_compared_269 (by decide) ?_
      refine lv_goto (tgt := 286) hx hb dX12_compared_270 (by decide) ?_
      exact t_X12_compared_286 hC (rf_ub σ22 52 r22.toNatClampNeg x1) x3 r22 r22 0 _ _ _ h hT (lv_sub hl [2, 4, 0] rfl)
  · have h := h.2 hc
    refine lv_aload_n hx hb dX12_compared_229 rfl (lv_at hl 1 rfl) ?_
    refine lv_aload_n hx hb dX12_compared_230 rfl (lv_at hl 1 rfl) ?_
    refine rf_calli (rf_runV hx hb hml hown hK hT (c_X12_cant h) rfl rfl klX12_356 ki_X12_cant ks_X12_cant kn_X12 kc_X12_cant 0 ⟨rfl, by decide, by decide, by decide +kernel⟩ ⟨by decide, by decide⟩ rfl hl.1 rfl (Nat.le_of_ble_eq_true rfl) ⟨Nat.le_refl _, Nat.le_refl _⟩ dX12_compared_231) hT (fun r23 σ23 H locs h hT => ?_)
    refine rf_calli (rf_runV hx hb hml hown hK hT (c_X12_bad h) rfl rfl klX12_425 ki_X12_bad ks_X12_bad kn_X12 kc_X12_bad 1 ⟨rfl, by decide, by decide, by decide +kernel⟩ ⟨by decide, by decide⟩ rfl hl.1 rfl (Nat.le_of_ble_eq_true rfl) ⟨Nat.le_refl _, Nat.le_refl _⟩ dX12_compared_234) hT (fun r24 σ24 H locs h hT => ?_)
    exact rf_iret hC hT h dX12_compared_237
end
def w_X12_compared_217 (post : Int32 → rf_S → Prop) (σ : rf_S) (x1 : Int64) (x3 : Int32) : Prop := w_X12_compared_222 post σ x1 x3 1
section
variable {p : Program} {l : Launch} {e : Env} {s : State} {m : MethodId} {args : Array Value} {below : List Frame} {meth : Method} {c : Code} {P : hw_G} {o : Nat} {ad : Nat → Nat}
set_option maxRecDepth 100000 in
set_option maxHeartbeats 4000000 in
theorem t_X12_compared_217 {post : Int32 → rf_S → Prop} (hC : rf_C P RX12 p s m meth c cX12_compared 6 (some .int)) (σ : rf_S) (x1 : Int64) (x3 : Int32) (H : Heap) (locs : List Loc) (ls : Array Slot) (h : w_X12_compared_217 post σ x1 x3) (hT : rf_T P s (rf_A o ad) o ad σ H locs) (hl : lv_has ls 6 [(0, .ref o), (1, .long x1), (3, .int x3)]) : W p l e rm_X12_compared s m args below meth c H locs 0 0 (MQ below (rf_Qi P o ad post) args s 0 0 (rf_A o ad)) (F0 m 217 ls []) := by
  obtain ⟨hx, hb, hml, hown, hK, -, -⟩ := id hC
  refine lv_iconst (v := 1) hx hb dX12_compared_217 (by decide) ?_
  refine lv_goto (tgt := 222) hx hb dX12_compared_218 (by decide) ?_
  exact t_X12_compared_222 hC σ x1 x3 1 _ _ _ h hT (lv_sub hl [0, 1, 2] rfl)
end
def w_X12_compared_221 (post : Int32 → rf_S → Prop) (σ : rf_S) (x1 : Int64) (x3 : Int32) : Prop := w_X12_compared_222 post σ x1 x3 0
section
variable {p : Program} {l : Launch} {e : Env} {s : State} {m : MethodId} {args : Array Value} {below : List Frame} {meth : Method} {c : Code} {P : hw_G} {o : Nat} {ad : Nat → Nat}
set_option maxRecDepth 100000 in
set_option maxHeartbeats 4000000 in
theorem t_X12_compared_221 {post : Int32 → rf_S → Prop} (hC : rf_C P RX12 p s m meth c cX12_compared 6 (some .int)) (σ : rf_S) (x1 : Int64) (x3 : Int32) (H : Heap) (locs : List Loc) (ls : Array Slot) (h : w_X12_compared_221 post σ x1 x3) (hT : rf_T P s (rf_A o ad) o ad σ H locs) (hl : lv_has ls 6 [(0, .ref o), (1, .long x1), (3, .int x3)]) : W p l e rm_X12_compared s m args below meth c H locs 0 0 (MQ below (rf_Qi P o ad post) args s 0 0 (rf_A o ad)) (F0 m 221 ls []) := by
  obtain ⟨hx, hb, hml, hown, hK, -, -⟩ := id hC
  refine lv_iconst (v := 0) hx hb dX12_compared_221 (by decide) ?_
  exact t_X12_compared_222 hC σ x1 x3 0 _ _ _ h hT (lv_sub hl [0, 1, 2] rfl)
end
def w_X12_compared_125 (post : Int32 → rf_S → Prop) (σ : rf_S) (x1 : Int64) (y0 : Int32) : Prop := (0 ≤ y0 → wp_X12_next (fun σ25 => (¬ y0 = 6 → (¬ y0 = 7 → ((σ25.1 54) = 2 → w_X12_compared_217 post σ25 x1 y0) ∧ (¬ (σ25.1 54) = 2 → (9 < y0 → w_X12_compared_221 post σ25 x1 y0) ∧ (¬ 9 < y0 → ((σ25.1 54) = 3 → w_X12_compared_217 post σ25 x1 y0) ∧ (¬ (σ25.1 54) = 3 → (¬ (σ25.1 54) = 4 → w_X12_compared_221 post σ25 x1 y0) ∧ ((σ25.1 54) = 4 → w_X12_compared_217 post σ25 x1 y0))))) ∧ (y0 = 7 → (¬ (σ25.1 54) = 4 → w_X12_compared_222 post σ25 x1 y0 0) ∧ ((σ25.1 54) = 4 → w_X12_compared_222 post σ25 x1 y0 1))) ∧ (y0 = 6 → (¬ (σ25.1 54) = 3 → w_X12_compared_222 post σ25 x1 y0 0) ∧ ((σ25.1 54) = 3 → w_X12_compared_222 post σ25 x1 y0 1))) σ) ∧ (¬ 0 ≤ y0 → wp_X12_cant (fun r26 σ26 => wp_X12_bad (fun r27 σ27 => post r27 σ27) σ26 r26) σ)
section
variable {p : Program} {l : Launch} {e : Env} {s : State} {m : MethodId} {args : Array Value} {below : List Frame} {meth : Method} {c : Code} {P : hw_G} {o : Nat} {ad : Nat → Nat}
set_option maxRecDepth 100000 in
set_option maxHeartbeats 4000000 in
theorem t_X12_compared_125 {post : Int32 → rf_S → Prop} (hC : rf_C P RX12 p s m meth c cX12_compared 6 (some .int)) (σ : rf_S) (x1 : Int64) (y0 : Int32) (H : Heap) (locs : List Loc) (ls : Array Slot) (h : w_X12_compared_125 post σ x1 y0) (hT : rf_T P s (rf_A o ad) o ad σ H locs) (hl : lv_has ls 6 [(0, .ref o), (1, .long x1)]) : W p l e rm_X12_compared s m args below meth c H locs 0 0 (MQ below (rf_Qi P o ad post) args s 0 0 (rf_A o ad)) (F0 m 125 ls [.int y0]) := by
  obtain ⟨hx, hb, hml, hown, hK, -, -⟩ := id hC
  refine lv_istore_n (lv' := [(3, _), (0, _), (1, _)]) hx hb dX12_compared_125 rfl hl (by decide) rfl (fun ls hl => ?_)
  refine lv_iload_n hx hb dX12_compared_126 rfl (lv_at hl 0 rfl) ?_
  refine lv_if_ge (tgt := 139) hx hb dX12_compared_127 (by decide) (fun hc => ?_) (fun hc => ?_)
  · have h := h.1 hc
    refine lv_aload_n hx hb dX12_compared_139 rfl (lv_at hl 1 rfl) ?_
    refine rf_callv (rf_runV hx hb hml hown hK hT (c_X12_next h) rfl rfl klX12_359 ki_X12_next ks_X12_next kn_X12 kc_X12_next 0 ⟨rfl, by decide, by decide, by decide +kernel⟩ ⟨by decide, by decide⟩ rfl hl.1 rfl (Nat.le_of_ble_eq_true rfl) ⟨Nat.le_refl _, Nat.le_refl _⟩ dX12_compared_140) hT (fun σ25 H locs h hT => ?_)
    refine lv_iload_n hx hb dX12_compared_143 rfl (lv_at hl 0 rfl) ?_
    refine lv_bipush (v := 6) hx hb dX12_compared_144 (by decide) ?_
    refine lv_icmp_ne (tgt := 165) hx hb dX12_compared_146 (by decide) (fun hc => ?_) (fun hc => ?_)
    · have h := h.1 hc
      refine lv_iload_n hx hb dX12_compared_165 rfl (lv_at hl 0 rfl) ?_
      refine lv_bipush (v := 7) hx hb dX12_compared_166 (by decide) ?_
      refine lv_icmp_ne (tgt := 187) hx hb dX12_compared_168 (by decide) (fun hc => ?_) (fun hc => ?_)
      · have h := h.1 hc
        refine lv_aload_n hx hb dX12_compared_187 rfl (lv_at hl 1 rfl) ?_
        refine rf_get hx hb hK hT hown 54 (by decide) kfX12_316 (v := .int (σ25.1 54)) rfl dX12_compared_188 ?_
        refine lv_iconst (v := 2) hx hb dX12_compared_191 (by decide) ?_
        refine lv_icmp_eq (tgt := 217) hx hb dX12_compared_192 (by decide) (fun hc => ?_) (fun hc => ?_)
        · have h := h.1 hc
          exact t_X12_compared_217 hC σ25 x1 y0 _ _ _ h hT (lv_sub hl [1, 2, 0] rfl)
        · have h := h.2 hc
          refine lv_iload_n hx hb dX12_compared_195 rfl (lv_at hl 0 rfl) ?_
          refine lv_bipush (v := 9) hx hb dX12_compared_196 (by decide) ?_
          refine lv_icmp_gt (tgt := 221) hx hb dX12_compared_198 (by decide) (fun hc => ?_) (fun hc => ?_)
          · have h := h.1 hc
            exact t_X12_compared_221 hC σ25 x1 y0 _ _ _ h hT (lv_sub hl [1, 2, 0] rfl)
          · have h := h.2 hc
            refine lv_aload_n hx hb dX12_compared_201 rfl (lv_at hl 1 rfl) ?_
            refine rf_get hx hb hK hT hown 54 (by decide) kfX12_316 (v := .int (σ25.1 54)) rfl dX12_compared_202 ?_
            refine lv_iconst (v := 3) hx hb dX12_compared_205 (by decide) ?_
            refine lv_icmp_eq (tgt := 217) hx hb dX12_compared_206 (by decide) (fun hc => ?_) (fun hc => ?_)
            · have h := h.1 hc
              exact t_X12_compared_217 hC σ25 x1 y0 _ _ _ h hT (lv_sub hl [1, 2, 0] rfl)
            · have h := h.2 hc
              refine lv_aload_n hx hb dX12_compared_209 rfl (lv_at hl 1 rfl) ?_
              refine rf_get hx hb hK hT hown 54 (by decide) kfX12_316 (v := .int (σ25.1 54)) rfl dX12_compared_210 ?_
              refine lv_iconst (v := 4) hx hb dX12_compared_213 (by decide) ?_
              refine lv_icmp_ne (tgt := 221) hx hb dX12_compared_214 (by decide) (fun hc => ?_) (fun hc => ?_)
              · have h := h.1 hc
                exact t_X12_compared_221 hC σ25 x1 y0 _ _ _ h hT (lv_sub hl [1, 2, 0] rfl)
              · have h := h.2 hc
                exact t_X12_compared_217 hC σ25 x1 y0 _ _ _ h hT (lv_sub hl [1, 2, 0] rfl)
      · have h := h.2 hc
        refine lv_aload_n hx hb dX12_compared_171 rfl (lv_at hl 1 rfl) ?_
        refine rf_get hx hb hK hT hown 54 (by decide) kfX12_316 (v := .int (σ25.1 54)) rfl dX12_compared_172 ?_
        refine lv_iconst (v := 4) hx hb dX12_compared_175 (by decide) ?_
        refine lv_icmp_ne (tgt := 183) hx hb dX12_compared_176 (by decide) (fun hc => ?_) (fun hc => ?_)
        · have h := h.1 hc
          refine lv_iconst (v := 0) hx hb dX12_compared_183 (by decide) ?_
          refine lv_goto (tgt := 222) hx hb dX12_compared_184 (by decide) ?_
          exact t_X12_compared_222 hC σ25 x1 y0 0 _ _ _ h hT (lv_sub hl [1, 2, 0] rfl)
        · have h := h.2 hc
          refine lv_iconst (v := 1) hx hb dX12_compared_179 (by decide) ?_
          refine lv_goto (tgt := 222) hx hb dX12_compared_180 (by decide) ?_
          exact t_X12_compared_222 hC σ25 x1 y0 1 _ _ _ h hT (lv_sub hl [1, 2, 0] rfl)
    · have h := h.2 hc
      refine lv_aload_n hx hb dX12_compared_149 rfl (lv_at hl 1 rfl) ?_
      refine rf_get hx hb hK hT hown 54 (by decide) kfX12_316 (v := .int (σ25.1 54)) rfl dX12_compared_150 ?_
      refine lv_iconst (v := 3) hx hb dX12_compared_153 (by decide) ?_
      refine lv_icmp_ne (tgt := 161) hx hb dX12_compared_154 (by decide) (fun hc => ?_) (fun hc => ?_)
      · have h := h.1 hc
        refine lv_iconst (v := 0) hx hb dX12_compared_161 (by decide) ?_
        refine lv_goto (tgt := 222) hx hb dX12_compared_162 (by decide) ?_
        exact t_X12_compared_222 hC σ25 x1 y0 0 _ _ _ h hT (lv_sub hl [1, 2, 0] rfl)
      · have h := h.2 hc
        refine lv_iconst (v := 1) hx hb dX12_compared_157 (by decide) ?_
        refine lv_goto (tgt := 222) hx hb dX12_compared_158 (by decide) ?_
        exact t_X12_compared_222 hC σ25 x1 y0 1 _ _ _ h hT (lv_sub hl [1, 2, 0] rfl)
  · have h := h.2 hc
    refine lv_aload_n hx hb dX12_compared_130 rfl (lv_at hl 1 rfl) ?_
    refine lv_aload_n hx hb dX12_compared_131 rfl (lv_at hl 1 rfl) ?_
    refine rf_calli (rf_runV hx hb hml hown hK hT (c_X12_cant h) rfl rfl klX12_356 ki_X12_cant ks_X12_cant kn_X12 kc_X12_cant 0 ⟨rfl, by decide, by decide, by decide +kernel⟩ ⟨by decide, by decide⟩ rfl hl.1 rfl (Nat.le_of_ble_eq_true rfl) ⟨Nat.le_refl _, Nat.le_refl _⟩ dX12_compared_132) hT (fun r26 σ26 H locs h hT => ?_)
    refine rf_calli (rf_runV hx hb hml hown hK hT (c_X12_bad h) rfl rfl klX12_425 ki_X12_bad ks_X12_bad kn_X12 kc_X12_bad 1 ⟨rfl, by decide, by decide, by decide +kernel⟩ ⟨by decide, by decide⟩ rfl hl.1 rfl (Nat.le_of_ble_eq_true rfl) ⟨Nat.le_refl _, Nat.le_refl _⟩ dX12_compared_135) hT (fun r27 σ27 H locs h hT => ?_)
    exact rf_iret hC hT h dX12_compared_138
end
def wp_X12_compared (post : Int32 → rf_S → Prop) (σ : rf_S)  : Prop := wp_X12_next (fun σ28 => wp_X12_isWord (fun r29 σ29 => (r29 = 0 → wp_X12_isWord (fun r30 σ30 => (r30 = 0 → wp_X12_isSign (fun r31 σ31 => (r31 = 0 → wp_X12_isSign (fun r32 σ32 => (r32 = 0 → wp_X12_isSign (fun r33 σ33 => (r33 = 0 → wp_X12_isSign (fun r34 σ34 => (r34 = 0 → wp_X12_isSign (fun r35 σ35 => (r35 = 0 → wp_X12_isSign (fun r36 σ36 => (r36 = 0 → w_X12_compared_125 post σ36 (σ.2.1 58) ((-1))) ∧ (¬ r36 = 0 → w_X12_compared_125 post σ36 (σ.2.1 58) 13)) σ35 318) ∧ (¬ r35 = 0 → w_X12_compared_125 post σ35 (σ.2.1 58) 12)) σ34 62) ∧ (¬ r34 = 0 → w_X12_compared_125 post σ34 (σ.2.1 58) 11)) σ33 316) ∧ (¬ r33 = 0 → w_X12_compared_125 post σ33 (σ.2.1 58) 10)) σ32 60) ∧ (¬ r32 = 0 → w_X12_compared_125 post σ32 (σ.2.1 58) 9)) σ31 289) ∧ (¬ r31 = 0 → w_X12_compared_125 post σ31 (σ.2.1 58) 8)) σ30 61) ∧ (¬ r30 = 0 → w_X12_compared_125 post σ30 (σ.2.1 58) 7)) σ29 19) ∧ (¬ r29 = 0 → w_X12_compared_125 post σ29 (σ.2.1 58) 6)) σ28 18) σ
set_option maxRecDepth 100000 in
set_option maxHeartbeats 4000000 in
theorem c_X12_compared {l : Launch} {P : hw_G} {o : Nat} {ad : Nat → Nat} {σ : rf_S}  {post : Int32 → rf_S → Prop} (h : wp_X12_compared post σ ) : Met l yX12_compared [Cond.code yX12_compared cX12_compared 6 (some .int)] rm_X12_compared (rf_Pc P o ad σ [.ref o]) (rf_Qi P o ad post) 0 0 (rf_A o ad) := by
  refine rf_met (by decide) rfl (Nat.le_of_ble_eq_true rfl) ?_
  intro p e s m below meth c ls hC hT hl
  obtain ⟨hx, hb, hml, hown, hK, -, -⟩ := id hC
  have hl : lv_has ls 6 [(0, .ref o)] := hl
  refine lv_aload_n hx hb dX12_compared_0 rfl (lv_at hl 0 rfl) ?_
  refine rf_get hx hb hK hT hown 58 (by decide) kfX12_337 (v := .long (σ.2.1 58)) rfl dX12_compared_1 ?_
  refine lv_lstore_n (lv' := [(1, _), (0, _)]) hx hb dX12_compared_4 rfl hl (by decide) rfl (fun ls hl => ?_)
  refine lv_aload_n hx hb dX12_compared_5 rfl (lv_at hl 1 rfl) ?_
  refine rf_callv (rf_runV hx hb hml hown hK hT (c_X12_next h) rfl rfl klX12_359 ki_X12_next ks_X12_next kn_X12 kc_X12_next 0 ⟨rfl, by decide, by decide, by decide +kernel⟩ ⟨by decide, by decide⟩ rfl hl.1 rfl (Nat.le_of_ble_eq_true rfl) ⟨Nat.le_refl _, Nat.le_refl _⟩ dX12_compared_6) hT (fun σ28 H locs h hT => ?_)
  refine lv_aload_n hx hb dX12_compared_9 rfl (lv_at hl 1 rfl) ?_
  refine lv_bipush (v := 18) hx hb dX12_compared_10 (by decide) ?_
  refine rf_calli (rf_runV hx hb hml hown hK hT (c_X12_isWord h) rfl rfl klX12_353 ki_X12_isWord ks_X12_isWord kn_X12 kc_X12_isWord 1 ⟨rfl, by decide, by decide, by decide +kernel⟩ ⟨by decide, by decide⟩ rfl hl.1 rfl (Nat.le_of_ble_eq_true rfl) ⟨Nat.le_refl _, Nat.le_refl _⟩ dX12_compared_12) hT (fun r29 σ29 H locs h hT => ?_)
  refine lv_if_eq (tgt := 23) hx hb dX12_compared_15 (by decide) (fun hc => ?_) (fun hc => ?_)
  · have h := h.1 hc
    refine lv_aload_n hx hb dX12_compared_23 rfl (lv_at hl 1 rfl) ?_
    refine lv_bipush (v := 19) hx hb dX12_compared_24 (by decide) ?_
    refine rf_calli (rf_runV hx hb hml hown hK hT (c_X12_isWord h) rfl rfl klX12_353 ki_X12_isWord ks_X12_isWord kn_X12 kc_X12_isWord 1 ⟨rfl, by decide, by decide, by decide +kernel⟩ ⟨by decide, by decide⟩ rfl hl.1 rfl (Nat.le_of_ble_eq_true rfl) ⟨Nat.le_refl _, Nat.le_refl _⟩ dX12_compared_26) hT (fun r30 σ30 H locs h hT => ?_)
    refine lv_if_eq (tgt := 37) hx hb dX12_compared_29 (by decide) (fun hc => ?_) (fun hc => ?_)
    · have h := h.1 hc
      refine lv_aload_n hx hb dX12_compared_37 rfl (lv_at hl 1 rfl) ?_
      refine lv_bipush (v := 61) hx hb dX12_compared_38 (by decide) ?_
      refine rf_calli (rf_runV hx hb hml hown hK hT (c_X12_isSign h) rfl rfl klX12_362 ki_X12_isSign ks_X12_isSign kn_X12 kc_X12_isSign 1 ⟨rfl, by decide, by decide, by decide +kernel⟩ ⟨by decide, by decide⟩ rfl hl.1 rfl (Nat.le_of_ble_eq_true rfl) ⟨Nat.le_refl _, Nat.le_refl _⟩ dX12_compared_40) hT (fun r31 σ31 H locs h hT => ?_)
      refine lv_if_eq (tgt := 51) hx hb dX12_compared_43 (by decide) (fun hc => ?_) (fun hc => ?_)
      · have h := h.1 hc
        refine lv_aload_n hx hb dX12_compared_51 rfl (lv_at hl 1 rfl) ?_
        refine lv_sipush (v := 289) hx hb dX12_compared_52 (by decide) ?_
        refine rf_calli (rf_runV hx hb hml hown hK hT (c_X12_isSign h) rfl rfl klX12_362 ki_X12_isSign ks_X12_isSign kn_X12 kc_X12_isSign 1 ⟨rfl, by decide, by decide, by decide +kernel⟩ ⟨by decide, by decide⟩ rfl hl.1 rfl (Nat.le_of_ble_eq_true rfl) ⟨Nat.le_refl _, Nat.le_refl _⟩ dX12_compared_55) hT (fun r32 σ32 H locs h hT => ?_)
        refine lv_if_eq (tgt := 66) hx hb dX12_compared_58 (by decide) (fun hc => ?_) (fun hc => ?_)
        · have h := h.1 hc
          refine lv_aload_n hx hb dX12_compared_66 rfl (lv_at hl 1 rfl) ?_
          refine lv_bipush (v := 60) hx hb dX12_compared_67 (by decide) ?_
          refine rf_calli (rf_runV hx hb hml hown hK hT (c_X12_isSign h) rfl rfl klX12_362 ki_X12_isSign ks_X12_isSign kn_X12 kc_X12_isSign 1 ⟨rfl, by decide, by decide, by decide +kernel⟩ ⟨by decide, by decide⟩ rfl hl.1 rfl (Nat.le_of_ble_eq_true rfl) ⟨Nat.le_refl _, Nat.le_refl _⟩ dX12_compared_69) hT (fun r33 σ33 H locs h hT => ?_)
          refine lv_if_eq (tgt := 80) hx hb dX12_compared_72 (by decide) (fun hc => ?_) (fun hc => ?_)
          · have h := h.1 hc
            refine lv_aload_n hx hb dX12_compared_80 rfl (lv_at hl 1 rfl) ?_
            refine lv_sipush (v := 316) hx hb dX12_compared_81 (by decide) ?_
            refine rf_calli (rf_runV hx hb hml hown hK hT (c_X12_isSign h) rfl rfl klX12_362 ki_X12_isSign ks_X12_isSign kn_X12 kc_X12_isSign 1 ⟨rfl, by decide, by decide, by decide +kernel⟩ ⟨by decide, by decide⟩ rfl hl.1 rfl (Nat.le_of_ble_eq_true rfl) ⟨Nat.le_refl _, Nat.le_refl _⟩ dX12_compared_84) hT (fun r34 σ34 H locs h hT => ?_)
            refine lv_if_eq (tgt := 95) hx hb dX12_compared_87 (by decide) (fun hc => ?_) (fun hc => ?_)
            · have h := h.1 hc
              refine lv_aload_n hx hb dX12_compared_95 rfl (lv_at hl 1 rfl) ?_
              refine lv_bipush (v := 62) hx hb dX12_compared_96 (by decide) ?_
              refine rf_calli (rf_runV hx hb hml hown hK hT (c_X12_isSign h) rfl rfl klX12_362 ki_X12_isSign ks_X12_isSign kn_X12 kc_X12_isSign 1 ⟨rfl, by decide, by decide, by decide +kernel⟩ ⟨by decide, by decide⟩ rfl hl.1 rfl (Nat.le_of_ble_eq_true rfl) ⟨Nat.le_refl _, Nat.le_refl _⟩ dX12_compared_98) hT (fun r35 σ35 H locs h hT => ?_)
              refine lv_if_eq (tgt := 109) hx hb dX12_compared_101 (by decide) (fun hc => ?_) (fun hc => ?_)
              · have h := h.1 hc
                refine lv_aload_n hx hb dX12_compared_109 rfl (lv_at hl 1 rfl) ?_
                refine lv_sipush (v := 318) hx hb dX12_compared_110 (by decide) ?_
                refine rf_calli (rf_runV hx hb hml hown hK hT (c_X12_isSign h) rfl rfl klX12_362 ki_X12_isSign ks_X12_isSign kn_X12 kc_X12_isSign 1 ⟨rfl, by decide, by decide, by decide +kernel⟩ ⟨by decide, by decide⟩ rfl hl.1 rfl (Nat.le_of_ble_eq_true rfl) ⟨Nat.le_refl _, Nat.le_refl _⟩ dX12_compared_113) hT (fun r36 σ36 H locs h hT => ?_)
                refine lv_if_eq (tgt := 124) hx hb dX12_compared_116 (by decide) (fun hc => ?_) (fun hc => ?_)
                · have h := h.1 hc
                  refine lv_iconst (v := (-1)) hx hb dX12_compared_124 (by decide) ?_
                  exact t_X12_compared_125 hC σ36 (σ.2.1 58) ((-1)) _ _ _ h hT (lv_sub hl [1, 0] rfl)
                · have h := h.2 hc
                  refine lv_bipush (v := 13) hx hb dX12_compared_119 (by decide) ?_
                  refine lv_goto (tgt := 125) hx hb dX12_compared_121 (by decide) ?_
                  exact t_X12_compared_125 hC σ36 (σ.2.1 58) 13 _ _ _ h hT (lv_sub hl [1, 0] rfl)
              · have h := h.2 hc
                refine lv_bipush (v := 12) hx hb dX12_compared_104 (by decide) ?_
                refine lv_goto (tgt := 125) hx hb dX12_compared_106 (by decide) ?_
                exact t_X12_compared_125 hC σ35 (σ.2.1 58) 12 _ _ _ h hT (lv_sub hl [1, 0] rfl)
            · have h := h.2 hc
              refine lv_bipush (v := 11) hx hb dX12_compared_90 (by decide) ?_
              refine lv_goto (tgt := 125) hx hb dX12_compared_92 (by decide) ?_
              exact t_X12_compared_125 hC σ34 (σ.2.1 58) 11 _ _ _ h hT (lv_sub hl [1, 0] rfl)
          · have h := h.2 hc
            refine lv_bipush (v := 10) hx hb dX12_compared_75 (by decide) ?_
            refine lv_goto (tgt := 125) hx hb dX12_compared_77 (by decide) ?_
            exact t_X12_compared_125 hC σ33 (σ.2.1 58) 10 _ _ _ h hT (lv_sub hl [1, 0] rfl)
        · have h := h.2 hc
          refine lv_bipush (v := 9) hx hb dX12_compared_61 (by decide) ?_
          refine lv_goto (tgt := 125) hx hb dX12_compared_63 (by decide) ?_
          exact t_X12_compared_125 hC σ32 (σ.2.1 58) 9 _ _ _ h hT (lv_sub hl [1, 0] rfl)
      · have h := h.2 hc
        refine lv_bipush (v := 8) hx hb dX12_compared_46 (by decide) ?_
        refine lv_goto (tgt := 125) hx hb dX12_compared_48 (by decide) ?_
        exact t_X12_compared_125 hC σ31 (σ.2.1 58) 8 _ _ _ h hT (lv_sub hl [1, 0] rfl)
    · have h := h.2 hc
      refine lv_bipush (v := 7) hx hb dX12_compared_32 (by decide) ?_
      refine lv_goto (tgt := 125) hx hb dX12_compared_34 (by decide) ?_
      exact t_X12_compared_125 hC σ30 (σ.2.1 58) 7 _ _ _ h hT (lv_sub hl [1, 0] rfl)
  · have h := h.2 hc
    refine lv_bipush (v := 6) hx hb dX12_compared_18 (by decide) ?_
    refine lv_goto (tgt := 125) hx hb dX12_compared_20 (by decide) ?_
    exact t_X12_compared_125 hC σ29 (σ.2.1 58) 6 _ _ _ h hT (lv_sub hl [1, 0] rfl)
/-! X12_one -/
def w_X12_one_120 (post : Int32 → rf_S → Prop) (rc0 : (Int32 → rf_S → Prop) → rf_S → Prop) (rc1 : (Int32 → rf_S → Prop) → rf_S → Prop) (rc2 : (Int32 → rf_S → Prop) → rf_S → Prop) (σ : rf_S) (y0 : Int32) : Prop := post y0 σ
section
variable {p : Program} {l : Launch} {e : Env} {s : State} {m : MethodId} {args : Array Value} {below : List Frame} {meth : Method} {c : Code} {P : hw_G} {o : Nat} {ad : Nat → Nat}
set_option maxRecDepth 100000 in
set_option maxHeartbeats 4000000 in
theorem t_X12_one_120 {post : Int32 → rf_S → Prop} {rc0 : (Int32 → rf_S → Prop) → rf_S → Prop} {rc1 : (Int32 → rf_S → Prop) → rf_S → Prop} {rc2 : (Int32 → rf_S → Prop) → rf_S → Prop} (hC : rf_C P RX12 p s m meth c cX12_one 3 (some .int)) {rmd R : Room} (hRm : 6 ≤ R.frames ∧ 140 ≤ R.locals ∧ rmd.frames + 1 ≤ R.frames ∧ 40 + rmd.locals ≤ R.locals ∧ rmd.cells = 0 ∧ rmd.slots = 0) (hrc0 : ∀ {σ : rf_S} {post : Int32 → rf_S → Prop}, rc0 post σ  → Met l yX12_one [Cond.code yX12_one cX12_one 3 (some .int)] rmd (rf_Pc P o ad σ [.ref o]) (rf_Qi P o ad post) 0 0 (rf_A o ad)) (hrc1 : ∀ {σ : rf_S} {post : Int32 → rf_S → Prop}, rc1 post σ  → Met l yX12_anyOf [Cond.code yX12_anyOf cX12_anyOf 3 (some .int)] rmd (rf_Pc P o ad σ [.ref o]) (rf_Qi P o ad post) 0 0 (rf_A o ad)) (hrc2 : ∀ {σ : rf_S} {post : Int32 → rf_S → Prop}, rc2 post σ  → Met l yX12_allOf [Cond.code yX12_allOf cX12_allOf 3 (some .int)] rmd (rf_Pc P o ad σ [.ref o]) (rf_Qi P o ad post) 0 0 (rf_A o ad)) (σ : rf_S) (y0 : Int32) (H : Heap) (locs : List Loc) (ls : Array Slot) (h : w_X12_one_120 post rc0 rc1 rc2 σ y0) (hT : rf_T P s (rf_A o ad) o ad σ H locs) (hl : lv_has ls 3 []) : W p l e R s m args below meth c H locs 0 0 (MQ below (rf_Qi P o ad post) args s 0 0 (rf_A o ad)) (F0 m 120 ls [.int y0]) := by
  obtain ⟨hx, hb, hml, hown, hK, -, -⟩ := id hC
  exact rf_iret hC hT h dX12_one_120
end
def w_X12_one_77 (post : Int32 → rf_S → Prop) (rc0 : (Int32 → rf_S → Prop) → rf_S → Prop) (rc1 : (Int32 → rf_S → Prop) → rf_S → Prop) (rc2 : (Int32 → rf_S → Prop) → rf_S → Prop) (σ : rf_S) (x1 : Int32) (y0 : Int32) : Prop := (0 ≤ y0 → (x1 = 0 → wp_X12_mustSign (fun r31 σ31 => (r31 = 0 → w_X12_one_120 post rc0 rc1 rc2 σ31 ((-1))) ∧ (¬ r31 = 0 → w_X12_one_120 post rc0 rc1 rc2 σ31 y0)) (rf_ui σ 61 ((σ.1 61) - 1)) 41) ∧ (¬ x1 = 0 → wp_X12_node (fun r32 σ32 => post r32 σ32) (rf_ui σ 61 ((σ.1 61) - 1)) 2 y0 ((-1)))) ∧ (¬ 0 ≤ y0 → post y0 σ)
section
variable {p : Program} {l : Launch} {e : Env} {s : State} {m : MethodId} {args : Array Value} {below : List Frame} {meth : Method} {c : Code} {P : hw_G} {o : Nat} {ad : Nat → Nat}
set_option maxRecDepth 100000 in
set_option maxHeartbeats 4000000 in
theorem t_X12_one_77 {post : Int32 → rf_S → Prop} {rc0 : (Int32 → rf_S → Prop) → rf_S → Prop} {rc1 : (Int32 → rf_S → Prop) → rf_S → Prop} {rc2 : (Int32 → rf_S → Prop) → rf_S → Prop} (hC : rf_C P RX12 p s m meth c cX12_one 3 (some .int)) {rmd R : Room} (hRm : 6 ≤ R.frames ∧ 140 ≤ R.locals ∧ rmd.frames + 1 ≤ R.frames ∧ 40 + rmd.locals ≤ R.locals ∧ rmd.cells = 0 ∧ rmd.slots = 0) (hrc0 : ∀ {σ : rf_S} {post : Int32 → rf_S → Prop}, rc0 post σ  → Met l yX12_one [Cond.code yX12_one cX12_one 3 (some .int)] rmd (rf_Pc P o ad σ [.ref o]) (rf_Qi P o ad post) 0 0 (rf_A o ad)) (hrc1 : ∀ {σ : rf_S} {post : Int32 → rf_S → Prop}, rc1 post σ  → Met l yX12_anyOf [Cond.code yX12_anyOf cX12_anyOf 3 (some .int)] rmd (rf_Pc P o ad σ [.ref o]) (rf_Qi P o ad post) 0 0 (rf_A o ad)) (hrc2 : ∀ {σ : rf_S} {post : Int32 → rf_S → Prop}, rc2 post σ  → Met l yX12_allOf [Cond.code yX12_allOf cX12_allOf 3 (some .int)] rmd (rf_Pc P o ad σ [.ref o]) (rf_Qi P o ad post) 0 0 (rf_A o ad)) (σ : rf_S) (x1 : Int32) (y0 : Int32) (H : Heap) (locs : List Loc) (ls : Array Slot) (h : w_X12_one_77 post rc0 rc1 rc2 σ x1 y0) (hT : rf_T P s (rf_A o ad) o ad σ H locs) (hl : lv_has ls 3 [(0, .ref o), (1, .int x1)]) : W p l e R s m args below meth c H locs 0 0 (MQ below (rf_Qi P o ad post) args s 0 0 (rf_A o ad)) (F0 m 77 ls [.int y0]) := by
  obtain ⟨hx, hb, hml, hown, hK, -, -⟩ := id hC
  refine lv_istore_n (lv' := [(2, _), (0, _), (1, _)]) hx hb dX12_one_77 rfl hl (by decide) rfl (fun ls hl => ?_)
  refine lv_iload_n hx hb dX12_one_78 rfl (lv_at hl 0 rfl) ?_
  refine lv_if_ge (tgt := 84) hx hb dX12_one_79 (by decide) (fun hc => ?_) (fun hc => ?_)
  · have h := h.1 hc
    refine lv_aload_n hx hb dX12_one_84 rfl (lv_at hl 1 rfl) ?_
    refine lv_dup hx hb dX12_one_85 rfl ?_
    refine rf_get hx hb hK hT hown 61 (by decide) kfX12_409 (v := .int (σ.1 61)) rfl dX12_one_86 ?_
    refine lv_iconst (v := 1) hx hb dX12_one_89 (by decide) ?_
    refine lv_isub hx hb dX12_one_90 ?_
    refine rf_puti hx hb hK hT hown 61 (by decide) kfX12_409 rfl rfl dX12_one_91 (fun H locs hT => ?_)
    refine lv_iload_n hx hb dX12_one_94 rfl (lv_at hl 2 rfl) ?_
    refine lv_if_eq (tgt := 106) hx hb dX12_one_95 (by decide) (fun hc => ?_) (fun hc => ?_)
    · have h := h.1 hc
      refine lv_aload_n hx hb dX12_one_106 rfl (lv_at hl 1 rfl) ?_
      refine lv_bipush (v := 41) hx hb dX12_one_107 (by decide) ?_
      refine rf_calli (rf_runV hx hb hml hown hK hT (c_X12_mustSign h) rfl rfl klX12_402 ki_X12_mustSign ks_X12_mustSign kn_X12 kc_X12_mustSign 1 ⟨rfl, by decide, by decide, by decide +kernel⟩ ⟨Nat.le_trans (by decide) hRm.1, Nat.le_trans (by decide) hRm.2.1⟩ rfl hl.1 rfl (Nat.le_of_ble_eq_true rfl) ⟨Nat.zero_le _, Nat.zero_le _⟩ dX12_one_109) hT (fun r31 σ31 H locs h hT => ?_)
      refine lv_if_eq (tgt := 119) hx hb dX12_one_112 (by decide) (fun hc => ?_) (fun hc => ?_)
      · have h := h.1 hc
        refine lv_iconst (v := (-1)) hx hb dX12_one_119 (by decide) ?_
        exact t_X12_one_120 hC hRm hrc0 hrc1 hrc2 σ31 ((-1)) _ _ _ h hT (lv_sub hl [] rfl)
      · have h := h.2 hc
        refine lv_iload_n hx hb dX12_one_115 rfl (lv_at hl 0 rfl) ?_
        refine lv_goto (tgt := 120) hx hb dX12_one_116 (by decide) ?_
        exact t_X12_one_120 hC hRm hrc0 hrc1 hrc2 σ31 y0 _ _ _ h hT (lv_sub hl [] rfl)
    · have h := h.2 hc
      refine lv_aload_n hx hb dX12_one_98 rfl (lv_at hl 1 rfl) ?_
      refine lv_iconst (v := 2) hx hb dX12_one_99 (by decide) ?_
      refine lv_iload_n hx hb dX12_one_100 rfl (lv_at hl 0 rfl) ?_
      refine lv_iconst (v := (-1)) hx hb dX12_one_101 (by decide) ?_
      refine rf_calli (rf_runV hx hb hml hown hK hT (c_X12_node h) rfl rfl klX12_418 ki_X12_node ks_X12_node kn_X12 kc_X12_node 3 ⟨rfl, by decide, by decide, by decide +kernel⟩ ⟨Nat.le_trans (by decide) hRm.1, Nat.le_trans (by decide) hRm.2.1⟩ rfl hl.1 rfl (Nat.le_of_ble_eq_true rfl) ⟨Nat.zero_le _, Nat.zero_le _⟩ dX12_one_102) hT (fun r32 σ32 H locs h hT => ?_)
      exact rf_iret hC hT h dX12_one_105
  · have h := h.2 hc
    refine lv_iload_n hx hb dX12_one_82 rfl (lv_at hl 0 rfl) ?_
    exact rf_iret hC hT h dX12_one_83
end
def w_X12_one_18 (post : Int32 → rf_S → Prop) (rc0 : (Int32 → rf_S → Prop) → rf_S → Prop) (rc1 : (Int32 → rf_S → Prop) → rf_S → Prop) (rc2 : (Int32 → rf_S → Prop) → rf_S → Prop) (σ : rf_S)  : Prop := wp_X12_isWord (fun r33 σ33 => (¬ (σ33.1 61) = 13 → wp_X12_next (fun σ34 => (r33 = 0 → rc1 (fun r35 σ35 => w_X12_one_77 post rc0 rc1 rc2 σ35 r33 r35) σ34) ∧ (¬ r33 = 0 → rc0 (fun r36 σ36 => w_X12_one_77 post rc0 rc1 rc2 σ36 r33 r36) σ34)) (rf_ui σ33 61 ((σ33.1 61) + 1))) ∧ ((σ33.1 61) = 13 → wp_X12_wrong (fun r37 σ37 => wp_X12_bad (fun r38 σ38 => post r38 σ38) σ37 r37) σ33 4 (σ33.1 55))) σ 14
section
variable {p : Program} {l : Launch} {e : Env} {s : State} {m : MethodId} {args : Array Value} {below : List Frame} {meth : Method} {c : Code} {P : hw_G} {o : Nat} {ad : Nat → Nat}
set_option maxRecDepth 100000 in
set_option maxHeartbeats 4000000 in
theorem t_X12_one_18 {post : Int32 → rf_S → Prop} {rc0 : (Int32 → rf_S → Prop) → rf_S → Prop} {rc1 : (Int32 → rf_S → Prop) → rf_S → Prop} {rc2 : (Int32 → rf_S → Prop) → rf_S → Prop} (hC : rf_C P RX12 p s m meth c cX12_one 3 (some .int)) {rmd R : Room} (hRm : 6 ≤ R.frames ∧ 140 ≤ R.locals ∧ rmd.frames + 1 ≤ R.frames ∧ 40 + rmd.locals ≤ R.locals ∧ rmd.cells = 0 ∧ rmd.slots = 0) (hrc0 : ∀ {σ : rf_S} {post : Int32 → rf_S → Prop}, rc0 post σ  → Met l yX12_one [Cond.code yX12_one cX12_one 3 (some .int)] rmd (rf_Pc P o ad σ [.ref o]) (rf_Qi P o ad post) 0 0 (rf_A o ad)) (hrc1 : ∀ {σ : rf_S} {post : Int32 → rf_S → Prop}, rc1 post σ  → Met l yX12_anyOf [Cond.code yX12_anyOf cX12_anyOf 3 (some .int)] rmd (rf_Pc P o ad σ [.ref o]) (rf_Qi P o ad post) 0 0 (rf_A o ad)) (hrc2 : ∀ {σ : rf_S} {post : Int32 → rf_S → Prop}, rc2 post σ  → Met l yX12_allOf [Cond.code yX12_allOf cX12_allOf 3 (some .int)] rmd (rf_Pc P o ad σ [.ref o]) (rf_Qi P o ad post) 0 0 (rf_A o ad)) (σ : rf_S)  (H : Heap) (locs : List Loc) (ls : Array Slot) (h : w_X12_one_18 post rc0 rc1 rc2 σ ) (hT : rf_T P s (rf_A o ad) o ad σ H locs) (hl : lv_has ls 3 [(0, .ref o)]) : W p l e R s m args below meth c H locs 0 0 (MQ below (rf_Qi P o ad post) args s 0 0 (rf_A o ad)) (F0 m 18 ls []) := by
  obtain ⟨hx, hb, hml, hown, hK, -, -⟩ := id hC
  refine lv_aload_n hx hb dX12_one_18 rfl (lv_at hl 0 rfl) ?_
  refine lv_bipush (v := 14) hx hb dX12_one_19 (by decide) ?_
  refine rf_calli (rf_runV hx hb hml hown hK hT (c_X12_isWord h) rfl rfl klX12_353 ki_X12_isWord ks_X12_isWord kn_X12 kc_X12_isWord 1 ⟨rfl, by decide, by decide, by decide +kernel⟩ ⟨Nat.le_trans (by decide) hRm.1, Nat.le_trans (by decide) hRm.2.1⟩ rfl hl.1 rfl (Nat.le_of_ble_eq_true rfl) ⟨Nat.zero_le _, Nat.zero_le _⟩ dX12_one_21) hT (fun r33 σ33 H locs h hT => ?_)
  refine lv_istore_n (lv' := [(1, _), (0, _)]) hx hb dX12_one_24 rfl hl (by decide) rfl (fun ls hl => ?_)
  refine lv_aload_n hx hb dX12_one_25 rfl (lv_at hl 1 rfl) ?_
  refine rf_get hx hb hK hT hown 61 (by decide) kfX12_409 (v := .int (σ33.1 61)) rfl dX12_one_26 ?_
  refine lv_bipush (v := 13) hx hb dX12_one_29 (by decide) ?_
  refine lv_icmp_ne (tgt := 48) hx hb dX12_one_31 (by decide) (fun hc => ?_) (fun hc => ?_)
  · have h := h.1 hc
    refine lv_aload_n hx hb dX12_one_48 rfl (lv_at hl 1 rfl) ?_
    refine lv_dup hx hb dX12_one_49 rfl ?_
    refine rf_get hx hb hK hT hown 61 (by decide) kfX12_409 (v := .int (σ33.1 61)) rfl dX12_one_50 ?_
    refine lv_iconst (v := 1) hx hb dX12_one_53 (by decide) ?_
    refine lv_iadd hx hb dX12_one_54 ?_
    refine rf_puti hx hb hK hT hown 61 (by decide) kfX12_409 rfl rfl dX12_one_55 (fun H locs hT => ?_)
    refine lv_aload_n hx hb dX12_one_58 rfl (lv_at hl 1 rfl) ?_
    refine rf_callv (rf_runV hx hb hml hown hK hT (c_X12_next h) rfl rfl klX12_359 ki_X12_next ks_X12_next kn_X12 kc_X12_next 0 ⟨rfl, by decide, by decide, by decide +kernel⟩ ⟨Nat.le_trans (by decide) hRm.1, Nat.le_trans (by decide) hRm.2.1⟩ rfl hl.1 rfl (Nat.le_of_ble_eq_true rfl) ⟨Nat.zero_le _, Nat.zero_le _⟩ dX12_one_59) hT (fun σ34 H locs h hT => ?_)
    refine lv_iload_n hx hb dX12_one_62 rfl (lv_at hl 0 rfl) ?_
    refine lv_if_eq (tgt := 73) hx hb dX12_one_63 (by decide) (fun hc => ?_) (fun hc => ?_)
    · have h := h.1 hc
      refine lv_aload_n hx hb dX12_one_73 rfl (lv_at hl 1 rfl) ?_
      refine rf_calli (rf_runV hx hb hml hown hK hT (hrc1 h) hRm.2.2.2.2.1 hRm.2.2.2.2.2 klX12_412 ki_X12_anyOf ks_X12_anyOf kn_X12 kc_X12_anyOf 0 ⟨rfl, by decide, by decide, by decide +kernel⟩ ⟨hRm.2.2.1, Nat.le_trans (by omega) hRm.2.2.2.1⟩ rfl hl.1 rfl (Nat.le_of_ble_eq_true rfl) ⟨Nat.zero_le _, Nat.zero_le _⟩ dX12_one_74) hT (fun r35 σ35 H locs h hT => ?_)
      exact t_X12_one_77 hC hRm hrc0 hrc1 hrc2 σ35 r33 r35 _ _ _ h hT (lv_sub hl [1, 0] rfl)
    · have h := h.2 hc
      refine lv_aload_n hx hb dX12_one_66 rfl (lv_at hl 1 rfl) ?_
      refine rf_calli (rf_runV hx hb hml hown hK hT (hrc0 h) hRm.2.2.2.2.1 hRm.2.2.2.2.2 klX12_422 ki_X12_one ks_X12_one kn_X12 kc_X12_one 0 ⟨rfl, by decide, by decide, by decide +kernel⟩ ⟨hRm.2.2.1, Nat.le_trans (by omega) hRm.2.2.2.1⟩ rfl hl.1 rfl (Nat.le_of_ble_eq_true rfl) ⟨Nat.zero_le _, Nat.zero_le _⟩ dX12_one_67) hT (fun r36 σ36 H locs h hT => ?_)
      refine lv_goto (tgt := 77) hx hb dX12_one_70 (by decide) ?_
      exact t_X12_one_77 hC hRm hrc0 hrc1 hrc2 σ36 r33 r36 _ _ _ h hT (lv_sub hl [1, 0] rfl)
  · have h := h.2 hc
    refine lv_aload_n hx hb dX12_one_34 rfl (lv_at hl 1 rfl) ?_
    refine lv_aload_n hx hb dX12_one_35 rfl (lv_at hl 1 rfl) ?_
    refine lv_iconst (v := 4) hx hb dX12_one_36 (by decide) ?_
    refine lv_aload_n hx hb dX12_one_37 rfl (lv_at hl 1 rfl) ?_
    refine rf_get hx hb hK hT hown 55 (by decide) kfX12_313 (v := .int (σ33.1 55)) rfl dX12_one_38 ?_
    refine rf_calli (rf_runV hx hb hml hown hK hT (c_X12_wrong h) rfl rfl klX12_111 ki_X12_wrong ks_X12_wrong kn_X12 kc_X12_wrong 2 ⟨rfl, by decide, by decide, by decide +kernel⟩ ⟨Nat.le_trans (by decide) hRm.1, Nat.le_trans (by decide) hRm.2.1⟩ rfl hl.1 rfl (Nat.le_of_ble_eq_true rfl) ⟨Nat.zero_le _, Nat.zero_le _⟩ dX12_one_41) hT (fun r37 σ37 H locs h hT => ?_)
    refine rf_calli (rf_runV hx hb hml hown hK hT (c_X12_bad h) rfl rfl klX12_425 ki_X12_bad ks_X12_bad kn_X12 kc_X12_bad 1 ⟨rfl, by decide, by decide, by decide +kernel⟩ ⟨Nat.le_trans (by decide) hRm.1, Nat.le_trans (by decide) hRm.2.1⟩ rfl hl.1 rfl (Nat.le_of_ble_eq_true rfl) ⟨Nat.zero_le _, Nat.zero_le _⟩ dX12_one_44) hT (fun r38 σ38 H locs h hT => ?_)
    exact rf_iret hC hT h dX12_one_47
end
def wpb_X12_one (rc0 : (Int32 → rf_S → Prop) → rf_S → Prop) (rc1 : (Int32 → rf_S → Prop) → rf_S → Prop) (rc2 : (Int32 → rf_S → Prop) → rf_S → Prop) (post : Int32 → rf_S → Prop) (σ : rf_S)  : Prop := wp_X12_isWord (fun r39 σ39 => (¬ r39 = 0 → w_X12_one_18 post rc0 rc1 rc2 σ39) ∧ (r39 = 0 → wp_X12_isSign (fun r40 σ40 => (r40 = 0 → wp_X12_isWord (fun r41 σ41 => (r41 = 0 → wp_X12_isWord (fun r42 σ42 => (r42 = 0 → wp_X12_isWord (fun r43 σ43 => (r43 = 0 → wp_X12_isName (fun r44 σ44 => (¬ r44 = 0 → wp_X12_compared (fun r45 σ45 => post r45 σ45) σ44) ∧ (r44 = 0 → wp_X12_cant (fun r46 σ46 => wp_X12_bad (fun r47 σ47 => post r47 σ47) σ46 r46) σ44)) σ43) ∧ (¬ r43 = 0 → wp_X12_alerted (fun r48 σ48 => post r48 σ48) σ43)) σ42 17) ∧ (¬ r42 = 0 → wp_X12_next (fun σ49 => wp_X12_isName (fun r50 σ50 => (¬ r50 = 0 → wp_X12_node (fun r51 σ51 => vp_in r51 (rf_n 52) ∧ wp_X12_next (fun σ52 => post r51 σ52) (rf_ub σ51 52 r51.toNatClampNeg (σ51.2.1 58))) σ50 4 ((-1)) ((-1))) ∧ (r50 = 0 → wp_X12_cant (fun r53 σ53 => wp_X12_bad (fun r54 σ54 => post r54 σ54) σ53 r53) σ50)) σ49) σ42)) σ41 16) ∧ (¬ r41 = 0 → wp_X12_next (fun σ55 => wp_X12_mustSign (fun r56 σ56 => (¬ r56 = 0 → ((σ56.1 54) = 1 → wp_X12_node (fun r57 σ57 => vp_in r57 (rf_n 52) ∧ wp_X12_next (fun σ58 => post r57 σ58) (rf_ub σ57 52 r57.toNatClampNeg (σ57.2.1 58))) σ56 3 ((-1)) ((-1))) ∧ (¬ (σ56.1 54) = 1 → wp_X12_cant (fun r59 σ59 => wp_X12_bad (fun r60 σ60 => post r60 σ60) σ59 r59) σ56)) ∧ (r56 = 0 → post ((-1)) σ56)) σ55 61) σ41)) σ40 15) ∧ (¬ r40 = 0 → w_X12_one_18 post rc0 rc1 rc2 σ40)) σ39 40)) σ 14
set_option maxRecDepth 100000 in
set_option maxHeartbeats 4000000 in
theorem cb_X12_one {l : Launch} {P : hw_G} {o : Nat} {ad : Nat → Nat} {rc0 : (Int32 → rf_S → Prop) → rf_S → Prop} {rc1 : (Int32 → rf_S → Prop) → rf_S → Prop} {rc2 : (Int32 → rf_S → Prop) → rf_S → Prop} {rmd R : Room} (hRm : 6 ≤ R.frames ∧ 140 ≤ R.locals ∧ rmd.frames + 1 ≤ R.frames ∧ 40 + rmd.locals ≤ R.locals ∧ rmd.cells = 0 ∧ rmd.slots = 0) (hrc0 : ∀ {σ : rf_S} {post : Int32 → rf_S → Prop}, rc0 post σ  → Met l yX12_one [Cond.code yX12_one cX12_one 3 (some .int)] rmd (rf_Pc P o ad σ [.ref o]) (rf_Qi P o ad post) 0 0 (rf_A o ad)) (hrc1 : ∀ {σ : rf_S} {post : Int32 → rf_S → Prop}, rc1 post σ  → Met l yX12_anyOf [Cond.code yX12_anyOf cX12_anyOf 3 (some .int)] rmd (rf_Pc P o ad σ [.ref o]) (rf_Qi P o ad post) 0 0 (rf_A o ad)) (hrc2 : ∀ {σ : rf_S} {post : Int32 → rf_S → Prop}, rc2 post σ  → Met l yX12_allOf [Cond.code yX12_allOf cX12_allOf 3 (some .int)] rmd (rf_Pc P o ad σ [.ref o]) (rf_Qi P o ad post) 0 0 (rf_A o ad)) {σ : rf_S}  {post : Int32 → rf_S → Prop} (h : wpb_X12_one rc0 rc1 rc2 post σ ) : Met l yX12_one [Cond.code yX12_one cX12_one 3 (some .int)] R (rf_Pc P o ad σ [.ref o]) (rf_Qi P o ad post) 0 0 (rf_A o ad) := by
  refine rf_met (by decide) rfl (Nat.le_of_ble_eq_true rfl) ?_
  intro p e s m below meth c ls hC hT hl
  obtain ⟨hx, hb, hml, hown, hK, -, -⟩ := id hC
  have hl : lv_has ls 3 [(0, .ref o)] := hl
  refine lv_aload_n hx hb dX12_one_0 rfl (lv_at hl 0 rfl) ?_
  refine lv_bipush (v := 14) hx hb dX12_one_1 (by decide) ?_
  refine rf_calli (rf_runV hx hb hml hown hK hT (c_X12_isWord h) rfl rfl klX12_353 ki_X12_isWord ks_X12_isWord kn_X12 kc_X12_isWord 1 ⟨rfl, by decide, by decide, by decide +kernel⟩ ⟨Nat.le_trans (by decide) hRm.1, Nat.le_trans (by decide) hRm.2.1⟩ rfl hl.1 rfl (Nat.le_of_ble_eq_true rfl) ⟨Nat.zero_le _, Nat.zero_le _⟩ dX12_one_3) hT (fun r39 σ39 H locs h hT => ?_)
  refine lv_if_ne (tgt := 18) hx hb dX12_one_6 (by decide) (fun hc => ?_) (fun hc => ?_)
  · have h := h.1 hc
    exact t_X12_one_18 hC hRm hrc0 hrc1 hrc2 σ39 _ _ _ h hT (lv_sub hl [0] rfl)
  · have h := h.2 hc
    refine lv_aload_n hx hb dX12_one_9 rfl (lv_at hl 0 rfl) ?_
    refine lv_bipush (v := 40) hx hb dX12_one_10 (by decide) ?_
    refine rf_calli (rf_runV hx hb hml hown hK hT (c_X12_isSign h) rfl rfl klX12_362 ki_X12_isSign ks_X12_isSign kn_X12 kc_X12_isSign 1 ⟨rfl, by decide, by decide, by decide +kernel⟩ ⟨Nat.le_trans (by decide) hRm.1, Nat.le_trans (by decide) hRm.2.1⟩ rfl hl.1 rfl (Nat.le_of_ble_eq_true rfl) ⟨Nat.zero_le _, Nat.zero_le _⟩ dX12_one_12) hT (fun r40 σ40 H locs h hT => ?_)
    refine lv_if_eq (tgt := 121) hx hb dX12_one_15 (by decide) (fun hc => ?_) (fun hc => ?_)
    · have h := h.1 hc
      refine lv_aload_n hx hb dX12_one_121 rfl (lv_at hl 0 rfl) ?_
      refine lv_bipush (v := 15) hx hb dX12_one_122 (by decide) ?_
      refine rf_calli (rf_runV hx hb hml hown hK hT (c_X12_isWord h) rfl rfl klX12_353 ki_X12_isWord ks_X12_isWord kn_X12 kc_X12_isWord 1 ⟨rfl, by decide, by decide, by decide +kernel⟩ ⟨Nat.le_trans (by decide) hRm.1, Nat.le_trans (by decide) hRm.2.1⟩ rfl hl.1 rfl (Nat.le_of_ble_eq_true rfl) ⟨Nat.zero_le _, Nat.zero_le _⟩ dX12_one_124) hT (fun r41 σ41 H locs h hT => ?_)
      refine lv_if_eq (tgt := 186) hx hb dX12_one_127 (by decide) (fun hc => ?_) (fun hc => ?_)
      · have h := h.1 hc
        refine lv_aload_n hx hb dX12_one_186 rfl (lv_at hl 0 rfl) ?_
        refine lv_bipush (v := 16) hx hb dX12_one_187 (by decide) ?_
        refine rf_calli (rf_runV hx hb hml hown hK hT (c_X12_isWord h) rfl rfl klX12_353 ki_X12_isWord ks_X12_isWord kn_X12 kc_X12_isWord 1 ⟨rfl, by decide, by decide, by decide +kernel⟩ ⟨Nat.le_trans (by decide) hRm.1, Nat.le_trans (by decide) hRm.2.1⟩ rfl hl.1 rfl (Nat.le_of_ble_eq_true rfl) ⟨Nat.zero_le _, Nat.zero_le _⟩ dX12_one_189) hT (fun r42 σ42 H locs h hT => ?_)
        refine lv_if_eq (tgt := 239) hx hb dX12_one_192 (by decide) (fun hc => ?_) (fun hc => ?_)
        · have h := h.1 hc
          refine lv_aload_n hx hb dX12_one_239 rfl (lv_at hl 0 rfl) ?_
          refine lv_bipush (v := 17) hx hb dX12_one_240 (by decide) ?_
          refine rf_calli (rf_runV hx hb hml hown hK hT (c_X12_isWord h) rfl rfl klX12_353 ki_X12_isWord ks_X12_isWord kn_X12 kc_X12_isWord 1 ⟨rfl, by decide, by decide, by decide +kernel⟩ ⟨Nat.le_trans (by decide) hRm.1, Nat.le_trans (by decide) hRm.2.1⟩ rfl hl.1 rfl (Nat.le_of_ble_eq_true rfl) ⟨Nat.zero_le _, Nat.zero_le _⟩ dX12_one_242) hT (fun r43 σ43 H locs h hT => ?_)
          refine lv_if_eq (tgt := 253) hx hb dX12_one_245 (by decide) (fun hc => ?_) (fun hc => ?_)
          · have h := h.1 hc
            refine lv_aload_n hx hb dX12_one_253 rfl (lv_at hl 0 rfl) ?_
            refine rf_calli (rf_runV hx hb hml hown hK hT (c_X12_isName h) rfl rfl klX12_386 ki_X12_isName ks_X12_isName kn_X12 kc_X12_isName 0 ⟨rfl, by decide, by decide, by decide +kernel⟩ ⟨Nat.le_trans (by decide) hRm.1, Nat.le_trans (by decide) hRm.2.1⟩ rfl hl.1 rfl (Nat.le_of_ble_eq_true rfl) ⟨Nat.zero_le _, Nat.zero_le _⟩ dX12_one_254) hT (fun r44 σ44 H locs h hT => ?_)
            refine lv_if_ne (tgt := 269) hx hb dX12_one_257 (by decide) (fun hc => ?_) (fun hc => ?_)
            · have h := h.1 hc
              refine lv_aload_n hx hb dX12_one_269 rfl (lv_at hl 0 rfl) ?_
              refine rf_calli (rf_runV hx hb hml hown hK hT (c_X12_compared h) rfl rfl klX12_432 ki_X12_compared ks_X12_compared kn_X12 kc_X12_compared 0 ⟨rfl, by decide, by decide, by decide +kernel⟩ ⟨Nat.le_trans (by decide) hRm.1, Nat.le_trans (by decide) hRm.2.1⟩ rfl hl.1 rfl (Nat.le_of_ble_eq_true rfl) ⟨Nat.zero_le _, Nat.zero_le _⟩ dX12_one_270) hT (fun r45 σ45 H locs h hT => ?_)
              exact rf_iret hC hT h dX12_one_273
            · have h := h.2 hc
              refine lv_aload_n hx hb dX12_one_260 rfl (lv_at hl 0 rfl) ?_
              refine lv_aload_n hx hb dX12_one_261 rfl (lv_at hl 0 rfl) ?_
              refine rf_calli (rf_runV hx hb hml hown hK hT (c_X12_cant h) rfl rfl klX12_356 ki_X12_cant ks_X12_cant kn_X12 kc_X12_cant 0 ⟨rfl, by decide, by decide, by decide +kernel⟩ ⟨Nat.le_trans (by decide) hRm.1, Nat.le_trans (by decide) hRm.2.1⟩ rfl hl.1 rfl (Nat.le_of_ble_eq_true rfl) ⟨Nat.zero_le _, Nat.zero_le _⟩ dX12_one_262) hT (fun r46 σ46 H locs h hT => ?_)
              refine rf_calli (rf_runV hx hb hml hown hK hT (c_X12_bad h) rfl rfl klX12_425 ki_X12_bad ks_X12_bad kn_X12 kc_X12_bad 1 ⟨rfl, by decide, by decide, by decide +kernel⟩ ⟨Nat.le_trans (by decide) hRm.1, Nat.le_trans (by decide) hRm.2.1⟩ rfl hl.1 rfl (Nat.le_of_ble_eq_true rfl) ⟨Nat.zero_le _, Nat.zero_le _⟩ dX12_one_265) hT (fun r47 σ47 H locs h hT => ?_)
              exact rf_iret hC hT h dX12_one_268
          · have h := h.2 hc
            refine lv_aload_n hx hb dX12_one_248 rfl (lv_at hl 0 rfl) ?_
            refine rf_calli (rf_runV hx hb hml hown hK hT (c_X12_alerted h) rfl rfl klX12_429 ki_X12_alerted ks_X12_alerted kn_X12 kc_X12_alerted 0 ⟨rfl, by decide, by decide, by decide +kernel⟩ ⟨Nat.le_trans (by decide) hRm.1, Nat.le_trans (by decide) hRm.2.1⟩ rfl hl.1 rfl (Nat.le_of_ble_eq_true rfl) ⟨Nat.zero_le _, Nat.zero_le _⟩ dX12_one_249) hT (fun r48 σ48 H locs h hT => ?_)
            exact rf_iret hC hT h dX12_one_252
        · have h := h.2 hc
          refine lv_aload_n hx hb dX12_one_195 rfl (lv_at hl 0 rfl) ?_
          refine rf_callv (rf_runV hx hb hml hown hK hT (c_X12_next h) rfl rfl klX12_359 ki_X12_next ks_X12_next kn_X12 kc_X12_next 0 ⟨rfl, by decide, by decide, by decide +kernel⟩ ⟨Nat.le_trans (by decide) hRm.1, Nat.le_trans (by decide) hRm.2.1⟩ rfl hl.1 rfl (Nat.le_of_ble_eq_true rfl) ⟨Nat.zero_le _, Nat.zero_le _⟩ dX12_one_196) hT (fun σ49 H locs h hT => ?_)
          refine lv_aload_n hx hb dX12_one_199 rfl (lv_at hl 0 rfl) ?_
          refine rf_calli (rf_runV hx hb hml hown hK hT (c_X12_isName h) rfl rfl klX12_386 ki_X12_isName ks_X12_isName kn_X12 kc_X12_isName 0 ⟨rfl, by decide, by decide, by decide +kernel⟩ ⟨Nat.le_trans (by decide) hRm.1, Nat.le_trans (by decide) hRm.2.1⟩ rfl hl.1 rfl (Nat.le_of_ble_eq_true rfl) ⟨Nat.zero_le _, Nat.zero_le _⟩ dX12_one_200) hT (fun r50 σ50 H locs h hT => ?_)
          refine lv_if_ne (tgt := 215) hx hb dX12_one_203 (by decide) (fun hc => ?_) (fun hc => ?_)
          · have h := h.1 hc
            refine lv_aload_n hx hb dX12_one_215 rfl (lv_at hl 0 rfl) ?_
            refine lv_iconst (v := 4) hx hb dX12_one_216 (by decide) ?_
            refine lv_iconst (v := (-1)) hx hb dX12_one_217 (by decide) ?_
            refine lv_iconst (v := (-1)) hx hb dX12_one_218 (by decide) ?_
            refine rf_calli (rf_runV hx hb hml hown hK hT (c_X12_node h) rfl rfl klX12_418 ki_X12_node ks_X12_node kn_X12 kc_X12_node 3 ⟨rfl, by decide, by decide, by decide +kernel⟩ ⟨Nat.le_trans (by decide) hRm.1, Nat.le_trans (by decide) hRm.2.1⟩ rfl hl.1 rfl (Nat.le_of_ble_eq_true rfl) ⟨Nat.zero_le _, Nat.zero_le _⟩ dX12_one_219) hT (fun r51 σ51 H locs h hT => ?_)
            refine lv_istore_n (lv' := [(1, _), (0, _)]) hx hb dX12_one_222 rfl hl (by decide) rfl (fun ls hl => ?_)
            refine lv_aload_n hx hb dX12_one_223 rfl (lv_at hl 1 rfl) ?_
            refine rf_get hx hb hK hT hown 52 (by decide) kfX12_250 (v := .ref (ad 52)) rfl dX12_one_224 ?_
            refine lv_iload_n hx hb dX12_one_227 rfl (lv_at hl 0 rfl) ?_
            refine lv_aload_n hx hb dX12_one_228 rfl (lv_at hl 1 rfl) ?_
            refine rf_get hx hb hK hT hown 58 (by decide) kfX12_337 (v := .long (σ51.2.1 58)) rfl dX12_one_229 ?_
            obtain ⟨hi, h⟩ := h
            refine rf_last hx hb hK hT 52 (by decide) rfl hi dX12_one_232 (fun H locs hT => ?_)
            refine lv_aload_n hx hb dX12_one_233 rfl (lv_at hl 1 rfl) ?_
            refine rf_callv (rf_runV hx hb hml hown hK hT (c_X12_next h) rfl rfl klX12_359 ki_X12_next ks_X12_next kn_X12 kc_X12_next 0 ⟨rfl, by decide, by decide, by decide +kernel⟩ ⟨Nat.le_trans (by decide) hRm.1, Nat.le_trans (by decide) hRm.2.1⟩ rfl hl.1 rfl (Nat.le_of_ble_eq_true rfl) ⟨Nat.zero_le _, Nat.zero_le _⟩ dX12_one_234) hT (fun σ52 H locs h hT => ?_)
            refine lv_iload_n hx hb dX12_one_237 rfl (lv_at hl 0 rfl) ?_
            exact rf_iret hC hT h dX12_one_238
          · have h := h.2 hc
            refine lv_aload_n hx hb dX12_one_206 rfl (lv_at hl 0 rfl) ?_
            refine lv_aload_n hx hb dX12_one_207 rfl (lv_at hl 0 rfl) ?_
            refine rf_calli (rf_runV hx hb hml hown hK hT (c_X12_cant h) rfl rfl klX12_356 ki_X12_cant ks_X12_cant kn_X12 kc_X12_cant 0 ⟨rfl, by decide, by decide, by decide +kernel⟩ ⟨Nat.le_trans (by decide) hRm.1, Nat.le_trans (by decide) hRm.2.1⟩ rfl hl.1 rfl (Nat.le_of_ble_eq_true rfl) ⟨Nat.zero_le _, Nat.zero_le _⟩ dX12_one_208) hT (fun r53 σ53 H locs h hT => ?_)
            refine rf_calli (rf_runV hx hb hml hown hK hT (c_X12_bad h) rfl rfl klX12_425 ki_X12_bad ks_X12_bad kn_X12 kc_X12_bad 1 ⟨rfl, by decide, by decide, by decide +kernel⟩ ⟨Nat.le_trans (by decide) hRm.1, Nat.le_trans (by decide) hRm.2.1⟩ rfl hl.1 rfl (Nat.le_of_ble_eq_true rfl) ⟨Nat.zero_le _, Nat.zero_le _⟩ dX12_one_211) hT (fun r54 σ54 H locs h hT => ?_)
            exact rf_iret hC hT h dX12_one_214
      · have h := h.2 hc
        refine lv_aload_n hx hb dX12_one_130 rfl (lv_at hl 0 rfl) ?_
        refine rf_callv (rf_runV hx hb hml hown hK hT (c_X12_next h) rfl rfl klX12_359 ki_X12_next ks_X12_next kn_X12 kc_X12_next 0 ⟨rfl, by decide, by decide, by decide +kernel⟩ ⟨Nat.le_trans (by decide) hRm.1, Nat.le_trans (by decide) hRm.2.1⟩ rfl hl.1 rfl (Nat.le_of_ble_eq_true rfl) ⟨Nat.zero_le _, Nat.zero_le _⟩ dX12_one_131) hT (fun σ55 H locs h hT => ?_)
        refine lv_aload_n hx hb dX12_one_134 rfl (lv_at hl 0 rfl) ?_
        refine lv_bipush (v := 61) hx hb dX12_one_135 (by decide) ?_
        refine rf_calli (rf_runV hx hb hml hown hK hT (c_X12_mustSign h) rfl rfl klX12_402 ki_X12_mustSign ks_X12_mustSign kn_X12 kc_X12_mustSign 1 ⟨rfl, by decide, by decide, by decide +kernel⟩ ⟨Nat.le_trans (by decide) hRm.1, Nat.le_trans (by decide) hRm.2.1⟩ rfl hl.1 rfl (Nat.le_of_ble_eq_true rfl) ⟨Nat.zero_le _, Nat.zero_le _⟩ dX12_one_137) hT (fun r56 σ56 H locs h hT => ?_)
        refine lv_if_ne (tgt := 145) hx hb dX12_one_140 (by decide) (fun hc => ?_) (fun hc => ?_)
        · have h := h.1 hc
          refine lv_aload_n hx hb dX12_one_145 rfl (lv_at hl 0 rfl) ?_
          refine rf_get hx hb hK hT hown 54 (by decide) kfX12_316 (v := .int (σ56.1 54)) rfl dX12_one_146 ?_
          refine lv_iconst (v := 1) hx hb dX12_one_149 (by decide) ?_
          refine lv_icmp_eq (tgt := 162) hx hb dX12_one_150 (by decide) (fun hc => ?_) (fun hc => ?_)
          · have h := h.1 hc
            refine lv_aload_n hx hb dX12_one_162 rfl (lv_at hl 0 rfl) ?_
            refine lv_iconst (v := 3) hx hb dX12_one_163 (by decide) ?_
            refine lv_iconst (v := (-1)) hx hb dX12_one_164 (by decide) ?_
            refine lv_iconst (v := (-1)) hx hb dX12_one_165 (by decide) ?_
            refine rf_calli (rf_runV hx hb hml hown hK hT (c_X12_node h) rfl rfl klX12_418 ki_X12_node ks_X12_node kn_X12 kc_X12_node 3 ⟨rfl, by decide, by decide, by decide +kernel⟩ ⟨Nat.le_trans (by decide) hRm.1, Nat.le_trans (by decide) hRm.2.1⟩ rfl hl.1 rfl (Nat.le_of_ble_eq_true rfl) ⟨Nat.zero_le _, Nat.zero_le _⟩ dX12_one_166) hT (fun r57 σ57 H locs h hT => ?_)
            refine lv_istore_n (lv' := [(1, _), (0, _)]) hx hb dX12_one_169 rfl hl (by decide) rfl (fun ls hl => ?_)
            refine lv_aload_n hx hb dX12_one_170 rfl (lv_at hl 1 rfl) ?_
            refine rf_get hx hb hK hT hown 52 (by decide) kfX12_250 (v := .ref (ad 52)) rfl dX12_one_171 ?_
            refine lv_iload_n hx hb dX12_one_174 rfl (lv_at hl 0 rfl) ?_
            refine lv_aload_n hx hb dX12_one_175 rfl (lv_at hl 1 rfl) ?_
            refine rf_get hx hb hK hT hown 58 (by decide) kfX12_337 (v := .long (σ57.2.1 58)) rfl dX12_one_176 ?_
            obtain ⟨hi, h⟩ := h
            refine rf_last hx hb hK hT 52 (by decide) rfl hi dX12_one_179 (fun H locs hT => ?_)
            refine lv_aload_n hx hb dX12_one_180 rfl (lv_at hl 1 rfl) ?_
            refine rf_callv (rf_runV hx hb hml hown hK hT (c_X12_next h) rfl rfl klX12_359 ki_X12_next ks_X12_next kn_X12 kc_X12_next 0 ⟨rfl, by decide, by decide, by decide +kernel⟩ ⟨Nat.le_trans (by decide) hRm.1, Nat.le_trans (by decide) hRm.2.1⟩ rfl hl.1 rfl (Nat.le_of_ble_eq_true rfl) ⟨Nat.zero_le _, Nat.zero_le _⟩ dX12_one_181) hT (fun σ58 H locs h hT => ?_)
            refine lv_iload_n hx hb dX12_one_184 rfl (lv_at hl 0 rfl) ?_
            exact rf_iret hC hT h dX12_one_185
          · have h := h.2 hc
            refine lv_aload_n hx hb dX12_one_153 rfl (lv_at hl 0 rfl) ?_
            refine lv_aload_n hx hb dX12_one_154 rfl (lv_at hl 0 rfl) ?_
            refine rf_calli (rf_runV hx hb hml hown hK hT (c_X12_cant h) rfl rfl klX12_356 ki_X12_cant ks_X12_cant kn_X12 kc_X12_cant 0 ⟨rfl, by decide, by decide, by decide +kernel⟩ ⟨Nat.le_trans (by decide) hRm.1, Nat.le_trans (by decide) hRm.2.1⟩ rfl hl.1 rfl (Nat.le_of_ble_eq_true rfl) ⟨Nat.zero_le _, Nat.zero_le _⟩ dX12_one_155) hT (fun r59 σ59 H locs h hT => ?_)
            refine rf_calli (rf_runV hx hb hml hown hK hT (c_X12_bad h) rfl rfl klX12_425 ki_X12_bad ks_X12_bad kn_X12 kc_X12_bad 1 ⟨rfl, by decide, by decide, by decide +kernel⟩ ⟨Nat.le_trans (by decide) hRm.1, Nat.le_trans (by decide) hRm.2.1⟩ rfl hl.1 rfl (Nat.le_of_ble_eq_true rfl) ⟨Nat.zero_le _, Nat.zero_le _⟩ dX12_one_158) hT (fun r60 σ60 H locs h hT => ?_)
            exact rf_iret hC hT h dX12_one_161
        · have h := h.2 hc
          refine lv_iconst (v := (-1)) hx hb dX12_one_143 (by decide) ?_
          exact rf_iret hC hT h dX12_one_144
    · have h := h.2 hc
      exact t_X12_one_18 hC hRm hrc0 hrc1 hrc2 σ40 _ _ _ h hT (lv_sub hl [0] rfl)
/-! X12_anyOf -/
def w_X12_anyOf_46 (post : Int32 → rf_S → Prop) (rc0 : (Int32 → rf_S → Prop) → rf_S → Prop) (rc1 : (Int32 → rf_S → Prop) → rf_S → Prop) (rc2 : (Int32 → rf_S → Prop) → rf_S → Prop) (σ : rf_S) (x1 : Int32) : Prop := post x1 σ
section
variable {p : Program} {l : Launch} {e : Env} {s : State} {m : MethodId} {args : Array Value} {below : List Frame} {meth : Method} {c : Code} {P : hw_G} {o : Nat} {ad : Nat → Nat}
set_option maxRecDepth 100000 in
set_option maxHeartbeats 4000000 in
theorem t_X12_anyOf_46 {post : Int32 → rf_S → Prop} {rc0 : (Int32 → rf_S → Prop) → rf_S → Prop} {rc1 : (Int32 → rf_S → Prop) → rf_S → Prop} {rc2 : (Int32 → rf_S → Prop) → rf_S → Prop} (hC : rf_C P RX12 p s m meth c cX12_anyOf 3 (some .int)) {rmd R : Room} (hRm : 6 ≤ R.frames ∧ 140 ≤ R.locals ∧ rmd.frames + 1 ≤ R.frames ∧ 40 + rmd.locals ≤ R.locals ∧ rmd.cells = 0 ∧ rmd.slots = 0) (hrc0 : ∀ {σ : rf_S} {post : Int32 → rf_S → Prop}, rc0 post σ  → Met l yX12_one [Cond.code yX12_one cX12_one 3 (some .int)] rmd (rf_Pc P o ad σ [.ref o]) (rf_Qi P o ad post) 0 0 (rf_A o ad)) (hrc1 : ∀ {σ : rf_S} {post : Int32 → rf_S → Prop}, rc1 post σ  → Met l yX12_anyOf [Cond.code yX12_anyOf cX12_anyOf 3 (some .int)] rmd (rf_Pc P o ad σ [.ref o]) (rf_Qi P o ad post) 0 0 (rf_A o ad)) (hrc2 : ∀ {σ : rf_S} {post : Int32 → rf_S → Prop}, rc2 post σ  → Met l yX12_allOf [Cond.code yX12_allOf cX12_allOf 3 (some .int)] rmd (rf_Pc P o ad σ [.ref o]) (rf_Qi P o ad post) 0 0 (rf_A o ad)) (σ : rf_S) (x1 : Int32) (H : Heap) (locs : List Loc) (ls : Array Slot) (h : w_X12_anyOf_46 post rc0 rc1 rc2 σ x1) (hT : rf_T P s (rf_A o ad) o ad σ H locs) (hl : lv_has ls 3 [(1, .int x1)]) : W p l e R s m args below meth c H locs 0 0 (MQ below (rf_Qi P o ad post) args s 0 0 (rf_A o ad)) (F0 m 46 ls []) := by
  obtain ⟨hx, hb, hml, hown, hK, -, -⟩ := id hC
  refine lv_iload_n hx hb dX12_anyOf_46 rfl (lv_at hl 0 rfl) ?_
  exact rf_iret hC hT h dX12_anyOf_47
end
def w_X12_anyOf_42 (post : Int32 → rf_S → Prop) (rc0 : (Int32 → rf_S → Prop) → rf_S → Prop) (rc1 : (Int32 → rf_S → Prop) → rf_S → Prop) (rc2 : (Int32 → rf_S → Prop) → rf_S → Prop) (k5 : rf_S → Int32 → Prop) (σ : rf_S) (y0 : Int32) : Prop := k5 σ y0
section
variable {p : Program} {l : Launch} {e : Env} {s : State} {m : MethodId} {args : Array Value} {below : List Frame} {meth : Method} {c : Code} {P : hw_G} {o : Nat} {ad : Nat → Nat}
set_option maxRecDepth 100000 in
set_option maxHeartbeats 4000000 in
theorem t_X12_anyOf_42 {post : Int32 → rf_S → Prop} {rc0 : (Int32 → rf_S → Prop) → rf_S → Prop} {rc1 : (Int32 → rf_S → Prop) → rf_S → Prop} {rc2 : (Int32 → rf_S → Prop) → rf_S → Prop} {k5 : rf_S → Int32 → Prop} (hC : rf_C P RX12 p s m meth c cX12_anyOf 3 (some .int)) {rmd R : Room} (hRm : 6 ≤ R.frames ∧ 140 ≤ R.locals ∧ rmd.frames + 1 ≤ R.frames ∧ 40 + rmd.locals ≤ R.locals ∧ rmd.cells = 0 ∧ rmd.slots = 0) (hrc0 : ∀ {σ : rf_S} {post : Int32 → rf_S → Prop}, rc0 post σ  → Met l yX12_one [Cond.code yX12_one cX12_one 3 (some .int)] rmd (rf_Pc P o ad σ [.ref o]) (rf_Qi P o ad post) 0 0 (rf_A o ad)) (hrc1 : ∀ {σ : rf_S} {post : Int32 → rf_S → Prop}, rc1 post σ  → Met l yX12_anyOf [Cond.code yX12_anyOf cX12_anyOf 3 (some .int)] rmd (rf_Pc P o ad σ [.ref o]) (rf_Qi P o ad post) 0 0 (rf_A o ad)) (hrc2 : ∀ {σ : rf_S} {post : Int32 → rf_S → Prop}, rc2 post σ  → Met l yX12_allOf [Cond.code yX12_allOf cX12_allOf 3 (some .int)] rmd (rf_Pc P o ad σ [.ref o]) (rf_Qi P o ad post) 0 0 (rf_A o ad)) (hk5 : ∀ (σ : rf_S) (x1 : Int32) (H : Heap) (locs : List Loc) (ls : Array Slot), k5 σ x1 → rf_T P s (rf_A o ad) o ad σ H locs → lv_has ls 3 [(0, .ref o), (1, .int x1)] → W p l e R s m args below meth c H locs 0 0 (MQ below (rf_Qi P o ad post) args s 0 0 (rf_A o ad)) (F0 m 5 ls [])) (σ : rf_S) (y0 : Int32) (H : Heap) (locs : List Loc) (ls : Array Slot) (h : w_X12_anyOf_42 post rc0 rc1 rc2 k5 σ y0) (hT : rf_T P s (rf_A o ad) o ad σ H locs) (hl : lv_has ls 3 [(0, .ref o)]) : W p l e R s m args below meth c H locs 0 0 (MQ below (rf_Qi P o ad post) args s 0 0 (rf_A o ad)) (F0 m 42 ls [.int y0]) := by
  obtain ⟨hx, hb, hml, hown, hK, -, -⟩ := id hC
  refine lv_istore_n (lv' := [(1, _), (0, _)]) hx hb dX12_anyOf_42 rfl hl (by decide) rfl (fun ls hl => ?_)
  refine lv_goto (tgt := 5) hx hb dX12_anyOf_43 (by decide) ?_
  exact hk5 σ y0 _ _ _ h hT (lv_sub hl [1, 0] rfl)
end
def w_X12_anyOf_5 (post : Int32 → rf_S → Prop) (rc0 : (Int32 → rf_S → Prop) → rf_S → Prop) (rc1 : (Int32 → rf_S → Prop) → rf_S → Prop) (rc2 : (Int32 → rf_S → Prop) → rf_S → Prop) : Nat → rf_S → Int32 → Prop
  | 0, _, _ => False
  | n + 1, σ, x1 => (x1 < 0 → w_X12_anyOf_46 post rc0 rc1 rc2 σ x1) ∧ (¬ x1 < 0 → wp_X12_isWord (fun r6 σ6 => (r6 = 0 → w_X12_anyOf_46 post rc0 rc1 rc2 σ6 x1) ∧ (¬ r6 = 0 → wp_X12_next (fun σ7 => rc2 (fun r8 σ8 => (0 ≤ r8 → wp_X12_node (fun r9 σ9 => w_X12_anyOf_42 post rc0 rc1 rc2 (w_X12_anyOf_5 post rc0 rc1 rc2 n) σ9 r9) σ8 0 x1 r8) ∧ (¬ 0 ≤ r8 → w_X12_anyOf_42 post rc0 rc1 rc2 (w_X12_anyOf_5 post rc0 rc1 rc2 n) σ8 r8)) σ7) σ6)) σ 12)
section
variable {p : Program} {l : Launch} {e : Env} {s : State} {m : MethodId} {args : Array Value} {below : List Frame} {meth : Method} {c : Code} {P : hw_G} {o : Nat} {ad : Nat → Nat}
set_option maxRecDepth 100000 in
set_option maxHeartbeats 4000000 in
theorem t_X12_anyOf_5 {post : Int32 → rf_S → Prop} {rc0 : (Int32 → rf_S → Prop) → rf_S → Prop} {rc1 : (Int32 → rf_S → Prop) → rf_S → Prop} {rc2 : (Int32 → rf_S → Prop) → rf_S → Prop} (hC : rf_C P RX12 p s m meth c cX12_anyOf 3 (some .int)) {rmd R : Room} (hRm : 6 ≤ R.frames ∧ 140 ≤ R.locals ∧ rmd.frames + 1 ≤ R.frames ∧ 40 + rmd.locals ≤ R.locals ∧ rmd.cells = 0 ∧ rmd.slots = 0) (hrc0 : ∀ {σ : rf_S} {post : Int32 → rf_S → Prop}, rc0 post σ  → Met l yX12_one [Cond.code yX12_one cX12_one 3 (some .int)] rmd (rf_Pc P o ad σ [.ref o]) (rf_Qi P o ad post) 0 0 (rf_A o ad)) (hrc1 : ∀ {σ : rf_S} {post : Int32 → rf_S → Prop}, rc1 post σ  → Met l yX12_anyOf [Cond.code yX12_anyOf cX12_anyOf 3 (some .int)] rmd (rf_Pc P o ad σ [.ref o]) (rf_Qi P o ad post) 0 0 (rf_A o ad)) (hrc2 : ∀ {σ : rf_S} {post : Int32 → rf_S → Prop}, rc2 post σ  → Met l yX12_allOf [Cond.code yX12_allOf cX12_allOf 3 (some .int)] rmd (rf_Pc P o ad σ [.ref o]) (rf_Qi P o ad post) 0 0 (rf_A o ad)) : ∀ (n : Nat) (σ : rf_S) (x1 : Int32) (H : Heap) (locs : List Loc) (ls : Array Slot), w_X12_anyOf_5 post rc0 rc1 rc2 n σ x1 → rf_T P s (rf_A o ad) o ad σ H locs → lv_has ls 3 [(0, .ref o), (1, .int x1)] → W p l e R s m args below meth c H locs 0 0 (MQ below (rf_Qi P o ad post) args s 0 0 (rf_A o ad)) (F0 m 5 ls []) := by
  obtain ⟨hx, hb, hml, hown, hK, -, -⟩ := id hC
  intro n
  induction n with
  | zero => intro σ x1 H locs ls h; exact False.elim h
  | succ n ih =>
    intro σ x1 H locs ls h hT hl
    refine lv_iload_n hx hb dX12_anyOf_5 rfl (lv_at hl 1 rfl) ?_
    refine lv_if_lt (tgt := 46) hx hb dX12_anyOf_6 (by decide) (fun hc => ?_) (fun hc => ?_)
    · have h := h.1 hc
      exact t_X12_anyOf_46 hC hRm hrc0 hrc1 hrc2 σ x1 _ _ _ h hT (lv_sub hl [1] rfl)
    · have h := h.2 hc
      refine lv_aload_n hx hb dX12_anyOf_9 rfl (lv_at hl 0 rfl) ?_
      refine lv_bipush (v := 12) hx hb dX12_anyOf_10 (by decide) ?_
      refine rf_calli (rf_runV hx hb hml hown hK hT (c_X12_isWord h) rfl rfl klX12_353 ki_X12_isWord ks_X12_isWord kn_X12 kc_X12_isWord 1 ⟨rfl, by decide, by decide, by decide +kernel⟩ ⟨Nat.le_trans (by decide) hRm.1, Nat.le_trans (by decide) hRm.2.1⟩ rfl hl.1 rfl (Nat.le_of_ble_eq_true rfl) ⟨Nat.zero_le _, Nat.zero_le _⟩ dX12_anyOf_12) hT (fun r6 σ6 H locs h hT => ?_)
      refine lv_if_eq (tgt := 46) hx hb dX12_anyOf_15 (by decide) (fun hc => ?_) (fun hc => ?_)
      · have h := h.1 hc
        exact t_X12_anyOf_46 hC hRm hrc0 hrc1 hrc2 σ6 x1 _ _ _ h hT (lv_sub hl [1] rfl)
      · have h := h.2 hc
        refine lv_aload_n hx hb dX12_anyOf_18 rfl (lv_at hl 0 rfl) ?_
        refine rf_callv (rf_runV hx hb hml hown hK hT (c_X12_next h) rfl rfl klX12_359 ki_X12_next ks_X12_next kn_X12 kc_X12_next 0 ⟨rfl, by decide, by decide, by decide +kernel⟩ ⟨Nat.le_trans (by decide) hRm.1, Nat.le_trans (by decide) hRm.2.1⟩ rfl hl.1 rfl (Nat.le_of_ble_eq_true rfl) ⟨Nat.zero_le _, Nat.zero_le _⟩ dX12_anyOf_19) hT (fun σ7 H locs h hT => ?_)
        refine lv_aload_n hx hb dX12_anyOf_22 rfl (lv_at hl 0 rfl) ?_
        refine rf_calli (rf_runV hx hb hml hown hK hT (hrc2 h) hRm.2.2.2.2.1 hRm.2.2.2.2.2 klX12_415 ki_X12_allOf ks_X12_allOf kn_X12 kc_X12_allOf 0 ⟨rfl, by decide, by decide, by decide +kernel⟩ ⟨hRm.2.2.1, Nat.le_trans (by omega) hRm.2.2.2.1⟩ rfl hl.1 rfl (Nat.le_of_ble_eq_true rfl) ⟨Nat.zero_le _, Nat.zero_le _⟩ dX12_anyOf_23) hT (fun r8 σ8 H locs h hT => ?_)
        refine lv_istore_n (lv' := [(2, _), (0, _), (1, _)]) hx hb dX12_anyOf_26 rfl hl (by decide) rfl (fun ls hl => ?_)
        refine lv_iload_n hx hb dX12_anyOf_27 rfl (lv_at hl 0 rfl) ?_
        refine lv_if_ge (tgt := 35) hx hb dX12_anyOf_28 (by decide) (fun hc => ?_) (fun hc => ?_)
        · have h := h.1 hc
          refine lv_aload_n hx hb dX12_anyOf_35 rfl (lv_at hl 1 rfl) ?_
          refine lv_iconst (v := 0) hx hb dX12_anyOf_36 (by decide) ?_
          refine lv_iload_n hx hb dX12_anyOf_37 rfl (lv_at hl 2 rfl) ?_
          refine lv_iload_n hx hb dX12_anyOf_38 rfl (lv_at hl 0 rfl) ?_
          refine rf_calli (rf_runV hx hb hml hown hK hT (c_X12_node h) rfl rfl klX12_418 ki_X12_node ks_X12_node kn_X12 kc_X12_node 3 ⟨rfl, by decide, by decide, by decide +kernel⟩ ⟨Nat.le_trans (by decide) hRm.1, Nat.le_trans (by decide) hRm.2.1⟩ rfl hl.1 rfl (Nat.le_of_ble_eq_true rfl) ⟨Nat.zero_le _, Nat.zero_le _⟩ dX12_anyOf_39) hT (fun r9 σ9 H locs h hT => ?_)
          exact t_X12_anyOf_42 hC hRm hrc0 hrc1 hrc2 ih σ9 r9 _ _ _ h hT (lv_sub hl [1] rfl)
        · have h := h.2 hc
          refine lv_iload_n hx hb dX12_anyOf_31 rfl (lv_at hl 0 rfl) ?_
          refine lv_goto (tgt := 42) hx hb dX12_anyOf_32 (by decide) ?_
          exact t_X12_anyOf_42 hC hRm hrc0 hrc1 hrc2 ih σ8 r8 _ _ _ h hT (lv_sub hl [1] rfl)
end
def wpb_X12_anyOf (rc0 : (Int32 → rf_S → Prop) → rf_S → Prop) (rc1 : (Int32 → rf_S → Prop) → rf_S → Prop) (rc2 : (Int32 → rf_S → Prop) → rf_S → Prop) (post : Int32 → rf_S → Prop) (σ : rf_S)  : Prop := rc2 (fun r10 σ10 => ∃ n9, w_X12_anyOf_5 post rc0 rc1 rc2 n9 σ10 r10) σ
set_option maxRecDepth 100000 in
set_option maxHeartbeats 4000000 in
theorem cb_X12_anyOf {l : Launch} {P : hw_G} {o : Nat} {ad : Nat → Nat} {rc0 : (Int32 → rf_S → Prop) → rf_S → Prop} {rc1 : (Int32 → rf_S → Prop) → rf_S → Prop} {rc2 : (Int32 → rf_S → Prop) → rf_S → Prop} {rmd R : Room} (hRm : 6 ≤ R.frames ∧ 140 ≤ R.locals ∧ rmd.frames + 1 ≤ R.frames ∧ 40 + rmd.locals ≤ R.locals ∧ rmd.cells = 0 ∧ rmd.slots = 0) (hrc0 : ∀ {σ : rf_S} {post : Int32 → rf_S → Prop}, rc0 post σ  → Met l yX12_one [Cond.code yX12_one cX12_one 3 (some .int)] rmd (rf_Pc P o ad σ [.ref o]) (rf_Qi P o ad post) 0 0 (rf_A o ad)) (hrc1 : ∀ {σ : rf_S} {post : Int32 → rf_S → Prop}, rc1 post σ  → Met l yX12_anyOf [Cond.code yX12_anyOf cX12_anyOf 3 (some .int)] rmd (rf_Pc P o ad σ [.ref o]) (rf_Qi P o ad post) 0 0 (rf_A o ad)) (hrc2 : ∀ {σ : rf_S} {post : Int32 → rf_S → Prop}, rc2 post σ  → Met l yX12_allOf [Cond.code yX12_allOf cX12_allOf 3 (some .int)] rmd (rf_Pc P o ad σ [.ref o]) (rf_Qi P o ad post) 0 0 (rf_A o ad)) {σ : rf_S}  {post : Int32 → rf_S → Prop} (h : wpb_X12_anyOf rc0 rc1 rc2 post σ ) : Met l yX12_anyOf [Cond.code yX12_anyOf cX12_anyOf 3 (some .int)] R (rf_Pc P o ad σ [.ref o]) (rf_Qi P o ad post) 0 0 (rf_A o ad) := by
  refine rf_met (by decide) rfl (Nat.le_of_ble_eq_true rfl) ?_
  intro p e s m below meth c ls hC hT hl
  obtain ⟨hx, hb, hml, hown, hK, -, -⟩ := id hC
  have hl : lv_has ls 3 [(0, .ref o)] := hl
  refine lv_aload_n hx hb dX12_anyOf_0 rfl (lv_at hl 0 rfl) ?_
  refine rf_calli (rf_runV hx hb hml hown hK hT (hrc2 h) hRm.2.2.2.2.1 hRm.2.2.2.2.2 klX12_415 ki_X12_allOf ks_X12_allOf kn_X12 kc_X12_allOf 0 ⟨rfl, by decide, by decide, by decide +kernel⟩ ⟨hRm.2.2.1, Nat.le_trans (by omega) hRm.2.2.2.1⟩ rfl hl.1 rfl (Nat.le_of_ble_eq_true rfl) ⟨Nat.zero_le _, Nat.zero_le _⟩ dX12_anyOf_1) hT (fun r10 σ10 H locs h hT => ?_)
  refine lv_istore_n (lv' := [(1, _), (0, _)]) hx hb dX12_anyOf_4 rfl hl (by decide) rfl (fun ls hl => ?_)
  obtain ⟨n9, h⟩ := h
  exact t_X12_anyOf_5 hC hRm hrc0 hrc1 hrc2 n9 σ10 r10 _ _ _ h hT (lv_sub hl [1, 0] rfl)
/-! X12_allOf -/
def w_X12_allOf_46 (post : Int32 → rf_S → Prop) (rc0 : (Int32 → rf_S → Prop) → rf_S → Prop) (rc1 : (Int32 → rf_S → Prop) → rf_S → Prop) (rc2 : (Int32 → rf_S → Prop) → rf_S → Prop) (σ : rf_S) (x1 : Int32) : Prop := post x1 σ
section
variable {p : Program} {l : Launch} {e : Env} {s : State} {m : MethodId} {args : Array Value} {below : List Frame} {meth : Method} {c : Code} {P : hw_G} {o : Nat} {ad : Nat → Nat}
set_option maxRecDepth 100000 in
set_option maxHeartbeats 4000000 in
theorem t_X12_allOf_46 {post : Int32 → rf_S → Prop} {rc0 : (Int32 → rf_S → Prop) → rf_S → Prop} {rc1 : (Int32 → rf_S → Prop) → rf_S → Prop} {rc2 : (Int32 → rf_S → Prop) → rf_S → Prop} (hC : rf_C P RX12 p s m meth c cX12_allOf 3 (some .int)) {rmd R : Room} (hRm : 6 ≤ R.frames ∧ 140 ≤ R.locals ∧ rmd.frames + 1 ≤ R.frames ∧ 40 + rmd.locals ≤ R.locals ∧ rmd.cells = 0 ∧ rmd.slots = 0) (hrc0 : ∀ {σ : rf_S} {post : Int32 → rf_S → Prop}, rc0 post σ  → Met l yX12_one [Cond.code yX12_one cX12_one 3 (some .int)] rmd (rf_Pc P o ad σ [.ref o]) (rf_Qi P o ad post) 0 0 (rf_A o ad)) (hrc1 : ∀ {σ : rf_S} {post : Int32 → rf_S → Prop}, rc1 post σ  → Met l yX12_anyOf [Cond.code yX12_anyOf cX12_anyOf 3 (some .int)] rmd (rf_Pc P o ad σ [.ref o]) (rf_Qi P o ad post) 0 0 (rf_A o ad)) (hrc2 : ∀ {σ : rf_S} {post : Int32 → rf_S → Prop}, rc2 post σ  → Met l yX12_allOf [Cond.code yX12_allOf cX12_allOf 3 (some .int)] rmd (rf_Pc P o ad σ [.ref o]) (rf_Qi P o ad post) 0 0 (rf_A o ad)) (σ : rf_S) (x1 : Int32) (H : Heap) (locs : List Loc) (ls : Array Slot) (h : w_X12_allOf_46 post rc0 rc1 rc2 σ x1) (hT : rf_T P s (rf_A o ad) o ad σ H locs) (hl : lv_has ls 3 [(1, .int x1)]) : W p l e R s m args below meth c H locs 0 0 (MQ below (rf_Qi P o ad post) args s 0 0 (rf_A o ad)) (F0 m 46 ls []) := by
  obtain ⟨hx, hb, hml, hown, hK, -, -⟩ := id hC
  refine lv_iload_n hx hb dX12_allOf_46 rfl (lv_at hl 0 rfl) ?_
  exact rf_iret hC hT h dX12_allOf_47
end
def w_X12_allOf_42 (post : Int32 → rf_S → Prop) (rc0 : (Int32 → rf_S → Prop) → rf_S → Prop) (rc1 : (Int32 → rf_S → Prop) → rf_S → Prop) (rc2 : (Int32 → rf_S → Prop) → rf_S → Prop) (k5 : rf_S → Int32 → Prop) (σ : rf_S) (y0 : Int32) : Prop := k5 σ y0
section
variable {p : Program} {l : Launch} {e : Env} {s : State} {m : MethodId} {args : Array Value} {below : List Frame} {meth : Method} {c : Code} {P : hw_G} {o : Nat} {ad : Nat → Nat}
set_option maxRecDepth 100000 in
set_option maxHeartbeats 4000000 in
theorem t_X12_allOf_42 {post : Int32 → rf_S → Prop} {rc0 : (Int32 → rf_S → Prop) → rf_S → Prop} {rc1 : (Int32 → rf_S → Prop) → rf_S → Prop} {rc2 : (Int32 → rf_S → Prop) → rf_S → Prop} {k5 : rf_S → Int32 → Prop} (hC : rf_C P RX12 p s m meth c cX12_allOf 3 (some .int)) {rmd R : Room} (hRm : 6 ≤ R.frames ∧ 140 ≤ R.locals ∧ rmd.frames + 1 ≤ R.frames ∧ 40 + rmd.locals ≤ R.locals ∧ rmd.cells = 0 ∧ rmd.slots = 0) (hrc0 : ∀ {σ : rf_S} {post : Int32 → rf_S → Prop}, rc0 post σ  → Met l yX12_one [Cond.code yX12_one cX12_one 3 (some .int)] rmd (rf_Pc P o ad σ [.ref o]) (rf_Qi P o ad post) 0 0 (rf_A o ad)) (hrc1 : ∀ {σ : rf_S} {post : Int32 → rf_S → Prop}, rc1 post σ  → Met l yX12_anyOf [Cond.code yX12_anyOf cX12_anyOf 3 (some .int)] rmd (rf_Pc P o ad σ [.ref o]) (rf_Qi P o ad post) 0 0 (rf_A o ad)) (hrc2 : ∀ {σ : rf_S} {post : Int32 → rf_S → Prop}, rc2 post σ  → Met l yX12_allOf [Cond.code yX12_allOf cX12_allOf 3 (some .int)] rmd (rf_Pc P o ad σ [.ref o]) (rf_Qi P o ad post) 0 0 (rf_A o ad)) (hk5 : ∀ (σ : rf_S) (x1 : Int32) (H : Heap) (locs : List Loc) (ls : Array Slot), k5 σ x1 → rf_T P s (rf_A o ad) o ad σ H locs → lv_has ls 3 [(0, .ref o), (1, .int x1)] → W p l e R s m args below meth c H locs 0 0 (MQ below (rf_Qi P o ad post) args s 0 0 (rf_A o ad)) (F0 m 5 ls [])) (σ : rf_S) (y0 : Int32) (H : Heap) (locs : List Loc) (ls : Array Slot) (h : w_X12_allOf_42 post rc0 rc1 rc2 k5 σ y0) (hT : rf_T P s (rf_A o ad) o ad σ H locs) (hl : lv_has ls 3 [(0, .ref o)]) : W p l e R s m args below meth c H locs 0 0 (MQ below (rf_Qi P o ad post) args s 0 0 (rf_A o ad)) (F0 m 42 ls [.int y0]) := by
  obtain ⟨hx, hb, hml, hown, hK, -, -⟩ := id hC
  refine lv_istore_n (lv' := [(1, _), (0, _)]) hx hb dX12_allOf_42 rfl hl (by decide) rfl (fun ls hl => ?_)
  refine lv_goto (tgt := 5) hx hb dX12_allOf_43 (by decide) ?_
  exact hk5 σ y0 _ _ _ h hT (lv_sub hl [1, 0] rfl)
end
def w_X12_allOf_5 (post : Int32 → rf_S → Prop) (rc0 : (Int32 → rf_S → Prop) → rf_S → Prop) (rc1 : (Int32 → rf_S → Prop) → rf_S → Prop) (rc2 : (Int32 → rf_S → Prop) → rf_S → Prop) : Nat → rf_S → Int32 → Prop
  | 0, _, _ => False
  | n + 1, σ, x1 => (x1 < 0 → w_X12_allOf_46 post rc0 rc1 rc2 σ x1) ∧ (¬ x1 < 0 → wp_X12_isWord (fun r6 σ6 => (r6 = 0 → w_X12_allOf_46 post rc0 rc1 rc2 σ6 x1) ∧ (¬ r6 = 0 → wp_X12_next (fun σ7 => rc0 (fun r8 σ8 => (0 ≤ r8 → wp_X12_node (fun r9 σ9 => w_X12_allOf_42 post rc0 rc1 rc2 (w_X12_allOf_5 post rc0 rc1 rc2 n) σ9 r9) σ8 1 x1 r8) ∧ (¬ 0 ≤ r8 → w_X12_allOf_42 post rc0 rc1 rc2 (w_X12_allOf_5 post rc0 rc1 rc2 n) σ8 r8)) σ7) σ6)) σ 13)
section
variable {p : Program} {l : Launch} {e : Env} {s : State} {m : MethodId} {args : Array Value} {below : List Frame} {meth : Method} {c : Code} {P : hw_G} {o : Nat} {ad : Nat → Nat}
set_option maxRecDepth 100000 in
set_option maxHeartbeats 4000000 in
theorem t_X12_allOf_5 {post : Int32 → rf_S → Prop} {rc0 : (Int32 → rf_S → Prop) → rf_S → Prop} {rc1 : (Int32 → rf_S → Prop) → rf_S → Prop} {rc2 : (Int32 → rf_S → Prop) → rf_S → Prop} (hC : rf_C P RX12 p s m meth c cX12_allOf 3 (some .int)) {rmd R : Room} (hRm : 6 ≤ R.frames ∧ 140 ≤ R.locals ∧ rmd.frames + 1 ≤ R.frames ∧ 40 + rmd.locals ≤ R.locals ∧ rmd.cells = 0 ∧ rmd.slots = 0) (hrc0 : ∀ {σ : rf_S} {post : Int32 → rf_S → Prop}, rc0 post σ  → Met l yX12_one [Cond.code yX12_one cX12_one 3 (some .int)] rmd (rf_Pc P o ad σ [.ref o]) (rf_Qi P o ad post) 0 0 (rf_A o ad)) (hrc1 : ∀ {σ : rf_S} {post : Int32 → rf_S → Prop}, rc1 post σ  → Met l yX12_anyOf [Cond.code yX12_anyOf cX12_anyOf 3 (some .int)] rmd (rf_Pc P o ad σ [.ref o]) (rf_Qi P o ad post) 0 0 (rf_A o ad)) (hrc2 : ∀ {σ : rf_S} {post : Int32 → rf_S → Prop}, rc2 post σ  → Met l yX12_allOf [Cond.code yX12_allOf cX12_allOf 3 (some .int)] rmd (rf_Pc P o ad σ [.ref o]) (rf_Qi P o ad post) 0 0 (rf_A o ad)) : ∀ (n : Nat) (σ : rf_S) (x1 : Int32) (H : Heap) (locs : List Loc) (ls : Array Slot), w_X12_allOf_5 post rc0 rc1 rc2 n σ x1 → rf_T P s (rf_A o ad) o ad σ H locs → lv_has ls 3 [(0, .ref o), (1, .int x1)] → W p l e R s m args below meth c H locs 0 0 (MQ below (rf_Qi P o ad post) args s 0 0 (rf_A o ad)) (F0 m 5 ls []) := by
  obtain ⟨hx, hb, hml, hown, hK, -, -⟩ := id hC
  intro n
  induction n with
  | zero => intro σ x1 H locs ls h; exact False.elim h
  | succ n ih =>
    intro σ x1 H locs ls h hT hl
    refine lv_iload_n hx hb dX12_allOf_5 rfl (lv_at hl 1 rfl) ?_
    refine lv_if_lt (tgt := 46) hx hb dX12_allOf_6 (by decide) (fun hc => ?_) (fun hc => ?_)
    · have h := h.1 hc
      exact t_X12_allOf_46 hC hRm hrc0 hrc1 hrc2 σ x1 _ _ _ h hT (lv_sub hl [1] rfl)
    · have h := h.2 hc
      refine lv_aload_n hx hb dX12_allOf_9 rfl (lv_at hl 0 rfl) ?_
      refine lv_bipush (v := 13) hx hb dX12_allOf_10 (by decide) ?_
      refine rf_calli (rf_runV hx hb hml hown hK hT (c_X12_isWord h) rfl rfl klX12_353 ki_X12_isWord ks_X12_isWord kn_X12 kc_X12_isWord 1 ⟨rfl, by decide, by decide, by decide +kernel⟩ ⟨Nat.le_trans (by decide) hRm.1, Nat.le_trans (by decide) hRm.2.1⟩ rfl hl.1 rfl (Nat.le_of_ble_eq_true rfl) ⟨Nat.zero_le _, Nat.zero_le _⟩ dX12_allOf_12) hT (fun r6 σ6 H locs h hT => ?_)
      refine lv_if_eq (tgt := 46) hx hb dX12_allOf_15 (by decide) (fun hc => ?_) (fun hc => ?_)
      · have h := h.1 hc
        exact t_X12_allOf_46 hC hRm hrc0 hrc1 hrc2 σ6 x1 _ _ _ h hT (lv_sub hl [1] rfl)
      · have h := h.2 hc
        refine lv_aload_n hx hb dX12_allOf_18 rfl (lv_at hl 0 rfl) ?_
        refine rf_callv (rf_runV hx hb hml hown hK hT (c_X12_next h) rfl rfl klX12_359 ki_X12_next ks_X12_next kn_X12 kc_X12_next 0 ⟨rfl, by decide, by decide, by decide +kernel⟩ ⟨Nat.le_trans (by decide) hRm.1, Nat.le_trans (by decide) hRm.2.1⟩ rfl hl.1 rfl (Nat.le_of_ble_eq_true rfl) ⟨Nat.zero_le _, Nat.zero_le _⟩ dX12_allOf_19) hT (fun σ7 H locs h hT => ?_)
        refine lv_aload_n hx hb dX12_allOf_22 rfl (lv_at hl 0 rfl) ?_
        refine rf_calli (rf_runV hx hb hml hown hK hT (hrc0 h) hRm.2.2.2.2.1 hRm.2.2.2.2.2 klX12_422 ki_X12_one ks_X12_one kn_X12 kc_X12_one 0 ⟨rfl, by decide, by decide, by decide +kernel⟩ ⟨hRm.2.2.1, Nat.le_trans (by omega) hRm.2.2.2.1⟩ rfl hl.1 rfl (Nat.le_of_ble_eq_true rfl) ⟨Nat.zero_le _, Nat.zero_le _⟩ dX12_allOf_23) hT (fun r8 σ8 H locs h hT => ?_)
        refine lv_istore_n (lv' := [(2, _), (0, _), (1, _)]) hx hb dX12_allOf_26 rfl hl (by decide) rfl (fun ls hl => ?_)
        refine lv_iload_n hx hb dX12_allOf_27 rfl (lv_at hl 0 rfl) ?_
        refine lv_if_ge (tgt := 35) hx hb dX12_allOf_28 (by decide) (fun hc => ?_) (fun hc => ?_)
        · have h := h.1 hc
          refine lv_aload_n hx hb dX12_allOf_35 rfl (lv_at hl 1 rfl) ?_
          refine lv_iconst (v := 1) hx hb dX12_allOf_36 (by decide) ?_
          refine lv_iload_n hx hb dX12_allOf_37 rfl (lv_at hl 2 rfl) ?_
          refine lv_iload_n hx hb dX12_allOf_38 rfl (lv_at hl 0 rfl) ?_
          refine rf_calli (rf_runV hx hb hml hown hK hT (c_X12_node h) rfl rfl klX12_418 ki_X12_node ks_X12_node kn_X12 kc_X12_node 3 ⟨rfl, by decide, by decide, by decide +kernel⟩ ⟨Nat.le_trans (by decide) hRm.1, Nat.le_trans (by decide) hRm.2.1⟩ rfl hl.1 rfl (Nat.le_of_ble_eq_true rfl) ⟨Nat.zero_le _, Nat.zero_le _⟩ dX12_allOf_39) hT (fun r9 σ9 H locs h hT => ?_)
          exact t_X12_allOf_42 hC hRm hrc0 hrc1 hrc2 ih σ9 r9 _ _ _ h hT (lv_sub hl [1] rfl)
        · have h := h.2 hc
          refine lv_iload_n hx hb dX12_allOf_31 rfl (lv_at hl 0 rfl) ?_
          refine lv_goto (tgt := 42) hx hb dX12_allOf_32 (by decide) ?_
          exact t_X12_allOf_42 hC hRm hrc0 hrc1 hrc2 ih σ8 r8 _ _ _ h hT (lv_sub hl [1] rfl)
end
def wpb_X12_allOf (rc0 : (Int32 → rf_S → Prop) → rf_S → Prop) (rc1 : (Int32 → rf_S → Prop) → rf_S → Prop) (rc2 : (Int32 → rf_S → Prop) → rf_S → Prop) (post : Int32 → rf_S → Prop) (σ : rf_S)  : Prop := rc0 (fun r10 σ10 => ∃ n9, w_X12_allOf_5 post rc0 rc1 rc2 n9 σ10 r10) σ
set_option maxRecDepth 100000 in
set_option maxHeartbeats 4000000 in
theorem cb_X12_allOf {l : Launch} {P : hw_G} {o : Nat} {ad : Nat → Nat} {rc0 : (Int32 → rf_S → Prop) → rf_S → Prop} {rc1 : (Int32 → rf_S → Prop) → rf_S → Prop} {rc2 : (Int32 → rf_S → Prop) → rf_S → Prop} {rmd R : Room} (hRm : 6 ≤ R.frames ∧ 140 ≤ R.locals ∧ rmd.frames + 1 ≤ R.frames ∧ 40 + rmd.locals ≤ R.locals ∧ rmd.cells = 0 ∧ rmd.slots = 0) (hrc0 : ∀ {σ : rf_S} {post : Int32 → rf_S → Prop}, rc0 post σ  → Met l yX12_one [Cond.code yX12_one cX12_one 3 (some .int)] rmd (rf_Pc P o ad σ [.ref o]) (rf_Qi P o ad post) 0 0 (rf_A o ad)) (hrc1 : ∀ {σ : rf_S} {post : Int32 → rf_S → Prop}, rc1 post σ  → Met l yX12_anyOf [Cond.code yX12_anyOf cX12_anyOf 3 (some .int)] rmd (rf_Pc P o ad σ [.ref o]) (rf_Qi P o ad post) 0 0 (rf_A o ad)) (hrc2 : ∀ {σ : rf_S} {post : Int32 → rf_S → Prop}, rc2 post σ  → Met l yX12_allOf [Cond.code yX12_allOf cX12_allOf 3 (some .int)] rmd (rf_Pc P o ad σ [.ref o]) (rf_Qi P o ad post) 0 0 (rf_A o ad)) {σ : rf_S}  {post : Int32 → rf_S → Prop} (h : wpb_X12_allOf rc0 rc1 rc2 post σ ) : Met l yX12_allOf [Cond.code yX12_allOf cX12_allOf 3 (some .int)] R (rf_Pc P o ad σ [.ref o]) (rf_Qi P o ad post) 0 0 (rf_A o ad) := by
  refine rf_met (by decide) rfl (Nat.le_of_ble_eq_true rfl) ?_
  intro p e s m below meth c ls hC hT hl
  obtain ⟨hx, hb, hml, hown, hK, -, -⟩ := id hC
  have hl : lv_has ls 3 [(0, .ref o)] := hl
  refine lv_aload_n hx hb dX12_allOf_0 rfl (lv_at hl 0 rfl) ?_
  refine rf_calli (rf_runV hx hb hml hown hK hT (hrc0 h) hRm.2.2.2.2.1 hRm.2.2.2.2.2 klX12_422 ki_X12_one ks_X12_one kn_X12 kc_X12_one 0 ⟨rfl, by decide, by decide, by decide +kernel⟩ ⟨hRm.2.2.1, Nat.le_trans (by omega) hRm.2.2.2.1⟩ rfl hl.1 rfl (Nat.le_of_ble_eq_true rfl) ⟨Nat.zero_le _, Nat.zero_le _⟩ dX12_allOf_1) hT (fun r10 σ10 H locs h hT => ?_)
  refine lv_istore_n (lv' := [(1, _), (0, _)]) hx hb dX12_allOf_4 rfl hl (by decide) rfl (fun ls hl => ?_)
  obtain ⟨n9, h⟩ := h
  exact t_X12_allOf_5 hC hRm hrc0 hrc1 hrc2 n9 σ10 r10 _ _ _ h hT (lv_sub hl [1, 0] rfl)
abbrev rmg_X12_one (d : Nat) : Room := { frames := 6 + d, cells := 0, slots := 0, locals := 140 + 40 * d }
def wg_X12_one : Nat → Nat → (Int32 → rf_S → Prop) → rf_S → Prop
  | 0, _, _, _ => False
  | d + 1, t, post, σ => if t = 0 then wpb_X12_one (wg_X12_one d 0) (wg_X12_one d 1) (wg_X12_one d 2) post σ else if t = 1 then wpb_X12_anyOf (wg_X12_one d 0) (wg_X12_one d 1) (wg_X12_one d 2) post σ else wpb_X12_allOf (wg_X12_one d 0) (wg_X12_one d 1) (wg_X12_one d 2) post σ
def wp_X12_one (d : Nat) (post : Int32 → rf_S → Prop) (σ : rf_S) : Prop := wg_X12_one d 0 post σ
def wp_X12_anyOf (d : Nat) (post : Int32 → rf_S → Prop) (σ : rf_S) : Prop := wg_X12_one d 1 post σ
def wp_X12_allOf (d : Nat) (post : Int32 → rf_S → Prop) (σ : rf_S) : Prop := wg_X12_one d 2 post σ
theorem cg_X12_one {l : Launch} {P : hw_G} {o : Nat} {ad : Nat → Nat} (d : Nat) : (∀ {σ : rf_S} {post : Int32 → rf_S → Prop}, wg_X12_one d 0 post σ → Met l yX12_one [Cond.code yX12_one cX12_one 3 (some .int)] (rmg_X12_one d) (rf_Pc P o ad σ [.ref o]) (rf_Qi P o ad post) 0 0 (rf_A o ad)) ∧ (∀ {σ : rf_S} {post : Int32 → rf_S → Prop}, wg_X12_one d 1 post σ → Met l yX12_anyOf [Cond.code yX12_anyOf cX12_anyOf 3 (some .int)] (rmg_X12_one d) (rf_Pc P o ad σ [.ref o]) (rf_Qi P o ad post) 0 0 (rf_A o ad)) ∧ (∀ {σ : rf_S} {post : Int32 → rf_S → Prop}, wg_X12_one d 2 post σ → Met l yX12_allOf [Cond.code yX12_allOf cX12_allOf 3 (some .int)] (rmg_X12_one d) (rf_Pc P o ad σ [.ref o]) (rf_Qi P o ad post) 0 0 (rf_A o ad)) := by
  induction d with
  | zero => exact ⟨fun h => False.elim h, fun h => False.elim h, fun h => False.elim h⟩
  | succ d ih =>
    have hR : 6 ≤ (rmg_X12_one (d + 1)).frames ∧ 140 ≤ (rmg_X12_one (d + 1)).locals ∧ (rmg_X12_one d).frames + 1 ≤ (rmg_X12_one (d + 1)).frames ∧ 40 + (rmg_X12_one d).locals ≤ (rmg_X12_one (d + 1)).locals ∧ (rmg_X12_one d).cells = 0 ∧ (rmg_X12_one d).slots = 0 := ⟨by show _ ≤ _ + (d + 1); omega, by show _ ≤ _ + 40 * (d + 1); omega, by show _ + d + 1 ≤ _ + (d + 1); omega, by show 40 + (_ + 40 * d) ≤ _ + 40 * (d + 1); omega, rfl, rfl⟩
    exact ⟨fun h => cb_X12_one hR ih.1 ih.2.1 ih.2.2 h, fun h => cb_X12_anyOf hR ih.1 ih.2.1 ih.2.2 h, fun h => cb_X12_allOf hR ih.1 ih.2.1 ih.2.2 h⟩
theorem c_X12_one {l : Launch} {P : hw_G} {o : Nat} {ad : Nat → Nat} (d : Nat) {σ : rf_S} {post : Int32 → rf_S → Prop} (h : wp_X12_one d post σ) : Met l yX12_one [Cond.code yX12_one cX12_one 3 (some .int)] (rmg_X12_one d) (rf_Pc P o ad σ [.ref o]) (rf_Qi P o ad post) 0 0 (rf_A o ad) := (cg_X12_one d).1 h
theorem c_X12_anyOf {l : Launch} {P : hw_G} {o : Nat} {ad : Nat → Nat} (d : Nat) {σ : rf_S} {post : Int32 → rf_S → Prop} (h : wp_X12_anyOf d post σ) : Met l yX12_anyOf [Cond.code yX12_anyOf cX12_anyOf 3 (some .int)] (rmg_X12_one d) (rf_Pc P o ad σ [.ref o]) (rf_Qi P o ad post) 0 0 (rf_A o ad) := (cg_X12_one d).2.1 h
theorem c_X12_allOf {l : Launch} {P : hw_G} {o : Nat} {ad : Nat → Nat} (d : Nat) {σ : rf_S} {post : Int32 → rf_S → Prop} (h : wp_X12_allOf d post σ) : Met l yX12_allOf [Cond.code yX12_allOf cX12_allOf 3 (some .int)] (rmg_X12_one d) (rf_Pc P o ad σ [.ref o]) (rf_Qi P o ad post) 0 0 (rf_A o ad) := (cg_X12_one d).2.2 h
/-! X12_readCond -/
abbrev rm_X12_readCond : Room := { frames := 67, cells := 0, slots := 0, locals := 2562 }
def wp_X12_readCond (post : Int32 → rf_S → Prop) (σ : rf_S) (p1 : Int32) : Prop := ∃ d9, d9 ≤ 60 ∧ wp_X12_anyOf d9 (fun r2 σ2 => (0 ≤ r2 → vp_in p1 (rf_n 40) ∧ vp_in ((6 * p1) + (σ2.2.2.1 40 p1.toNatClampNeg)) (rf_n 41) ∧ vp_in p1 (rf_n 40) ∧ vp_in p1 (rf_n 40) ∧ post 1 (rf_ua (rf_ua σ2 41 ((6 * p1) + (σ2.2.2.1 40 p1.toNatClampNeg)).toNatClampNeg r2) 40 p1.toNatClampNeg ((σ2.2.2.1 40 p1.toNatClampNeg) + 1))) ∧ (¬ 0 ≤ r2 → post 0 σ2)) (rf_ui σ 61 0)
set_option maxRecDepth 100000 in
set_option maxHeartbeats 4000000 in
theorem c_X12_readCond {l : Launch} {P : hw_G} {o : Nat} {ad : Nat → Nat} {σ : rf_S} {p1 : Int32} {post : Int32 → rf_S → Prop} (h : wp_X12_readCond post σ p1) : Met l yX12_readCond [Cond.code yX12_readCond cX12_readCond 3 (some .boolean)] rm_X12_readCond (rf_Pc P o ad σ [.ref o, .int p1]) (rf_Qi P o ad post) 0 0 (rf_A o ad) := by
  refine rf_met (by decide) rfl (Nat.le_of_ble_eq_true rfl) ?_
  intro p e s m below meth c ls hC hT hl
  obtain ⟨hx, hb, hml, hown, hK, -, -⟩ := id hC
  have hl : lv_has ls 3 [(0, .ref o), (1, .int p1)] := hl
  refine lv_aload_n hx hb dX12_readCond_0 rfl (lv_at hl 0 rfl) ?_
  refine lv_iconst (v := 0) hx hb dX12_readCond_1 (by decide) ?_
  refine rf_puti hx hb hK hT hown 61 (by decide) kfX12_409 rfl rfl dX12_readCond_2 (fun H locs hT => ?_)
  refine lv_aload_n hx hb dX12_readCond_5 rfl (lv_at hl 0 rfl) ?_
  obtain ⟨d9, hd9, h⟩ := h
  refine rf_calli (rf_runV hx hb hml hown hK hT (c_X12_anyOf d9 h) rfl rfl klX12_412 ki_X12_anyOf ks_X12_anyOf kn_X12 kc_X12_anyOf 0 ⟨rfl, by decide, by decide, by decide +kernel⟩ ⟨by show _ + d9 + 1 ≤ _; exact Nat.le_trans (Nat.add_le_add_right (Nat.add_le_add_left hd9 _) 1) (by decide), by show _ + (_ + 40 * d9) ≤ _; exact Nat.le_trans (Nat.add_le_add_left (Nat.add_le_add_left (Nat.mul_le_mul_left 40 hd9) _) _) (by decide)⟩ rfl hl.1 rfl (Nat.le_of_ble_eq_true rfl) ⟨Nat.le_refl _, Nat.le_refl _⟩ dX12_readCond_6) hT (fun r2 σ2 H locs h hT => ?_)
  refine lv_istore_n (lv' := [(2, _), (0, _), (1, _)]) hx hb dX12_readCond_9 rfl hl (by decide) rfl (fun ls hl => ?_)
  refine lv_iload_n hx hb dX12_readCond_10 rfl (lv_at hl 0 rfl) ?_
  refine lv_if_ge (tgt := 16) hx hb dX12_readCond_11 (by decide) (fun hc => ?_) (fun hc => ?_)
  · have h := h.1 hc
    refine lv_aload_n hx hb dX12_readCond_16 rfl (lv_at hl 1 rfl) ?_
    refine rf_get hx hb hK hT hown 41 (by decide) kfX12_217 (v := .ref (ad 41)) rfl dX12_readCond_17 ?_
    refine lv_bipush (v := 6) hx hb dX12_readCond_20 (by decide) ?_
    refine lv_iload_n hx hb dX12_readCond_22 rfl (lv_at hl 2 rfl) ?_
    refine lv_imul hx hb dX12_readCond_23 ?_
    refine lv_aload_n hx hb dX12_readCond_24 rfl (lv_at hl 1 rfl) ?_
    refine rf_get hx hb hK hT hown 40 (by decide) kfX12_214 (v := .ref (ad 40)) rfl dX12_readCond_25 ?_
    refine lv_iload_n hx hb dX12_readCond_28 rfl (lv_at hl 2 rfl) ?_
    obtain ⟨hi, h⟩ := h
    refine rf_iald hx hb hK hT 40 (by decide) rfl hi (v := σ2.2.2.1 40 p1.toNatClampNeg) rfl dX12_readCond_29 ?_
    refine lv_iadd hx hb dX12_readCond_30 ?_
    refine lv_iload_n hx hb dX12_readCond_31 rfl (lv_at hl 0 rfl) ?_
    obtain ⟨hi, h⟩ := h
    refine rf_iast hx hb hK hT 41 (by decide) rfl hi dX12_readCond_32 (fun H locs hT => ?_)
    refine lv_aload_n hx hb dX12_readCond_33 rfl (lv_at hl 1 rfl) ?_
    refine rf_get hx hb hK hT hown 40 (by decide) kfX12_214 (v := .ref (ad 40)) rfl dX12_readCond_34 ?_
    refine lv_iload_n hx hb dX12_readCond_37 rfl (lv_at hl 2 rfl) ?_
    refine lv_dup2_11 hx hb dX12_readCond_38 rfl rfl ?_
    obtain ⟨hi, h⟩ := h
    refine rf_iald hx hb hK hT 40 (by decide) rfl hi (v := σ2.2.2.1 40 p1.toNatClampNeg) rfl dX12_readCond_39 ?_
    refine lv_iconst (v := 1) hx hb dX12_readCond_40 (by decide) ?_
    refine lv_iadd hx hb dX12_readCond_41 ?_
    obtain ⟨hi, h⟩ := h
    refine rf_iast hx hb hK hT 40 (by decide) rfl hi dX12_readCond_42 (fun H locs hT => ?_)
    refine lv_iconst (v := 1) hx hb dX12_readCond_43 (by decide) ?_
    exact rf_zret hC hT rfl h dX12_readCond_44
  · have h := h.2 hc
    refine lv_iconst (v := 0) hx hb dX12_readCond_14 (by decide) ?_
    exact rf_zret hC hT rfl h dX12_readCond_15
/-! X12_readWhat -/
abbrev rm_X12_readWhat : Room := { frames := 68, cells := 0, slots := 0, locals := 2584 }
def w_X12_readWhat_157 (post : Int32 → rf_S → Prop) (σ : rf_S) (y0 : Int32) : Prop := narrow .boolean (.int y0) = .int y0 ∧ post y0 σ
section
variable {p : Program} {l : Launch} {e : Env} {s : State} {m : MethodId} {args : Array Value} {below : List Frame} {meth : Method} {c : Code} {P : hw_G} {o : Nat} {ad : Nat → Nat}
set_option maxRecDepth 100000 in
set_option maxHeartbeats 4000000 in
theorem t_X12_readWhat_157 {post : Int32 → rf_S → Prop} (hC : rf_C P RX12 p s m meth c cX12_readWhat 2 (some .boolean)) (σ : rf_S) (y0 : Int32) (H : Heap) (locs : List Loc) (ls : Array Slot) (h : w_X12_readWhat_157 post σ y0) (hT : rf_T P s (rf_A o ad) o ad σ H locs) (hl : lv_has ls 2 []) : W p l e rm_X12_readWhat s m args below meth c H locs 0 0 (MQ below (rf_Qi P o ad post) args s 0 0 (rf_A o ad)) (F0 m 157 ls [.int y0]) := by
  obtain ⟨hx, hb, hml, hown, hK, -, -⟩ := id hC
  exact rf_zret hC hT h.1 h.2 dX12_readWhat_157
end
def w_X12_readWhat_156 (post : Int32 → rf_S → Prop) (σ : rf_S)  : Prop := w_X12_readWhat_157 post σ 0
section
variable {p : Program} {l : Launch} {e : Env} {s : State} {m : MethodId} {args : Array Value} {below : List Frame} {meth : Method} {c : Code} {P : hw_G} {o : Nat} {ad : Nat → Nat}
set_option maxRecDepth 100000 in
set_option maxHeartbeats 4000000 in
theorem t_X12_readWhat_156 {post : Int32 → rf_S → Prop} (hC : rf_C P RX12 p s m meth c cX12_readWhat 2 (some .boolean)) (σ : rf_S)  (H : Heap) (locs : List Loc) (ls : Array Slot) (h : w_X12_readWhat_156 post σ ) (hT : rf_T P s (rf_A o ad) o ad σ H locs) (hl : lv_has ls 2 []) : W p l e rm_X12_readWhat s m args below meth c H locs 0 0 (MQ below (rf_Qi P o ad post) args s 0 0 (rf_A o ad)) (F0 m 156 ls []) := by
  obtain ⟨hx, hb, hml, hown, hK, -, -⟩ := id hC
  refine lv_iconst (v := 0) hx hb dX12_readWhat_156 (by decide) ?_
  exact t_X12_readWhat_157 hC σ 0 _ _ _ h hT (lv_sub hl [] rfl)
end
def w_X12_readWhat_136 (post : Int32 → rf_S → Prop) (σ : rf_S) (x1 : Int32) : Prop := wp_X12_must (fun r29 σ29 => (r29 = 0 → w_X12_readWhat_156 post σ29) ∧ (¬ r29 = 0 → wp_X12_readCond (fun r30 σ30 => (r30 = 0 → w_X12_readWhat_156 post σ30) ∧ (¬ r30 = 0 → w_X12_readWhat_157 post σ30 1)) σ29 x1)) σ 5
section
variable {p : Program} {l : Launch} {e : Env} {s : State} {m : MethodId} {args : Array Value} {below : List Frame} {meth : Method} {c : Code} {P : hw_G} {o : Nat} {ad : Nat → Nat}
set_option maxRecDepth 100000 in
set_option maxHeartbeats 4000000 in
theorem t_X12_readWhat_136 {post : Int32 → rf_S → Prop} (hC : rf_C P RX12 p s m meth c cX12_readWhat 2 (some .boolean)) (σ : rf_S) (x1 : Int32) (H : Heap) (locs : List Loc) (ls : Array Slot) (h : w_X12_readWhat_136 post σ x1) (hT : rf_T P s (rf_A o ad) o ad σ H locs) (hl : lv_has ls 2 [(0, .ref o), (1, .int x1)]) : W p l e rm_X12_readWhat s m args below meth c H locs 0 0 (MQ below (rf_Qi P o ad post) args s 0 0 (rf_A o ad)) (F0 m 136 ls []) := by
  obtain ⟨hx, hb, hml, hown, hK, -, -⟩ := id hC
  refine lv_aload_n hx hb dX12_readWhat_136 rfl (lv_at hl 0 rfl) ?_
  refine lv_iconst (v := 5) hx hb dX12_readWhat_137 (by decide) ?_
  refine rf_calli (rf_runV hx hb hml hown hK hT (c_X12_must h) rfl rfl klX12_395 ki_X12_must ks_X12_must kn_X12 kc_X12_must 1 ⟨rfl, by decide, by decide, by decide +kernel⟩ ⟨by decide, by decide⟩ rfl hl.1 rfl (Nat.le_of_ble_eq_true rfl) ⟨Nat.le_refl _, Nat.le_refl _⟩ dX12_readWhat_138) hT (fun r29 σ29 H locs h hT => ?_)
  refine lv_if_eq (tgt := 156) hx hb dX12_readWhat_141 (by decide) (fun hc => ?_) (fun hc => ?_)
  · have h := h.1 hc
    exact t_X12_readWhat_156 hC σ29 _ _ _ h hT (lv_sub hl [] rfl)
  · have h := h.2 hc
    refine lv_aload_n hx hb dX12_readWhat_144 rfl (lv_at hl 0 rfl) ?_
    refine lv_iload_n hx hb dX12_readWhat_145 rfl (lv_at hl 1 rfl) ?_
    refine rf_calli (rf_runV hx hb hml hown hK hT (c_X12_readCond h) rfl rfl klX12_406 ki_X12_readCond ks_X12_readCond kn_X12 kc_X12_readCond 1 ⟨rfl, by decide, by decide, by decide +kernel⟩ ⟨by decide, by decide⟩ rfl hl.1 rfl (Nat.le_of_ble_eq_true rfl) ⟨Nat.le_refl _, Nat.le_refl _⟩ dX12_readWhat_146) hT (fun r30 σ30 H locs h hT => ?_)
    refine lv_if_eq (tgt := 156) hx hb dX12_readWhat_149 (by decide) (fun hc => ?_) (fun hc => ?_)
    · have h := h.1 hc
      exact t_X12_readWhat_156 hC σ30 _ _ _ h hT (lv_sub hl [] rfl)
    · have h := h.2 hc
      refine lv_iconst (v := 1) hx hb dX12_readWhat_152 (by decide) ?_
      refine lv_goto (tgt := 157) hx hb dX12_readWhat_153 (by decide) ?_
      exact t_X12_readWhat_157 hC σ30 1 _ _ _ h hT (lv_sub hl [] rfl)
end
def w_X12_readWhat_83 (post : Int32 → rf_S → Prop) (σ : rf_S) (x1 : Int32) (y1 : Int32) (y2 : Int32) : Prop := wp_X12_mustNumber (fun r31 σ31 => (¬ r31 = 0 → vp_in x1 (rf_n 39) ∧ vp_in x1 (rf_n 38) ∧ ((σ31.2.2.1 38 x1.toNatClampNeg) = 0 → w_X12_readWhat_136 post (rf_ua σ31 39 x1.toNatClampNeg (σ31.1 60)) x1) ∧ (¬ (σ31.2.2.1 38 x1.toNatClampNeg) = 0 → wp_X12_isName (fun r32 σ32 => (¬ r32 = 0 → vp_in x1 (rf_n 36) ∧ wp_X12_next (fun σ33 => w_X12_readWhat_136 post σ33 x1) (rf_ub σ32 36 x1.toNatClampNeg (σ32.2.1 58))) ∧ (r32 = 0 → wp_X12_cant (fun r34 σ34 => narrow .boolean (.int r34) = .int r34 ∧ post r34 σ34) σ32)) (rf_ua σ31 39 x1.toNatClampNeg (σ31.1 60)))) ∧ (r31 = 0 → post 0 σ31)) σ y1 y2
section
variable {p : Program} {l : Launch} {e : Env} {s : State} {m : MethodId} {args : Array Value} {below : List Frame} {meth : Method} {c : Code} {P : hw_G} {o : Nat} {ad : Nat → Nat}
set_option maxRecDepth 100000 in
set_option maxHeartbeats 4000000 in
theorem t_X12_readWhat_83 {post : Int32 → rf_S → Prop} (hC : rf_C P RX12 p s m meth c cX12_readWhat 2 (some .boolean)) (σ : rf_S) (x1 : Int32) (y1 : Int32) (y2 : Int32) (H : Heap) (locs : List Loc) (ls : Array Slot) (h : w_X12_readWhat_83 post σ x1 y1 y2) (hT : rf_T P s (rf_A o ad) o ad σ H locs) (hl : lv_has ls 2 [(0, .ref o), (1, .int x1)]) : W p l e rm_X12_readWhat s m args below meth c H locs 0 0 (MQ below (rf_Qi P o ad post) args s 0 0 (rf_A o ad)) (F0 m 83 ls [.int y2, .int y1, .ref o]) := by
  obtain ⟨hx, hb, hml, hown, hK, -, -⟩ := id hC
  refine rf_calli (rf_runV hx hb hml hown hK hT (c_X12_mustNumber h) rfl rfl klX12_399 ki_X12_mustNumber ks_X12_mustNumber kn_X12 kc_X12_mustNumber 2 ⟨rfl, by decide, by decide, by decide +kernel⟩ ⟨by decide, by decide⟩ rfl hl.1 rfl (Nat.le_of_ble_eq_true rfl) ⟨Nat.le_refl _, Nat.le_refl _⟩ dX12_readWhat_83) hT (fun r31 σ31 H locs h hT => ?_)
  refine lv_if_ne (tgt := 91) hx hb dX12_readWhat_86 (by decide) (fun hc => ?_) (fun hc => ?_)
  · have h := h.1 hc
    refine lv_aload_n hx hb dX12_readWhat_91 rfl (lv_at hl 0 rfl) ?_
    refine rf_get hx hb hK hT hown 39 (by decide) kfX12_211 (v := .ref (ad 39)) rfl dX12_readWhat_92 ?_
    refine lv_iload_n hx hb dX12_readWhat_95 rfl (lv_at hl 1 rfl) ?_
    refine lv_aload_n hx hb dX12_readWhat_96 rfl (lv_at hl 0 rfl) ?_
    refine rf_get hx hb hK hT hown 60 (by decide) kfX12_365 (v := .int (σ31.1 60)) rfl dX12_readWhat_97 ?_
    obtain ⟨hi, h⟩ := h
    refine rf_iast hx hb hK hT 39 (by decide) rfl hi dX12_readWhat_100 (fun H locs hT => ?_)
    refine lv_aload_n hx hb dX12_readWhat_101 rfl (lv_at hl 0 rfl) ?_
    refine rf_get hx hb hK hT hown 38 (by decide) kfX12_208 (v := .ref (ad 38)) rfl dX12_readWhat_102 ?_
    refine lv_iload_n hx hb dX12_readWhat_105 rfl (lv_at hl 1 rfl) ?_
    obtain ⟨hi, h⟩ := h
    refine rf_iald hx hb hK hT 38 (by decide) rfl hi (v := σ31.2.2.1 38 x1.toNatClampNeg) rfl dX12_readWhat_106 ?_
    refine lv_if_eq (tgt := 136) hx hb dX12_readWhat_107 (by decide) (fun hc => ?_) (fun hc => ?_)
    · have h := h.1 hc
      exact t_X12_readWhat_136 hC (rf_ua σ31 39 x1.toNatClampNeg (σ31.1 60)) x1 _ _ _ h hT (lv_sub hl [0, 1] rfl)
    · have h := h.2 hc
      refine lv_aload_n hx hb dX12_readWhat_110 rfl (lv_at hl 0 rfl) ?_
      refine rf_calli (rf_runV hx hb hml hown hK hT (c_X12_isName h) rfl rfl klX12_386 ki_X12_isName ks_X12_isName kn_X12 kc_X12_isName 0 ⟨rfl, by decide, by decide, by decide +kernel⟩ ⟨by decide, by decide⟩ rfl hl.1 rfl (Nat.le_of_ble_eq_true rfl) ⟨Nat.le_refl _, Nat.le_refl _⟩ dX12_readWhat_111) hT (fun r32 σ32 H locs h hT => ?_)
      refine lv_if_ne (tgt := 122) hx hb dX12_readWhat_114 (by decide) (fun hc => ?_) (fun hc => ?_)
      · have h := h.1 hc
        refine lv_aload_n hx hb dX12_readWhat_122 rfl (lv_at hl 0 rfl) ?_
        refine rf_get hx hb hK hT hown 36 (by decide) kfX12_202 (v := .ref (ad 36)) rfl dX12_readWhat_123 ?_
        refine lv_iload_n hx hb dX12_readWhat_126 rfl (lv_at hl 1 rfl) ?_
        refine lv_aload_n hx hb dX12_readWhat_127 rfl (lv_at hl 0 rfl) ?_
        refine rf_get hx hb hK hT hown 58 (by decide) kfX12_337 (v := .long (σ32.2.1 58)) rfl dX12_readWhat_128 ?_
        obtain ⟨hi, h⟩ := h
        refine rf_last hx hb hK hT 36 (by decide) rfl hi dX12_readWhat_131 (fun H locs hT => ?_)
        refine lv_aload_n hx hb dX12_readWhat_132 rfl (lv_at hl 0 rfl) ?_
        refine rf_callv (rf_runV hx hb hml hown hK hT (c_X12_next h) rfl rfl klX12_359 ki_X12_next ks_X12_next kn_X12 kc_X12_next 0 ⟨rfl, by decide, by decide, by decide +kernel⟩ ⟨by decide, by decide⟩ rfl hl.1 rfl (Nat.le_of_ble_eq_true rfl) ⟨Nat.le_refl _, Nat.le_refl _⟩ dX12_readWhat_133) hT (fun σ33 H locs h hT => ?_)
        exact t_X12_readWhat_136 hC σ33 x1 _ _ _ h hT (lv_sub hl [0, 1] rfl)
      · have h := h.2 hc
        refine lv_aload_n hx hb dX12_readWhat_117 rfl (lv_at hl 0 rfl) ?_
        refine rf_calli (rf_runV hx hb hml hown hK hT (c_X12_cant h) rfl rfl klX12_356 ki_X12_cant ks_X12_cant kn_X12 kc_X12_cant 0 ⟨rfl, by decide, by decide, by decide +kernel⟩ ⟨by decide, by decide⟩ rfl hl.1 rfl (Nat.le_of_ble_eq_true rfl) ⟨Nat.le_refl _, Nat.le_refl _⟩ dX12_readWhat_118) hT (fun r34 σ34 H locs h hT => ?_)
        exact rf_zret hC hT h.1 h.2 dX12_readWhat_121
  · have h := h.2 hc
    refine lv_iconst (v := 0) hx hb dX12_readWhat_89 (by decide) ?_
    exact rf_zret hC hT rfl h dX12_readWhat_90
end
def w_X12_readWhat_57 (post : Int32 → rf_S → Prop) (σ : rf_S) (x1 : Int32) (y1 : Int32) (y2 : Int32) : Prop := vp_in y1 (rf_n 38) ∧ wp_X12_next (fun σ35 => vp_in x1 (rf_n 38) ∧ (¬ (σ35.2.2.1 38 x1.toNatClampNeg) = 2 → w_X12_readWhat_83 post σ35 x1 1 1000) ∧ ((σ35.2.2.1 38 x1.toNatClampNeg) = 2 → w_X12_readWhat_83 post σ35 x1 1 2147483647)) (rf_ua σ 38 y1.toNatClampNeg y2)
section
variable {p : Program} {l : Launch} {e : Env} {s : State} {m : MethodId} {args : Array Value} {below : List Frame} {meth : Method} {c : Code} {P : hw_G} {o : Nat} {ad : Nat → Nat}
set_option maxRecDepth 100000 in
set_option maxHeartbeats 4000000 in
theorem t_X12_readWhat_57 {post : Int32 → rf_S → Prop} (hC : rf_C P RX12 p s m meth c cX12_readWhat 2 (some .boolean)) (σ : rf_S) (x1 : Int32) (y1 : Int32) (y2 : Int32) (H : Heap) (locs : List Loc) (ls : Array Slot) (h : w_X12_readWhat_57 post σ x1 y1 y2) (hT : rf_T P s (rf_A o ad) o ad σ H locs) (hl : lv_has ls 2 [(0, .ref o), (1, .int x1)]) : W p l e rm_X12_readWhat s m args below meth c H locs 0 0 (MQ below (rf_Qi P o ad post) args s 0 0 (rf_A o ad)) (F0 m 57 ls [.int y2, .int y1, .ref (ad 38)]) := by
  obtain ⟨hx, hb, hml, hown, hK, -, -⟩ := id hC
  obtain ⟨hi, h⟩ := h
  refine rf_iast hx hb hK hT 38 (by decide) rfl hi dX12_readWhat_57 (fun H locs hT => ?_)
  refine lv_aload_n hx hb dX12_readWhat_58 rfl (lv_at hl 0 rfl) ?_
  refine rf_callv (rf_runV hx hb hml hown hK hT (c_X12_next h) rfl rfl klX12_359 ki_X12_next ks_X12_next kn_X12 kc_X12_next 0 ⟨rfl, by decide, by decide, by decide +kernel⟩ ⟨by decide, by decide⟩ rfl hl.1 rfl (Nat.le_of_ble_eq_true rfl) ⟨Nat.le_refl _, Nat.le_refl _⟩ dX12_readWhat_59) hT (fun σ35 H locs h hT => ?_)
  refine lv_aload_n hx hb dX12_readWhat_62 rfl (lv_at hl 0 rfl) ?_
  refine lv_iconst (v := 1) hx hb dX12_readWhat_63 (by decide) ?_
  refine lv_aload_n hx hb dX12_readWhat_64 rfl (lv_at hl 0 rfl) ?_
  refine rf_get hx hb hK hT hown 38 (by decide) kfX12_208 (v := .ref (ad 38)) rfl dX12_readWhat_65 ?_
  refine lv_iload_n hx hb dX12_readWhat_68 rfl (lv_at hl 1 rfl) ?_
  obtain ⟨hi, h⟩ := h
  refine rf_iald hx hb hK hT 38 (by decide) rfl hi (v := σ35.2.2.1 38 x1.toNatClampNeg) rfl dX12_readWhat_69 ?_
  refine lv_iconst (v := 2) hx hb dX12_readWhat_70 (by decide) ?_
  refine lv_icmp_ne (tgt := 80) hx hb dX12_readWhat_71 (by decide) (fun hc => ?_) (fun hc => ?_)
  · have h := h.1 hc
    refine lv_sipush (v := 1000) hx hb dX12_readWhat_80 (by decide) ?_
    exact t_X12_readWhat_83 hC σ35 x1 1 1000 _ _ _ h hT (lv_sub hl [0, 1] rfl)
  · have h := h.2 hc
    refine lv_ldcw (v := 2147483647) hx hb hown (hK.word kkX12_405 rfl) dX12_readWhat_74 ?_
    refine lv_goto (tgt := 83) hx hb dX12_readWhat_77 (by decide) ?_
    exact t_X12_readWhat_83 hC σ35 x1 1 2147483647 _ _ _ h hT (lv_sub hl [0, 1] rfl)
end
def w_X12_readWhat_26 (post : Int32 → rf_S → Prop) (σ : rf_S) (x1 : Int32) : Prop := wp_X12_isWord (fun r36 σ36 => (r36 = 0 → wp_X12_isWord (fun r37 σ37 => (r37 = 0 → w_X12_readWhat_57 post σ37 x1 x1 2) ∧ (¬ r37 = 0 → w_X12_readWhat_57 post σ37 x1 x1 1)) σ36 6) ∧ (¬ r36 = 0 → w_X12_readWhat_57 post σ36 x1 x1 0)) σ 4
section
variable {p : Program} {l : Launch} {e : Env} {s : State} {m : MethodId} {args : Array Value} {below : List Frame} {meth : Method} {c : Code} {P : hw_G} {o : Nat} {ad : Nat → Nat}
set_option maxRecDepth 100000 in
set_option maxHeartbeats 4000000 in
theorem t_X12_readWhat_26 {post : Int32 → rf_S → Prop} (hC : rf_C P RX12 p s m meth c cX12_readWhat 2 (some .boolean)) (σ : rf_S) (x1 : Int32) (H : Heap) (locs : List Loc) (ls : Array Slot) (h : w_X12_readWhat_26 post σ x1) (hT : rf_T P s (rf_A o ad) o ad σ H locs) (hl : lv_has ls 2 [(0, .ref o), (1, .int x1)]) : W p l e rm_X12_readWhat s m args below meth c H locs 0 0 (MQ below (rf_Qi P o ad post) args s 0 0 (rf_A o ad)) (F0 m 26 ls []) := by
  obtain ⟨hx, hb, hml, hown, hK, -, -⟩ := id hC
  refine lv_aload_n hx hb dX12_readWhat_26 rfl (lv_at hl 0 rfl) ?_
  refine rf_get hx hb hK hT hown 38 (by decide) kfX12_208 (v := .ref (ad 38)) rfl dX12_readWhat_27 ?_
  refine lv_iload_n hx hb dX12_readWhat_30 rfl (lv_at hl 1 rfl) ?_
  refine lv_aload_n hx hb dX12_readWhat_31 rfl (lv_at hl 0 rfl) ?_
  refine lv_iconst (v := 4) hx hb dX12_readWhat_32 (by decide) ?_
  refine rf_calli (rf_runV hx hb hml hown hK hT (c_X12_isWord h) rfl rfl klX12_353 ki_X12_isWord ks_X12_isWord kn_X12 kc_X12_isWord 1 ⟨rfl, by decide, by decide, by decide +kernel⟩ ⟨by decide, by decide⟩ rfl hl.1 rfl (Nat.le_of_ble_eq_true rfl) ⟨Nat.le_refl _, Nat.le_refl _⟩ dX12_readWhat_33) hT (fun r36 σ36 H locs h hT => ?_)
  refine lv_if_eq (tgt := 43) hx hb dX12_readWhat_36 (by decide) (fun hc => ?_) (fun hc => ?_)
  · have h := h.1 hc
    refine lv_aload_n hx hb dX12_readWhat_43 rfl (lv_at hl 0 rfl) ?_
    refine lv_bipush (v := 6) hx hb dX12_readWhat_44 (by decide) ?_
    refine rf_calli (rf_runV hx hb hml hown hK hT (c_X12_isWord h) rfl rfl klX12_353 ki_X12_isWord ks_X12_isWord kn_X12 kc_X12_isWord 1 ⟨rfl, by decide, by decide, by decide +kernel⟩ ⟨by decide, by decide⟩ rfl hl.1 rfl (Nat.le_of_ble_eq_true rfl) ⟨Nat.le_refl _, Nat.le_refl _⟩ dX12_readWhat_46) hT (fun r37 σ37 H locs h hT => ?_)
    refine lv_if_eq (tgt := 56) hx hb dX12_readWhat_49 (by decide) (fun hc => ?_) (fun hc => ?_)
    · have h := h.1 hc
      refine lv_iconst (v := 2) hx hb dX12_readWhat_56 (by decide) ?_
      exact t_X12_readWhat_57 hC σ37 x1 x1 2 _ _ _ h hT (lv_sub hl [0, 1] rfl)
    · have h := h.2 hc
      refine lv_iconst (v := 1) hx hb dX12_readWhat_52 (by decide) ?_
      refine lv_goto (tgt := 57) hx hb dX12_readWhat_53 (by decide) ?_
      exact t_X12_readWhat_57 hC σ37 x1 x1 1 _ _ _ h hT (lv_sub hl [0, 1] rfl)
  · have h := h.2 hc
    refine lv_iconst (v := 0) hx hb dX12_readWhat_39 (by decide) ?_
    refine lv_goto (tgt := 57) hx hb dX12_readWhat_40 (by decide) ?_
    exact t_X12_readWhat_57 hC σ36 x1 x1 0 _ _ _ h hT (lv_sub hl [0, 1] rfl)
end
def w_X12_readWhat_331 (post : Int32 → rf_S → Prop) (σ : rf_S) (y0 : Int32) : Prop := narrow .boolean (.int y0) = .int y0 ∧ post y0 σ
section
variable {p : Program} {l : Launch} {e : Env} {s : State} {m : MethodId} {args : Array Value} {below : List Frame} {meth : Method} {c : Code} {P : hw_G} {o : Nat} {ad : Nat → Nat}
set_option maxRecDepth 100000 in
set_option maxHeartbeats 4000000 in
theorem t_X12_readWhat_331 {post : Int32 → rf_S → Prop} (hC : rf_C P RX12 p s m meth c cX12_readWhat 2 (some .boolean)) (σ : rf_S) (y0 : Int32) (H : Heap) (locs : List Loc) (ls : Array Slot) (h : w_X12_readWhat_331 post σ y0) (hT : rf_T P s (rf_A o ad) o ad σ H locs) (hl : lv_has ls 2 []) : W p l e rm_X12_readWhat s m args below meth c H locs 0 0 (MQ below (rf_Qi P o ad post) args s 0 0 (rf_A o ad)) (F0 m 331 ls [.int y0]) := by
  obtain ⟨hx, hb, hml, hown, hK, -, -⟩ := id hC
  exact rf_zret hC hT h.1 h.2 dX12_readWhat_331
end
def w_X12_readWhat_244 (post : Int32 → rf_S → Prop) : Nat → rf_S → Int32 → Prop
  | 0, _, _ => False
  | n + 1, σ, x1 => wp_X12_isWord (fun r38 σ38 => (r38 = 0 → wp_X12_isWord (fun r39 σ39 => (¬ r39 = 0 → wp_X12_next (fun σ40 => ∃ d9, d9 ≤ 60 ∧ wp_X12_anyOf d9 (fun r41 σ41 => vp_in x1 (rf_n 42) ∧ vp_in x1 (rf_n 42) ∧ (((rf_ua σ41 42 x1.toNatClampNeg r41).2.2.1 42 x1.toNatClampNeg) < 0 → w_X12_readWhat_331 post (rf_ua σ41 42 x1.toNatClampNeg r41) 0) ∧ (¬ ((rf_ua σ41 42 x1.toNatClampNeg r41).2.2.1 42 x1.toNatClampNeg) < 0 → w_X12_readWhat_331 post (rf_ua σ41 42 x1.toNatClampNeg r41) 1)) (rf_ui σ40 61 0)) σ39) ∧ (r39 = 0 → post 1 σ39)) σ38 10) ∧ (¬ r38 = 0 → vp_in x1 (rf_n 40) ∧ (¬ (σ38.2.2.1 40 x1.toNatClampNeg) = 5 → wp_X12_next (fun σ42 => wp_X12_readCond (fun r43 σ43 => (¬ r43 = 0 → w_X12_readWhat_244 post n σ43 x1) ∧ (r43 = 0 → post 0 σ43)) σ42 x1) σ38) ∧ ((σ38.2.2.1 40 x1.toNatClampNeg) = 5 → wp_X12_wrong (fun r44 σ44 => narrow .boolean (.int r44) = .int r44 ∧ post r44 σ44) σ38 4 (σ38.1 55)))) σ 9
section
variable {p : Program} {l : Launch} {e : Env} {s : State} {m : MethodId} {args : Array Value} {below : List Frame} {meth : Method} {c : Code} {P : hw_G} {o : Nat} {ad : Nat → Nat}
set_option maxRecDepth 100000 in
set_option maxHeartbeats 4000000 in
theorem t_X12_readWhat_244 {post : Int32 → rf_S → Prop} (hC : rf_C P RX12 p s m meth c cX12_readWhat 2 (some .boolean)) : ∀ (n : Nat) (σ : rf_S) (x1 : Int32) (H : Heap) (locs : List Loc) (ls : Array Slot), w_X12_readWhat_244 post n σ x1 → rf_T P s (rf_A o ad) o ad σ H locs → lv_has ls 2 [(0, .ref o), (1, .int x1)] → W p l e rm_X12_readWhat s m args below meth c H locs 0 0 (MQ below (rf_Qi P o ad post) args s 0 0 (rf_A o ad)) (F0 m 244 ls []) := by
  obtain ⟨hx, hb, hml, hown, hK, -, -⟩ := id hC
  intro n
  induction n with
  | zero => intro σ x1 H locs ls h; exact False.elim h
  | succ n ih =>
    intro σ x1 H locs ls h hT hl
    refine lv_aload_n hx hb dX12_readWhat_244 rfl (lv_at hl 0 rfl) ?_
    refine lv_bipush (v := 9) hx hb dX12_readWhat_245 (by decide) ?_
    refine rf_calli (rf_runV hx hb hml hown hK hT (c_X12_isWord h) rfl rfl klX12_353 ki_X12_isWord ks_X12_isWord kn_X12 kc_X12_isWord 1 ⟨rfl, by decide, by decide, by decide +kernel⟩ ⟨by decide, by decide⟩ rfl hl.1 rfl (Nat.le_of_ble_eq_true rfl) ⟨Nat.le_refl _, Nat.le_refl _⟩ dX12_readWhat_247) hT (fun r38 σ38 H locs h hT => ?_)
    refine lv_if_eq (tgt := 287) hx hb dX12_readWhat_250 (by decide) (fun hc => ?_) (fun hc => ?_)
    · have h := h.1 hc
      refine lv_aload_n hx hb dX12_readWhat_287 rfl (lv_at hl 0 rfl) ?_
      refine lv_bipush (v := 10) hx hb dX12_readWhat_288 (by decide) ?_
      refine rf_calli (rf_runV hx hb hml hown hK hT (c_X12_isWord h) rfl rfl klX12_353 ki_X12_isWord ks_X12_isWord kn_X12 kc_X12_isWord 1 ⟨rfl, by decide, by decide, by decide +kernel⟩ ⟨by decide, by decide⟩ rfl hl.1 rfl (Nat.le_of_ble_eq_true rfl) ⟨Nat.le_refl _, Nat.le_refl _⟩ dX12_readWhat_290) hT (fun r39 σ39 H locs h hT => ?_)
      refine lv_if_ne (tgt := 298) hx hb dX12_readWhat_293 (by decide) (fun hc => ?_) (fun hc => ?_)
      · have h := h.1 hc
        refine lv_aload_n hx hb dX12_readWhat_298 rfl (lv_at hl 0 rfl) ?_
        refine rf_callv (rf_runV hx hb hml hown hK hT (c_X12_next h) rfl rfl klX12_359 ki_X12_next ks_X12_next kn_X12 kc_X12_next 0 ⟨rfl, by decide, by decide, by decide +kernel⟩ ⟨by decide, by decide⟩ rfl hl.1 rfl (Nat.le_of_ble_eq_true rfl) ⟨Nat.le_refl _, Nat.le_refl _⟩ dX12_readWhat_299) hT (fun σ40 H locs h hT => ?_)
        refine lv_aload_n hx hb dX12_readWhat_302 rfl (lv_at hl 0 rfl) ?_
        refine lv_iconst (v := 0) hx hb dX12_readWhat_303 (by decide) ?_
        refine rf_puti hx hb hK hT hown 61 (by decide) kfX12_409 rfl rfl dX12_readWhat_304 (fun H locs hT => ?_)
        refine lv_aload_n hx hb dX12_readWhat_307 rfl (lv_at hl 0 rfl) ?_
        refine rf_get hx hb hK hT hown 42 (by decide) kfX12_220 (v := .ref (ad 42)) rfl dX12_readWhat_308 ?_
        refine lv_iload_n hx hb dX12_readWhat_311 rfl (lv_at hl 1 rfl) ?_
        refine lv_aload_n hx hb dX12_readWhat_312 rfl (lv_at hl 0 rfl) ?_
        obtain ⟨d9, hd9, h⟩ := h
        refine rf_calli (rf_runV hx hb hml hown hK hT (c_X12_anyOf d9 h) rfl rfl klX12_412 ki_X12_anyOf ks_X12_anyOf kn_X12 kc_X12_anyOf 0 ⟨rfl, by decide, by decide, by decide +kernel⟩ ⟨by show _ + d9 + 1 ≤ _; exact Nat.le_trans (Nat.add_le_add_right (Nat.add_le_add_left hd9 _) 1) (by decide), by show _ + (_ + 40 * d9) ≤ _; exact Nat.le_trans (Nat.add_le_add_left (Nat.add_le_add_left (Nat.mul_le_mul_left 40 hd9) _) _) (by decide)⟩ rfl hl.1 rfl (Nat.le_of_ble_eq_true rfl) ⟨Nat.le_refl _, Nat.le_refl _⟩ dX12_readWhat_313) hT (fun r41 σ41 H locs h hT => ?_)
        obtain ⟨hi, h⟩ := h
        refine rf_iast hx hb hK hT 42 (by decide) rfl hi dX12_readWhat_316 (fun H locs hT => ?_)
        refine lv_aload_n hx hb dX12_readWhat_317 rfl (lv_at hl 0 rfl) ?_
        refine rf_get hx hb hK hT hown 42 (by decide) kfX12_220 (v := .ref (ad 42)) rfl dX12_readWhat_318 ?_
        refine lv_iload_n hx hb dX12_readWhat_321 rfl (lv_at hl 1 rfl) ?_
        obtain ⟨hi, h⟩ := h
        refine rf_iald hx hb hK hT 42 (by decide) rfl hi (v := (rf_ua σ41 42 x1.toNatClampNeg r41).2.2.1 42 x1.toNatClampNeg) rfl dX12_readWhat_322 ?_
        refine lv_if_lt (tgt := 330) hx hb dX12_readWhat_323 (by decide) (fun hc => ?_) (fun hc => ?_)
        · have h := h.1 hc
          refine lv_iconst (v := 0) hx hb dX12_readWhat_330 (by decide) ?_
          exact t_X12_readWhat_331 hC (rf_ua σ41 42 x1.toNatClampNeg r41) 0 _ _ _ h hT (lv_sub hl [] rfl)
        · have h := h.2 hc
          refine lv_iconst (v := 1) hx hb dX12_readWhat_326 (by decide) ?_
          refine lv_goto (tgt := 331) hx hb dX12_readWhat_327 (by decide) ?_
          exact t_X12_readWhat_331 hC (rf_ua σ41 42 x1.toNatClampNeg r41) 1 _ _ _ h hT (lv_sub hl [] rfl)
      · have h := h.2 hc
        refine lv_iconst (v := 1) hx hb dX12_readWhat_296 (by decide) ?_
        exact rf_zret hC hT rfl h dX12_readWhat_297
    · have h := h.2 hc
      refine lv_aload_n hx hb dX12_readWhat_253 rfl (lv_at hl 0 rfl) ?_
      refine rf_get hx hb hK hT hown 40 (by decide) kfX12_214 (v := .ref (ad 40)) rfl dX12_readWhat_254 ?_
      refine lv_iload_n hx hb dX12_readWhat_257 rfl (lv_at hl 1 rfl) ?_
      obtain ⟨hi, h⟩ := h
      refine rf_iald hx hb hK hT 40 (by decide) rfl hi (v := σ38.2.2.1 40 x1.toNatClampNeg) rfl dX12_readWhat_258 ?_
      refine lv_iconst (v := 5) hx hb dX12_readWhat_259 (by decide) ?_
      refine lv_icmp_ne (tgt := 273) hx hb dX12_readWhat_260 (by decide) (fun hc => ?_) (fun hc => ?_)
      · have h := h.1 hc
        refine lv_aload_n hx hb dX12_readWhat_273 rfl (lv_at hl 0 rfl) ?_
        refine rf_callv (rf_runV hx hb hml hown hK hT (c_X12_next h) rfl rfl klX12_359 ki_X12_next ks_X12_next kn_X12 kc_X12_next 0 ⟨rfl, by decide, by decide, by decide +kernel⟩ ⟨by decide, by decide⟩ rfl hl.1 rfl (Nat.le_of_ble_eq_true rfl) ⟨Nat.le_refl _, Nat.le_refl _⟩ dX12_readWhat_274) hT (fun σ42 H locs h hT => ?_)
        refine lv_aload_n hx hb dX12_readWhat_277 rfl (lv_at hl 0 rfl) ?_
        refine lv_iload_n hx hb dX12_readWhat_278 rfl (lv_at hl 1 rfl) ?_
        refine rf_calli (rf_runV hx hb hml hown hK hT (c_X12_readCond h) rfl rfl klX12_406 ki_X12_readCond ks_X12_readCond kn_X12 kc_X12_readCond 1 ⟨rfl, by decide, by decide, by decide +kernel⟩ ⟨by decide, by decide⟩ rfl hl.1 rfl (Nat.le_of_ble_eq_true rfl) ⟨Nat.le_refl _, Nat.le_refl _⟩ dX12_readWhat_279) hT (fun r43 σ43 H locs h hT => ?_)
        refine lv_if_ne (tgt := 244) hx hb dX12_readWhat_282 (by decide) (fun hc => ?_) (fun hc => ?_)
        · have h := h.1 hc
          exact ih σ43 x1 _ _ _ h hT (lv_sub hl [0, 1] rfl)
        · have h := h.2 hc
          refine lv_iconst (v := 0) hx hb dX12_readWhat_285 (by decide) ?_
          exact rf_zret hC hT rfl h dX12_readWhat_286
      · have h := h.2 hc
        refine lv_aload_n hx hb dX12_readWhat_263 rfl (lv_at hl 0 rfl) ?_
        refine lv_iconst (v := 4) hx hb dX12_readWhat_264 (by decide) ?_
        refine lv_aload_n hx hb dX12_readWhat_265 rfl (lv_at hl 0 rfl) ?_
        refine rf_get hx hb hK hT hown 55 (by decide) kfX12_313 (v := .int (σ38.1 55)) rfl dX12_readWhat_266 ?_
        refine rf_calli (rf_runV hx hb hml hown hK hT (c_X12_wrong h) rfl rfl klX12_111 ki_X12_wrong ks_X12_wrong kn_X12 kc_X12_wrong 2 ⟨rfl, by decide, by decide, by decide +kernel⟩ ⟨by decide, by decide⟩ rfl hl.1 rfl (Nat.le_of_ble_eq_true rfl) ⟨Nat.le_refl _, Nat.le_refl _⟩ dX12_readWhat_269) hT (fun r44 σ44 H locs h hT => ?_)
        exact rf_zret hC hT h.1 h.2 dX12_readWhat_272
end
def w_X12_readWhat_208 (post : Int32 → rf_S → Prop) (σ : rf_S) (y0 : Int32) : Prop := narrow .boolean (.int y0) = .int y0 ∧ post y0 σ
section
variable {p : Program} {l : Launch} {e : Env} {s : State} {m : MethodId} {args : Array Value} {below : List Frame} {meth : Method} {c : Code} {P : hw_G} {o : Nat} {ad : Nat → Nat}
set_option maxRecDepth 100000 in
set_option maxHeartbeats 4000000 in
theorem t_X12_readWhat_208 {post : Int32 → rf_S → Prop} (hC : rf_C P RX12 p s m meth c cX12_readWhat 2 (some .boolean)) (σ : rf_S) (y0 : Int32) (H : Heap) (locs : List Loc) (ls : Array Slot) (h : w_X12_readWhat_208 post σ y0) (hT : rf_T P s (rf_A o ad) o ad σ H locs) (hl : lv_has ls 2 []) : W p l e rm_X12_readWhat s m args below meth c H locs 0 0 (MQ below (rf_Qi P o ad post) args s 0 0 (rf_A o ad)) (F0 m 208 ls [.int y0]) := by
  obtain ⟨hx, hb, hml, hown, hK, -, -⟩ := id hC
  exact rf_zret hC hT h.1 h.2 dX12_readWhat_208
end
def w_X12_readWhat_207 (post : Int32 → rf_S → Prop) (σ : rf_S)  : Prop := w_X12_readWhat_208 post σ 0
section
variable {p : Program} {l : Launch} {e : Env} {s : State} {m : MethodId} {args : Array Value} {below : List Frame} {meth : Method} {c : Code} {P : hw_G} {o : Nat} {ad : Nat → Nat}
set_option maxRecDepth 100000 in
set_option maxHeartbeats 4000000 in
theorem t_X12_readWhat_207 {post : Int32 → rf_S → Prop} (hC : rf_C P RX12 p s m meth c cX12_readWhat 2 (some .boolean)) (σ : rf_S)  (H : Heap) (locs : List Loc) (ls : Array Slot) (h : w_X12_readWhat_207 post σ ) (hT : rf_T P s (rf_A o ad) o ad σ H locs) (hl : lv_has ls 2 []) : W p l e rm_X12_readWhat s m args below meth c H locs 0 0 (MQ below (rf_Qi P o ad post) args s 0 0 (rf_A o ad)) (F0 m 207 ls []) := by
  obtain ⟨hx, hb, hml, hown, hK, -, -⟩ := id hC
  refine lv_iconst (v := 0) hx hb dX12_readWhat_207 (by decide) ?_
  exact t_X12_readWhat_208 hC σ 0 _ _ _ h hT (lv_sub hl [] rfl)
end
def wp_X12_readWhat (post : Int32 → rf_S → Prop) (σ : rf_S) (p1 : Int32) : Prop := wp_X12_isWord (fun r45 σ45 => (¬ r45 = 0 → w_X12_readWhat_26 post σ45 p1) ∧ (r45 = 0 → wp_X12_isWord (fun r46 σ46 => (¬ r46 = 0 → w_X12_readWhat_26 post σ46 p1) ∧ (r46 = 0 → wp_X12_isWord (fun r47 σ47 => (r47 = 0 → wp_X12_isWord (fun r48 σ48 => (r48 = 0 → wp_X12_isWord (fun r49 σ49 => (¬ r49 = 0 → vp_in p1 (rf_n 38) ∧ wp_X12_next (fun σ50 => wp_X12_readCond (fun r51 σ51 => (¬ r51 = 0 → ∃ n9, w_X12_readWhat_244 post n9 σ51 p1) ∧ (r51 = 0 → post 0 σ51)) σ50 p1) (rf_ua σ49 38 p1.toNatClampNeg 3)) ∧ (r49 = 0 → wp_X12_cant (fun r52 σ52 => narrow .boolean (.int r52) = .int r52 ∧ post r52 σ52) σ49)) σ48 8) ∧ (¬ r48 = 0 → vp_in p1 (rf_n 38) ∧ wp_X12_next (fun σ53 => wp_X12_readCond (fun r54 σ54 => (r54 = 0 → w_X12_readWhat_207 post σ54) ∧ (¬ r54 = 0 → wp_X12_must (fun r55 σ55 => (r55 = 0 → w_X12_readWhat_207 post σ55) ∧ (¬ r55 = 0 → wp_X12_readCond (fun r56 σ56 => (r56 = 0 → w_X12_readWhat_207 post σ56) ∧ (¬ r56 = 0 → w_X12_readWhat_208 post σ56 1)) σ55 p1)) σ54 9)) σ53 p1) (rf_ua σ48 38 p1.toNatClampNeg 4))) σ47 11) ∧ (¬ r47 = 0 → w_X12_readWhat_26 post σ47 p1)) σ46 7)) σ45 6)) σ 4
set_option maxRecDepth 100000 in
set_option maxHeartbeats 4000000 in
theorem c_X12_readWhat {l : Launch} {P : hw_G} {o : Nat} {ad : Nat → Nat} {σ : rf_S} {p1 : Int32} {post : Int32 → rf_S → Prop} (h : wp_X12_readWhat post σ p1) : Met l yX12_readWhat [Cond.code yX12_readWhat cX12_readWhat 2 (some .boolean)] rm_X12_readWhat (rf_Pc P o ad σ [.ref o, .int p1]) (rf_Qi P o ad post) 0 0 (rf_A o ad) := by
  refine rf_met (by decide) rfl (Nat.le_of_ble_eq_true rfl) ?_
  intro p e s m below meth c ls hC hT hl
  obtain ⟨hx, hb, hml, hown, hK, -, -⟩ := id hC
  have hl : lv_has ls 2 [(0, .ref o), (1, .int p1)] := hl
  refine lv_aload_n hx hb dX12_readWhat_0 rfl (lv_at hl 0 rfl) ?_
  refine lv_iconst (v := 4) hx hb dX12_readWhat_1 (by decide) ?_
  refine rf_calli (rf_runV hx hb hml hown hK hT (c_X12_isWord h) rfl rfl klX12_353 ki_X12_isWord ks_X12_isWord kn_X12 kc_X12_isWord 1 ⟨rfl, by decide, by decide, by decide +kernel⟩ ⟨by decide, by decide⟩ rfl hl.1 rfl (Nat.le_of_ble_eq_true rfl) ⟨Nat.le_refl _, Nat.le_refl _⟩ dX12_readWhat_2) hT (fun r45 σ45 H locs h hT => ?_)
  refine lv_if_ne (tgt := 26) hx hb dX12_readWhat_5 (by decide) (fun hc => ?_) (fun hc => ?_)
  · have h := h.1 hc
    exact t_X12_readWhat_26 hC σ45 p1 _ _ _ h hT (lv_sub hl [0, 1] rfl)
  · have h := h.2 hc
    refine lv_aload_n hx hb dX12_readWhat_8 rfl (lv_at hl 0 rfl) ?_
    refine lv_bipush (v := 6) hx hb dX12_readWhat_9 (by decide) ?_
    refine rf_calli (rf_runV hx hb hml hown hK hT (c_X12_isWord h) rfl rfl klX12_353 ki_X12_isWord ks_X12_isWord kn_X12 kc_X12_isWord 1 ⟨rfl, by decide, by decide, by decide +kernel⟩ ⟨by decide, by decide⟩ rfl hl.1 rfl (Nat.le_of_ble_eq_true rfl) ⟨Nat.le_refl _, Nat.le_refl _⟩ dX12_readWhat_11) hT (fun r46 σ46 H locs h hT => ?_)
    refine lv_if_ne (tgt := 26) hx hb dX12_readWhat_14 (by decide) (fun hc => ?_) (fun hc => ?_)
    · have h := h.1 hc
      exact t_X12_readWhat_26 hC σ46 p1 _ _ _ h hT (lv_sub hl [0, 1] rfl)
    · have h := h.2 hc
      refine lv_aload_n hx hb dX12_readWhat_17 rfl (lv_at hl 0 rfl) ?_
      refine lv_bipush (v := 7) hx hb dX12_readWhat_18 (by decide) ?_
      refine rf_calli (rf_runV hx hb hml hown hK hT (c_X12_isWord h) rfl rfl klX12_353 ki_X12_isWord ks_X12_isWord kn_X12 kc_X12_isWord 1 ⟨rfl, by decide, by decide, by decide +kernel⟩ ⟨by decide, by decide⟩ rfl hl.1 rfl (Nat.le_of_ble_eq_true rfl) ⟨Nat.le_refl _, Nat.le_refl _⟩ dX12_readWhat_20) hT (fun r47 σ47 H locs h hT => ?_)
      refine lv_if_eq (tgt := 158) hx hb dX12_readWhat_23 (by decide) (fun hc => ?_) (fun hc => ?_)
      · have h := h.1 hc
        refine lv_aload_n hx hb dX12_readWhat_158 rfl (lv_at hl 0 rfl) ?_
        refine lv_bipush (v := 11) hx hb dX12_readWhat_159 (by decide) ?_
        refine rf_calli (rf_runV hx hb hml hown hK hT (c_X12_isWord h) rfl rfl klX12_353 ki_X12_isWord ks_X12_isWord kn_X12 kc_X12_isWord 1 ⟨rfl, by decide, by decide, by decide +kernel⟩ ⟨by decide, by decide⟩ rfl hl.1 rfl (Nat.le_of_ble_eq_true rfl) ⟨Nat.le_refl _, Nat.le_refl _⟩ dX12_readWhat_161) hT (fun r48 σ48 H locs h hT => ?_)
        refine lv_if_eq (tgt := 209) hx hb dX12_readWhat_164 (by decide) (fun hc => ?_) (fun hc => ?_)
        · have h := h.1 hc
          refine lv_aload_n hx hb dX12_readWhat_209 rfl (lv_at hl 0 rfl) ?_
          refine lv_bipush (v := 8) hx hb dX12_readWhat_210 (by decide) ?_
          refine rf_calli (rf_runV hx hb hml hown hK hT (c_X12_isWord h) rfl rfl klX12_353 ki_X12_isWord ks_X12_isWord kn_X12 kc_X12_isWord 1 ⟨rfl, by decide, by decide, by decide +kernel⟩ ⟨by decide, by decide⟩ rfl hl.1 rfl (Nat.le_of_ble_eq_true rfl) ⟨Nat.le_refl _, Nat.le_refl _⟩ dX12_readWhat_212) hT (fun r49 σ49 H locs h hT => ?_)
          refine lv_if_ne (tgt := 223) hx hb dX12_readWhat_215 (by decide) (fun hc => ?_) (fun hc => ?_)
          · have h := h.1 hc
            refine lv_aload_n hx hb dX12_readWhat_223 rfl (lv_at hl 0 rfl) ?_
            refine rf_get hx hb hK hT hown 38 (by decide) kfX12_208 (v := .ref (ad 38)) rfl dX12_readWhat_224 ?_
            refine lv_iload_n hx hb dX12_readWhat_227 rfl (lv_at hl 1 rfl) ?_
            refine lv_iconst (v := 3) hx hb dX12_readWhat_228 (by decide) ?_
            obtain ⟨hi, h⟩ := h
            refine rf_iast hx hb hK hT 38 (by decide) rfl hi dX12_readWhat_229 (fun H locs hT => ?_)
            refine lv_aload_n hx hb dX12_readWhat_230 rfl (lv_at hl 0 rfl) ?_
            refine rf_callv (rf_runV hx hb hml hown hK hT (c_X12_next h) rfl rfl klX12_359 ki_X12_next ks_X12_next kn_X12 kc_X12_next 0 ⟨rfl, by decide, by decide, by decide +kernel⟩ ⟨by decide, by decide⟩ rfl hl.1 rfl (Nat.le_of_ble_eq_true rfl) ⟨Nat.le_refl _, Nat.le_refl _⟩ dX12_readWhat_231) hT (fun σ50 H locs h hT => ?_)
            refine lv_aload_n hx hb dX12_readWhat_234 rfl (lv_at hl 0 rfl) ?_
            refine lv_iload_n hx hb dX12_readWhat_235 rfl (lv_at hl 1 rfl) ?_
            refine rf_calli (rf_runV hx hb hml hown hK hT (c_X12_readCond h) rfl rfl klX12_406 ki_X12_readCond ks_X12_readCond kn_X12 kc_X12_readCond 1 ⟨rfl, by decide, by decide, by decide +kernel⟩ ⟨by decide, by decide⟩ rfl hl.1 rfl (Nat.le_of_ble_eq_true rfl) ⟨Nat.le_refl _, Nat.le_refl _⟩ dX12_readWhat_236) hT (fun r51 σ51 H locs h hT => ?_)
            refine lv_if_ne (tgt := 244) hx hb dX12_readWhat_239 (by decide) (fun hc => ?_) (fun hc => ?_)
            · have h := h.1 hc
              obtain ⟨n9, h⟩ := h
              exact t_X12_readWhat_244 hC n9 σ51 p1 _ _ _ h hT (lv_sub hl [0, 1] rfl)
            · have h := h.2 hc
              refine lv_iconst (v := 0) hx hb dX12_readWhat_242 (by decide) ?_
              exact rf_zret hC hT rfl h dX12_readWhat_243
          · have h := h.2 hc
            refine lv_aload_n hx hb dX12_readWhat_218 rfl (lv_at hl 0 rfl) ?_
            refine rf_calli (rf_runV hx hb hml hown hK hT (c_X12_cant h) rfl rfl klX12_356 ki_X12_cant ks_X12_cant kn_X12 kc_X12_cant 0 ⟨rfl, by decide, by decide, by decide +kernel⟩ ⟨by decide, by decide⟩ rfl hl.1 rfl (Nat.le_of_ble_eq_true rfl) ⟨Nat.le_refl _, Nat.le_refl _⟩ dX12_readWhat_219) hT (fun r52 σ52 H locs h hT => ?_)
            exact rf_zret hC hT h.1 h.2 dX12_readWhat_222
        · have h := h.2 hc
          refine lv_aload_n hx hb dX12_readWhat_167 rfl (lv_at hl 0 rfl) ?_
          refine rf_get hx hb hK hT hown 38 (by decide) kfX12_208 (v := .ref (ad 38)) rfl dX12_readWhat_168 ?_
          refine lv_iload_n hx hb dX12_readWhat_171 rfl (lv_at hl 1 rfl) ?_
          refine lv_iconst (v := 4) hx hb dX12_readWhat_172 (by decide) ?_
          obtain ⟨hi, h⟩ := h
          refine rf_iast hx hb hK hT 38 (by decide) rfl hi dX12_readWhat_173 (fun H locs hT => ?_)
          refine lv_aload_n hx hb dX12_readWhat_174 rfl (lv_at hl 0 rfl) ?_
          refine rf_callv (rf_runV hx hb hml hown hK hT (c_X12_next h) rfl rfl klX12_359 ki_X12_next ks_X12_next kn_X12 kc_X12_next 0 ⟨rfl, by decide, by decide, by decide +kernel⟩ ⟨by decide, by decide⟩ rfl hl.1 rfl (Nat.le_of_ble_eq_true rfl) ⟨Nat.le_refl _, Nat.le_refl _⟩ dX12_readWhat_175) hT (fun σ53 H locs h hT => ?_)
          refine lv_aload_n hx hb dX12_readWhat_178 rfl (lv_at hl 0 rfl) ?_
          refine lv_iload_n hx hb dX12_readWhat_179 rfl (lv_at hl 1 rfl) ?_
          refine rf_calli (rf_runV hx hb hml hown hK hT (c_X12_readCond h) rfl rfl klX12_406 ki_X12_readCond ks_X12_readCond kn_X12 kc_X12_readCond 1 ⟨rfl, by decide, by decide, by decide +kernel⟩ ⟨by decide, by decide⟩ rfl hl.1 rfl (Nat.le_of_ble_eq_true rfl) ⟨Nat.le_refl _, Nat.le_refl _⟩ dX12_readWhat_180) hT (fun r54 σ54 H locs h hT => ?_)
          refine lv_if_eq (tgt := 207) hx hb dX12_readWhat_183 (by decide) (fun hc => ?_) (fun hc => ?_)
          · have h := h.1 hc
            exact t_X12_readWhat_207 hC σ54 _ _ _ h hT (lv_sub hl [] rfl)
          · have h := h.2 hc
            refine lv_aload_n hx hb dX12_readWhat_186 rfl (lv_at hl 0 rfl) ?_
            refine lv_bipush (v := 9) hx hb dX12_readWhat_187 (by decide) ?_
            refine rf_calli (rf_runV hx hb hml hown hK hT (c_X12_must h) rfl rfl klX12_395 ki_X12_must ks_X12_must kn_X12 kc_X12_must 1 ⟨rfl, by decide, by decide, by decide +kernel⟩ ⟨by decide, by decide⟩ rfl hl.1 rfl (Nat.le_of_ble_eq_true rfl) ⟨Nat.le_refl _, Nat.le_refl _⟩ dX12_readWhat_189) hT (fun r55 σ55 H locs h hT => ?_)
            refine lv_if_eq (tgt := 207) hx hb dX12_readWhat_192 (by decide) (fun hc => ?_) (fun hc => ?_)
            · have h := h.1 hc
              exact t_X12_readWhat_207 hC σ55 _ _ _ h hT (lv_sub hl [] rfl)
            · have h := h.2 hc
              refine lv_aload_n hx hb dX12_readWhat_195 rfl (lv_at hl 0 rfl) ?_
              refine lv_iload_n hx hb dX12_readWhat_196 rfl (lv_at hl 1 rfl) ?_
              refine rf_calli (rf_runV hx hb hml hown hK hT (c_X12_readCond h) rfl rfl klX12_406 ki_X12_readCond ks_X12_readCond kn_X12 kc_X12_readCond 1 ⟨rfl, by decide, by decide, by decide +kernel⟩ ⟨by decide, by decide⟩ rfl hl.1 rfl (Nat.le_of_ble_eq_true rfl) ⟨Nat.le_refl _, Nat.le_refl _⟩ dX12_readWhat_197) hT (fun r56 σ56 H locs h hT => ?_)
              refine lv_if_eq (tgt := 207) hx hb dX12_readWhat_200 (by decide) (fun hc => ?_) (fun hc => ?_)
              · have h := h.1 hc
                exact t_X12_readWhat_207 hC σ56 _ _ _ h hT (lv_sub hl [] rfl)
              · have h := h.2 hc
                refine lv_iconst (v := 1) hx hb dX12_readWhat_203 (by decide) ?_
                refine lv_goto (tgt := 208) hx hb dX12_readWhat_204 (by decide) ?_
                exact t_X12_readWhat_208 hC σ56 1 _ _ _ h hT (lv_sub hl [] rfl)
      · have h := h.2 hc
        exact t_X12_readWhat_26 hC σ47 p1 _ _ _ h hT (lv_sub hl [0, 1] rfl)
