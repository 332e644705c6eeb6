/-! X12_readBy -/
abbrev rm_X12_readBy : Room := { frames := 4, cells := 0, slots := 0, locals := 93 }
def w_X12_readBy_38 (post : Int32 → rf_S → Prop) (k0 : rf_S → Int32 → Prop) : Nat → rf_S → Int32 → Int32 → Prop
  | 0, _, _, _ => False
  | n + 1, σ, x1, x2 => vp_in x1 (rf_n 43) ∧ ((σ.2.2.1 43 x1.toNatClampNeg) ≤ x2 → vp_in x1 (rf_n 43) ∧ vp_in ((3 * x1) + (σ.2.2.1 43 x1.toNatClampNeg)) (rf_n 37) ∧ vp_in x1 (rf_n 43) ∧ vp_in x1 (rf_n 43) ∧ wp_X12_next (fun σ8 => wp_X12_isSign (fun r9 σ9 => (¬ r9 = 0 → k0 σ9 x1) ∧ (r9 = 0 → post 1 σ9)) σ8 44) (rf_ua (rf_ub σ 37 ((3 * x1) + (σ.2.2.1 43 x1.toNatClampNeg)).toNatClampNeg (σ.2.1 58)) 43 x1.toNatClampNeg ((σ.2.2.1 43 x1.toNatClampNeg) + 1))) ∧ (¬ (σ.2.2.1 43 x1.toNatClampNeg) ≤ x2 → vp_in ((3 * x1) + x2) (rf_n 37) ∧ (¬ (lg_cmp (σ.2.2.2 37 ((3 * x1) + x2).toNatClampNeg) (σ.2.1 58)) = 0 → w_X12_readBy_38 post k0 n σ x1 (x2 + 1)) ∧ ((lg_cmp (σ.2.2.2 37 ((3 * x1) + x2).toNatClampNeg) (σ.2.1 58)) = 0 → wp_X12_wrong (fun r10 σ10 => narrow .boolean (.int r10) = .int r10 ∧ post r10 σ10) σ 5 (σ.1 55)))
section
variable {p : Program} {l : Launch} {e : Env} {s : State} {m : MethodId} {args : Array Value} {below : List Frame} {meth : Method} {c : Code} {P : hw_G} {o : Nat} {ad : Nat → Nat}
set_option maxRecDepth 100000 in
set_option maxHeartbeats 4000000 in
theorem t_X12_readBy_38 {post : Int32 → rf_S → Prop} {k0 : rf_S → Int32 → Prop} (hC : rf_C P RX12 p s m meth c cX12_readBy 3 (some .boolean)) (hk0 : ∀ (σ : rf_S) (x1 : Int32) (H : Heap) (locs : List Loc) (ls : Array Slot), k0 σ x1 → rf_T P s (rf_A o ad) o ad σ H locs → lv_has ls 3 [(0, .ref o), (1, .int x1)] → W p l e rm_X12_readBy s m args below meth c H locs 0 0 (MQ below (rf_Qi P o ad post) args s 0 0 (rf_A o ad)) (F0 m 0 ls [])) : ∀ (n : Nat) (σ : rf_S) (x1 : Int32) (x2 : Int32) (H : Heap) (locs : List Loc) (ls : Array Slot), w_X12_readBy_38 post k0 n σ x1 x2 → rf_T P s (rf_A o ad) o ad σ H locs → lv_has ls 3 [(0, .ref o), (1, .int x1), (2, .int x2)] → W p l e rm_X12_readBy s m args below meth c H locs 0 0 (MQ below (rf_Qi P o ad post) args s 0 0 (rf_A o ad)) (F0 m 38 ls []) := by
  obtain ⟨hx, hb, hml, hown, hK, -, -⟩ := id hC
  intro n
  induction n with
  | zero => intro σ x1 x2 H locs ls h; exact False.elim h
  | succ n ih =>
    intro σ x1 x2 H locs ls h hT hl
    refine lv_iload_n hx hb dX12_readBy_38 rfl (lv_at hl 2 rfl) ?_
    refine lv_aload_n hx hb dX12_readBy_39 rfl (lv_at hl 0 rfl) ?_
    refine rf_get hx hb hK hT hown 43 (by decide) kfX12_223 (v := .ref (ad 43)) rfl dX12_readBy_40 ?_
    refine lv_iload_n hx hb dX12_readBy_43 rfl (lv_at hl 1 rfl) ?_
    obtain ⟨hi, h⟩ := h
    refine rf_iald hx hb hK hT 43 (by decide) rfl hi (v := σ.2.2.1 43 x1.toNatClampNeg) rfl dX12_readBy_44 ?_
    refine lv_icmp_ge (tgt := 82) hx hb dX12_readBy_45 (by decide) (fun hc => ?_) (fun hc => ?_)
    · have h := h.1 hc
      refine lv_aload_n hx hb dX12_readBy_82 rfl (lv_at hl 0 rfl) ?_
      refine rf_get hx hb hK hT hown 37 (by decide) kfX12_205 (v := .ref (ad 37)) rfl dX12_readBy_83 ?_
      refine lv_iconst (v := 3) hx hb dX12_readBy_86 (by decide) ?_
      refine lv_iload_n hx hb dX12_readBy_87 rfl (lv_at hl 1 rfl) ?_
      refine lv_imul hx hb dX12_readBy_88 ?_
      refine lv_aload_n hx hb dX12_readBy_89 rfl (lv_at hl 0 rfl) ?_
      refine rf_get hx hb hK hT hown 43 (by decide) kfX12_223 (v := .ref (ad 43)) rfl dX12_readBy_90 ?_
      refine lv_iload_n hx hb dX12_readBy_93 rfl (lv_at hl 1 rfl) ?_
      obtain ⟨hi, h⟩ := h
      refine rf_iald hx hb hK hT 43 (by decide) rfl hi (v := σ.2.2.1 43 x1.toNatClampNeg) rfl dX12_readBy_94 ?_
      refine lv_iadd hx hb dX12_readBy_95 ?_
      refine lv_aload_n hx hb dX12_readBy_96 rfl (lv_at hl 0 rfl) ?_
      refine rf_get hx hb hK hT hown 58 (by decide) kfX12_337 (v := .long (σ.2.1 58)) rfl dX12_readBy_97 ?_
      obtain ⟨hi, h⟩ := h
      refine rf_last hx hb hK hT 37 (by decide) rfl hi dX12_readBy_100 (fun H locs hT => ?_)
      refine lv_aload_n hx hb dX12_readBy_101 rfl (lv_at hl 0 rfl) ?_
      refine rf_get hx hb hK hT hown 43 (by decide) kfX12_223 (v := .ref (ad 43)) rfl dX12_readBy_102 ?_
      refine lv_iload_n hx hb dX12_readBy_105 rfl (lv_at hl 1 rfl) ?_
      refine lv_dup2_11 hx hb dX12_readBy_106 rfl rfl ?_
      obtain ⟨hi, h⟩ := h
      refine rf_iald hx hb hK hT 43 (by decide) rfl hi (v := σ.2.2.1 43 x1.toNatClampNeg) rfl dX12_readBy_107 ?_
      refine lv_iconst (v := 1) hx hb dX12_readBy_108 (by decide) ?_
      refine lv_iadd hx hb dX12_readBy_109 ?_
      obtain ⟨hi, h⟩ := h
      refine rf_iast hx hb hK hT 43 (by decide) rfl hi dX12_readBy_110 (fun H locs hT => ?_)
      refine lv_aload_n hx hb dX12_readBy_111 rfl (lv_at hl 0 rfl) ?_
      refine rf_callv (rf_runV hx hb hml hown hK hT (c_X12_next h) rfl rfl klX12_359 ki_X12_next ks_X12_next kn_X12 kc_X12_next 0 ⟨rfl, by decide, by decide, by decide +kernel⟩ ⟨by decide, by decide⟩ rfl hl.1 rfl (Nat.le_of_ble_eq_true rfl) ⟨Nat.le_refl _, Nat.le_refl _⟩ dX12_readBy_112) hT (fun σ8 H locs h hT => ?_)
      refine lv_aload_n hx hb dX12_readBy_115 rfl (lv_at hl 0 rfl) ?_
      refine lv_bipush (v := 44) hx hb dX12_readBy_116 (by decide) ?_
      refine rf_calli (rf_runV hx hb hml hown hK hT (c_X12_isSign h) rfl rfl klX12_362 ki_X12_isSign ks_X12_isSign kn_X12 kc_X12_isSign 1 ⟨rfl, by decide, by decide, by decide +kernel⟩ ⟨by decide, by decide⟩ rfl hl.1 rfl (Nat.le_of_ble_eq_true rfl) ⟨Nat.le_refl _, Nat.le_refl _⟩ dX12_readBy_118) hT (fun r9 σ9 H locs h hT => ?_)
      refine lv_if_ne (tgt := 0) hx hb dX12_readBy_121 (by decide) (fun hc => ?_) (fun hc => ?_)
      · have h := h.1 hc
        exact hk0 σ9 x1 _ _ _ h hT (lv_sub hl [0, 1] rfl)
      · have h := h.2 hc
        refine lv_iconst (v := 1) hx hb dX12_readBy_124 (by decide) ?_
        exact rf_zret hC hT rfl h dX12_readBy_125
    · have h := h.2 hc
      refine lv_aload_n hx hb dX12_readBy_48 rfl (lv_at hl 0 rfl) ?_
      refine rf_get hx hb hK hT hown 37 (by decide) kfX12_205 (v := .ref (ad 37)) rfl dX12_readBy_49 ?_
      refine lv_iconst (v := 3) hx hb dX12_readBy_52 (by decide) ?_
      refine lv_iload_n hx hb dX12_readBy_53 rfl (lv_at hl 1 rfl) ?_
      refine lv_imul hx hb dX12_readBy_54 ?_
      refine lv_iload_n hx hb dX12_readBy_55 rfl (lv_at hl 2 rfl) ?_
      refine lv_iadd hx hb dX12_readBy_56 ?_
      obtain ⟨hi, h⟩ := h
      refine rf_lald hx hb hK hT 37 (by decide) rfl hi (v := σ.2.2.2 37 ((3 * x1) + x2).toNatClampNeg) rfl dX12_readBy_57 ?_
      refine lv_aload_n hx hb dX12_readBy_58 rfl (lv_at hl 0 rfl) ?_
      refine rf_get hx hb hK hT hown 58 (by decide) kfX12_337 (v := .long (σ.2.1 58)) rfl dX12_readBy_59 ?_
      refine W.lcmp hx hb dX12_readBy_62 ?_
      refine lv_if_ne (tgt := 76) hx hb dX12_readBy_63 (by decide) (fun hc => ?_) (fun hc => ?_)
      · have h := h.1 hc
        refine lv_iinc (v := x2 + 1) (lv' := [(2, _), (0, _), (1, _)]) hx hb dX12_readBy_76 hl (k := 2) rfl rfl (by decide) rfl (fun ls hl => ?_)
        refine lv_goto (tgt := 38) hx hb dX12_readBy_79 (by decide) ?_
        exact ih σ x1 (x2 + 1) _ _ _ h hT (lv_sub hl [1, 2, 0] rfl)
      · have h := h.2 hc
        refine lv_aload_n hx hb dX12_readBy_66 rfl (lv_at hl 0 rfl) ?_
        refine lv_iconst (v := 5) hx hb dX12_readBy_67 (by decide) ?_
        refine lv_aload_n hx hb dX12_readBy_68 rfl (lv_at hl 0 rfl) ?_
        refine rf_get hx hb hK hT hown 55 (by decide) kfX12_313 (v := .int (σ.1 55)) rfl dX12_readBy_69 ?_
        refine rf_calli (rf_runV hx hb hml hown hK hT (c_X12_wrong h) rfl rfl klX12_111 ki_X12_wrong ks_X12_wrong kn_X12 kc_X12_wrong 2 ⟨rfl, by decide, by decide, by decide +kernel⟩ ⟨by decide, by decide⟩ rfl hl.1 rfl (Nat.le_of_ble_eq_true rfl) ⟨Nat.le_refl _, Nat.le_refl _⟩ dX12_readBy_72) hT (fun r10 σ10 H locs h hT => ?_)
        exact rf_zret hC hT h.1 h.2 dX12_readBy_75
end
def w_X12_readBy_0 (post : Int32 → rf_S → Prop) : Nat → rf_S → Int32 → Prop
  | 0, _, _ => False
  | n + 1, σ, x1 => wp_X12_next (fun σ11 => wp_X12_isName (fun r12 σ12 => (¬ r12 = 0 → vp_in x1 (rf_n 43) ∧ (¬ (σ12.2.2.1 43 x1.toNatClampNeg) = 3 → ∃ n9, w_X12_readBy_38 post (w_X12_readBy_0 post n) n9 σ12 x1 0) ∧ ((σ12.2.2.1 43 x1.toNatClampNeg) = 3 → wp_X12_wrong (fun r13 σ13 => narrow .boolean (.int r13) = .int r13 ∧ post r13 σ13) σ12 4 (σ12.1 55))) ∧ (r12 = 0 → wp_X12_cant (fun r14 σ14 => narrow .boolean (.int r14) = .int r14 ∧ post r14 σ14) σ12)) σ11) σ
section
variable {p : Program} {l : Launch} {e : Env} {s : State} {m : MethodId} {args : Array Value} {below : List Frame} {meth : Method} {c : Code} {P : hw_G} {o : Nat} {ad : Nat → Nat}
set_option maxRecDepth 100000 in
set_option maxHeartbeats 4000000 in
theorem t_X12_readBy_0 {post : Int32 → rf_S → Prop} (hC : rf_C P RX12 p s m meth c cX12_readBy 3 (some .boolean)) : ∀ (n : Nat) (σ : rf_S) (x1 : Int32) (H : Heap) (locs : List Loc) (ls : Array Slot), w_X12_readBy_0 post n σ x1 → rf_T P s (rf_A o ad) o ad σ H locs → lv_has ls 3 [(0, .ref o), (1, .int x1)] → W p l e rm_X12_readBy s m args below meth c H locs 0 0 (MQ below (rf_Qi P o ad post) args s 0 0 (rf_A o ad)) (F0 m 0 ls []) := by
  obtain ⟨hx, hb, hml, hown, hK, -, -⟩ := id hC
  intro n
  induction n with
  | zero => intro σ x1 H locs ls h; exact False.elim h
  | succ n ih =>
    intro σ x1 H locs ls h hT hl
    refine lv_aload_n hx hb dX12_readBy_0 rfl (lv_at hl 0 rfl) ?_
    refine rf_callv (rf_runV hx hb hml hown hK hT (c_X12_next h) rfl rfl klX12_359 ki_X12_next ks_X12_next kn_X12 kc_X12_next 0 ⟨rfl, by decide, by decide, by decide +kernel⟩ ⟨by decide, by decide⟩ rfl hl.1 rfl (Nat.le_of_ble_eq_true rfl) ⟨Nat.le_refl _, Nat.le_refl _⟩ dX12_readBy_1) hT (fun σ11 H locs h hT => ?_)
    refine lv_aload_n hx hb dX12_readBy_4 rfl (lv_at hl 0 rfl) ?_
    refine rf_calli (rf_runV hx hb hml hown hK hT (c_X12_isName h) rfl rfl klX12_386 ki_X12_isName ks_X12_isName kn_X12 kc_X12_isName 0 ⟨rfl, by decide, by decide, by decide +kernel⟩ ⟨by decide, by decide⟩ rfl hl.1 rfl (Nat.le_of_ble_eq_true rfl) ⟨Nat.le_refl _, Nat.le_refl _⟩ dX12_readBy_5) hT (fun r12 σ12 H locs h hT => ?_)
    refine lv_if_ne (tgt := 16) hx hb dX12_readBy_8 (by decide) (fun hc => ?_) (fun hc => ?_)
    · have h := h.1 hc
      refine lv_aload_n hx hb dX12_readBy_16 rfl (lv_at hl 0 rfl) ?_
      refine rf_get hx hb hK hT hown 43 (by decide) kfX12_223 (v := .ref (ad 43)) rfl dX12_readBy_17 ?_
      refine lv_iload_n hx hb dX12_readBy_20 rfl (lv_at hl 1 rfl) ?_
      obtain ⟨hi, h⟩ := h
      refine rf_iald hx hb hK hT 43 (by decide) rfl hi (v := σ12.2.2.1 43 x1.toNatClampNeg) rfl dX12_readBy_21 ?_
      refine lv_iconst (v := 3) hx hb dX12_readBy_22 (by decide) ?_
      refine lv_icmp_ne (tgt := 36) hx hb dX12_readBy_23 (by decide) (fun hc => ?_) (fun hc => ?_)
      · have h := h.1 hc
        refine lv_iconst (v := 0) hx hb dX12_readBy_36 (by decide) ?_
        refine lv_istore_n (lv' := [(2, _), (0, _), (1, _)]) hx hb dX12_readBy_37 rfl hl (by decide) rfl (fun ls hl => ?_)
        obtain ⟨n9, h⟩ := h
        exact t_X12_readBy_38 hC ih n9 σ12 x1 0 _ _ _ h hT (lv_sub hl [1, 2, 0] rfl)
      · have h := h.2 hc
        refine lv_aload_n hx hb dX12_readBy_26 rfl (lv_at hl 0 rfl) ?_
        refine lv_iconst (v := 4) hx hb dX12_readBy_27 (by decide) ?_
        refine lv_aload_n hx hb dX12_readBy_28 rfl (lv_at hl 0 rfl) ?_
        refine rf_get hx hb hK hT hown 55 (by decide) kfX12_313 (v := .int (σ12.1 55)) rfl dX12_readBy_29 ?_
        refine rf_calli (rf_runV hx hb hml hown hK hT (c_X12_wrong h) rfl rfl klX12_111 ki_X12_wrong ks_X12_wrong kn_X12 kc_X12_wrong 2 ⟨rfl, by decide, by decide, by decide +kernel⟩ ⟨by decide, by decide⟩ rfl hl.1 rfl (Nat.le_of_ble_eq_true rfl) ⟨Nat.le_refl _, Nat.le_refl _⟩ dX12_readBy_32) hT (fun r13 σ13 H locs h hT => ?_)
        exact rf_zret hC hT h.1 h.2 dX12_readBy_35
    · have h := h.2 hc
      refine lv_aload_n hx hb dX12_readBy_11 rfl (lv_at hl 0 rfl) ?_
      refine rf_calli (rf_runV hx hb hml hown hK hT (c_X12_cant h) rfl rfl klX12_356 ki_X12_cant ks_X12_cant kn_X12 kc_X12_cant 0 ⟨rfl, by decide, by decide, by decide +kernel⟩ ⟨by decide, by decide⟩ rfl hl.1 rfl (Nat.le_of_ble_eq_true rfl) ⟨Nat.le_refl _, Nat.le_refl _⟩ dX12_readBy_12) hT (fun r14 σ14 H locs h hT => ?_)
      exact rf_zret hC hT h.1 h.2 dX12_readBy_15
end
def wp_X12_readBy (post : Int32 → rf_S → Prop) (σ : rf_S) (p1 : Int32) : Prop := ∃ n9, w_X12_readBy_0 post n9 σ p1
set_option maxRecDepth 100000 in
set_option maxHeartbeats 4000000 in
theorem c_X12_readBy {l : Launch} {P : hw_G} {o : Nat} {ad : Nat → Nat} {σ : rf_S} {p1 : Int32} {post : Int32 → rf_S → Prop} (h : wp_X12_readBy post σ p1) : Met l yX12_readBy [Cond.code yX12_readBy cX12_readBy 3 (some .boolean)] rm_X12_readBy (rf_Pc P o ad σ [.ref o, .int p1]) (rf_Qi P o ad post) 0 0 (rf_A o ad) := by
  refine rf_met (by decide) rfl (Nat.le_of_ble_eq_true rfl) ?_
  intro p e s m below meth c ls hC hT hl
  obtain ⟨hx, hb, hml, hown, hK, -, -⟩ := id hC
  have hl : lv_has ls 3 [(0, .ref o), (1, .int p1)] := hl
  obtain ⟨n9, h⟩ := h
  exact t_X12_readBy_0 hC n9 σ p1 _ _ _ h hT (lv_sub hl [0, 1] rfl)
/-! X12_rule -/
abbrev rm_X12_rule : Room := { frames := 69, cells := 0, slots := 0, locals := 2605 }
def w_X12_rule_212 (post : Int32 → rf_S → Prop) (σ : rf_S)  : Prop := post 0 σ
section
variable {p : Program} {l : Launch} {e : Env} {s : State} {m : MethodId} {args : Array Value} {below : List Frame} {meth : Method} {c : Code} {P : hw_G} {o : Nat} {ad : Nat → Nat}
set_option maxRecDepth 100000 in
set_option maxHeartbeats 4000000 in
theorem t_X12_rule_212 {post : Int32 → rf_S → Prop} (hC : rf_C P RX12 p s m meth c cX12_rule 3 (some .boolean)) (σ : rf_S)  (H : Heap) (locs : List Loc) (ls : Array Slot) (h : w_X12_rule_212 post σ ) (hT : rf_T P s (rf_A o ad) o ad σ H locs) (hl : lv_has ls 3 []) : W p l e rm_X12_rule s m args below meth c H locs 0 0 (MQ below (rf_Qi P o ad post) args s 0 0 (rf_A o ad)) (F0 m 212 ls []) := by
  obtain ⟨hx, hb, hml, hown, hK, -, -⟩ := id hC
  refine lv_iconst (v := 0) hx hb dX12_rule_212 (by decide) ?_
  exact rf_zret hC hT rfl h dX12_rule_213
end
def w_X12_rule_259 (post : Int32 → rf_S → Prop) (σ : rf_S)  : Prop := wp_X12_mustSign (fun r18 σ18 => (¬ r18 = 0 → post 1 (rf_ui σ18 34 ((σ18.1 34) + 1))) ∧ (r18 = 0 → post 0 σ18)) σ 59
section
variable {p : Program} {l : Launch} {e : Env} {s : State} {m : MethodId} {args : Array Value} {below : List Frame} {meth : Method} {c : Code} {P : hw_G} {o : Nat} {ad : Nat → Nat}
set_option maxRecDepth 100000 in
set_option maxHeartbeats 4000000 in
theorem t_X12_rule_259 {post : Int32 → rf_S → Prop} (hC : rf_C P RX12 p s m meth c cX12_rule 3 (some .boolean)) (σ : rf_S)  (H : Heap) (locs : List Loc) (ls : Array Slot) (h : w_X12_rule_259 post σ ) (hT : rf_T P s (rf_A o ad) o ad σ H locs) (hl : lv_has ls 3 [(0, .ref o)]) : W p l e rm_X12_rule s m args below meth c H locs 0 0 (MQ below (rf_Qi P o ad post) args s 0 0 (rf_A o ad)) (F0 m 259 ls []) := by
  obtain ⟨hx, hb, hml, hown, hK, -, -⟩ := id hC
  refine lv_aload_n hx hb dX12_rule_259 rfl (lv_at hl 0 rfl) ?_
  refine lv_bipush (v := 59) hx hb dX12_rule_260 (by decide) ?_
  refine rf_calli (rf_runV hx hb hml hown hK hT (c_X12_mustSign h) rfl rfl klX12_402 ki_X12_mustSign ks_X12_mustSign kn_X12 kc_X12_mustSign 1 ⟨rfl, by decide, by decide, by decide +kernel⟩ ⟨by decide, by decide⟩ rfl hl.1 rfl (Nat.le_of_ble_eq_true rfl) ⟨Nat.le_refl _, Nat.le_refl _⟩ dX12_rule_262) hT (fun r18 σ18 H locs h hT => ?_)
  refine lv_if_ne (tgt := 270) hx hb dX12_rule_265 (by decide) (fun hc => ?_) (fun hc => ?_)
  · have h := h.1 hc
    refine lv_aload_n hx hb dX12_rule_270 rfl (lv_at hl 0 rfl) ?_
    refine lv_dup hx hb dX12_rule_271 rfl ?_
    refine rf_get hx hb hK hT hown 34 (by decide) kfX12_371 (v := .int (σ18.1 34)) rfl dX12_rule_272 ?_
    refine lv_iconst (v := 1) hx hb dX12_rule_275 (by decide) ?_
    refine lv_iadd hx hb dX12_rule_276 ?_
    refine rf_puti hx hb hK hT hown 34 (by decide) kfX12_371 rfl rfl dX12_rule_277 (fun H locs hT => ?_)
    refine lv_iconst (v := 1) hx hb dX12_rule_280 (by decide) ?_
    exact rf_zret hC hT rfl h dX12_rule_281
  · have h := h.2 hc
    refine lv_iconst (v := 0) hx hb dX12_rule_268 (by decide) ?_
    exact rf_zret hC hT rfl h dX12_rule_269
end
def w_X12_rule_193 (post : Int32 → rf_S → Prop) (σ : rf_S) (x1 : Int32) : Prop := wp_X12_must (fun r19 σ19 => (r19 = 0 → w_X12_rule_212 post σ19) ∧ (¬ r19 = 0 → wp_X12_mustNumber (fun r20 σ20 => (¬ r20 = 0 → vp_in x1 (rf_n 44) ∧ wp_X12_isWord (fun r21 σ21 => (r21 = 0 → w_X12_rule_259 post σ21) ∧ (¬ r21 = 0 → wp_X12_next (fun σ22 => wp_X12_mustNumber (fun r23 σ23 => (¬ r23 = 0 → vp_in x1 (rf_n 45) ∧ w_X12_rule_259 post (rf_ua σ23 45 x1.toNatClampNeg (σ23.1 60))) ∧ (r23 = 0 → post 0 σ23)) σ22 0 1000000) σ21)) (rf_ua σ20 44 x1.toNatClampNeg (σ20.1 60)) 3) ∧ (r20 = 0 → w_X12_rule_212 post σ20)) σ19 1 1000000)) σ 2
section
variable {p : Program} {l : Launch} {e : Env} {s : State} {m : MethodId} {args : Array Value} {below : List Frame} {meth : Method} {c : Code} {P : hw_G} {o : Nat} {ad : Nat → Nat}
set_option maxRecDepth 100000 in
set_option maxHeartbeats 4000000 in
theorem t_X12_rule_193 {post : Int32 → rf_S → Prop} (hC : rf_C P RX12 p s m meth c cX12_rule 3 (some .boolean)) (σ : rf_S) (x1 : Int32) (H : Heap) (locs : List Loc) (ls : Array Slot) (h : w_X12_rule_193 post σ x1) (hT : rf_T P s (rf_A o ad) o ad σ H locs) (hl : lv_has ls 3 [(0, .ref o), (1, .int x1)]) : W p l e rm_X12_rule s m args below meth c H locs 0 0 (MQ below (rf_Qi P o ad post) args s 0 0 (rf_A o ad)) (F0 m 193 ls []) := by
  obtain ⟨hx, hb, hml, hown, hK, -, -⟩ := id hC
  refine lv_aload_n hx hb dX12_rule_193 rfl (lv_at hl 0 rfl) ?_
  refine lv_iconst (v := 2) hx hb dX12_rule_194 (by decide) ?_
  refine rf_calli (rf_runV hx hb hml hown hK hT (c_X12_must h) rfl rfl klX12_395 ki_X12_must ks_X12_must kn_X12 kc_X12_must 1 ⟨rfl, by decide, by decide, by decide +kernel⟩ ⟨by decide, by decide⟩ rfl hl.1 rfl (Nat.le_of_ble_eq_true rfl) ⟨Nat.le_refl _, Nat.le_refl _⟩ dX12_rule_195) hT (fun r19 σ19 H locs h hT => ?_)
  refine lv_if_eq (tgt := 212) hx hb dX12_rule_198 (by decide) (fun hc => ?_) (fun hc => ?_)
  · have h := h.1 hc
    exact t_X12_rule_212 hC σ19 _ _ _ h hT (lv_sub hl [] rfl)
  · have h := h.2 hc
    refine lv_aload_n hx hb dX12_rule_201 rfl (lv_at hl 0 rfl) ?_
    refine lv_iconst (v := 1) hx hb dX12_rule_202 (by decide) ?_
    refine lv_ldcw (v := 1000000) hx hb hown (hK.word kkX12_398 rfl) dX12_rule_203 ?_
    refine rf_calli (rf_runV hx hb hml hown hK hT (c_X12_mustNumber h) rfl rfl klX12_399 ki_X12_mustNumber ks_X12_mustNumber kn_X12 kc_X12_mustNumber 2 ⟨rfl, by decide, by decide, by decide +kernel⟩ ⟨by decide, by decide⟩ rfl hl.1 rfl (Nat.le_of_ble_eq_true rfl) ⟨Nat.le_refl _, Nat.le_refl _⟩ dX12_rule_206) hT (fun r20 σ20 H locs h hT => ?_)
    refine lv_if_ne (tgt := 214) hx hb dX12_rule_209 (by decide) (fun hc => ?_) (fun hc => ?_)
    · have h := h.1 hc
      refine lv_aload_n hx hb dX12_rule_214 rfl (lv_at hl 0 rfl) ?_
      refine rf_get hx hb hK hT hown 44 (by decide) kfX12_226 (v := .ref (ad 44)) rfl dX12_rule_215 ?_
      refine lv_iload_n hx hb dX12_rule_218 rfl (lv_at hl 1 rfl) ?_
      refine lv_aload_n hx hb dX12_rule_219 rfl (lv_at hl 0 rfl) ?_
      refine rf_get hx hb hK hT hown 60 (by decide) kfX12_365 (v := .int (σ20.1 60)) rfl dX12_rule_220 ?_
      obtain ⟨hi, h⟩ := h
      refine rf_iast hx hb hK hT 44 (by decide) rfl hi dX12_rule_223 (fun H locs hT => ?_)
      refine lv_aload_n hx hb dX12_rule_224 rfl (lv_at hl 0 rfl) ?_
      refine lv_iconst (v := 3) hx hb dX12_rule_225 (by decide) ?_
      refine rf_calli (rf_runV hx hb hml hown hK hT (c_X12_isWord h) rfl rfl klX12_353 ki_X12_isWord ks_X12_isWord kn_X12 kc_X12_isWord 1 ⟨rfl, by decide, by decide, by decide +kernel⟩ ⟨by decide, by decide⟩ rfl hl.1 rfl (Nat.le_of_ble_eq_true rfl) ⟨Nat.le_refl _, Nat.le_refl _⟩ dX12_rule_226) hT (fun r21 σ21 H locs h hT => ?_)
      refine lv_if_eq (tgt := 259) hx hb dX12_rule_229 (by decide) (fun hc => ?_) (fun hc => ?_)
      · have h := h.1 hc
        exact t_X12_rule_259 hC σ21 _ _ _ h hT (lv_sub hl [0] rfl)
      · have h := h.2 hc
        refine lv_aload_n hx hb dX12_rule_232 rfl (lv_at hl 0 rfl) ?_
        refine rf_callv (rf_runV hx hb hml hown hK hT (c_X12_next h) rfl rfl klX12_359 ki_X12_next ks_X12_next kn_X12 kc_X12_next 0 ⟨rfl, by decide, by decide, by decide +kernel⟩ ⟨by decide, by decide⟩ rfl hl.1 rfl (Nat.le_of_ble_eq_true rfl) ⟨Nat.le_refl _, Nat.le_refl _⟩ dX12_rule_233) hT (fun σ22 H locs h hT => ?_)
        refine lv_aload_n hx hb dX12_rule_236 rfl (lv_at hl 0 rfl) ?_
        refine lv_iconst (v := 0) hx hb dX12_rule_237 (by decide) ?_
        refine lv_ldcw (v := 1000000) hx hb hown (hK.word kkX12_398 rfl) dX12_rule_238 ?_
        refine rf_calli (rf_runV hx hb hml hown hK hT (c_X12_mustNumber h) rfl rfl klX12_399 ki_X12_mustNumber ks_X12_mustNumber kn_X12 kc_X12_mustNumber 2 ⟨rfl, by decide, by decide, by decide +kernel⟩ ⟨by decide, by decide⟩ rfl hl.1 rfl (Nat.le_of_ble_eq_true rfl) ⟨Nat.le_refl _, Nat.le_refl _⟩ dX12_rule_241) hT (fun r23 σ23 H locs h hT => ?_)
        refine lv_if_ne (tgt := 249) hx hb dX12_rule_244 (by decide) (fun hc => ?_) (fun hc => ?_)
        · have h := h.1 hc
          refine lv_aload_n hx hb dX12_rule_249 rfl (lv_at hl 0 rfl) ?_
          refine rf_get hx hb hK hT hown 45 (by decide) kfX12_229 (v := .ref (ad 45)) rfl dX12_rule_250 ?_
          refine lv_iload_n hx hb dX12_rule_253 rfl (lv_at hl 1 rfl) ?_
          refine lv_aload_n hx hb dX12_rule_254 rfl (lv_at hl 0 rfl) ?_
          refine rf_get hx hb hK hT hown 60 (by decide) kfX12_365 (v := .int (σ23.1 60)) rfl dX12_rule_255 ?_
          obtain ⟨hi, h⟩ := h
          refine rf_iast hx hb hK hT 45 (by decide) rfl hi dX12_rule_258 (fun H locs hT => ?_)
          exact t_X12_rule_259 hC (rf_ua σ23 45 x1.toNatClampNeg (σ23.1 60)) _ _ _ h hT (lv_sub hl [0] rfl)
        · have h := h.2 hc
          refine lv_iconst (v := 0) hx hb dX12_rule_247 (by decide) ?_
          exact rf_zret hC hT rfl h dX12_rule_248
    · have h := h.2 hc
      exact t_X12_rule_212 hC σ20 _ _ _ h hT (lv_sub hl [] rfl)
end
def w_X12_rule_63 (post : Int32 → rf_S → Prop) : Nat → rf_S → Int32 → Int32 → Prop
  | 0, _, _, _ => False
  | n + 1, σ, x1, x2 => ((σ.1 34) ≤ x2 → vp_in x1 (rf_n 35) ∧ wp_X12_next (fun σ24 => vp_in x1 (rf_n 40) ∧ vp_in x1 (rf_n 42) ∧ vp_in x1 (rf_n 43) ∧ vp_in x1 (rf_n 45) ∧ vp_in x1 (rf_n 39) ∧ vp_in x1 (rf_n 36) ∧ wp_X12_readWhat (fun r25 σ25 => (¬ r25 = 0 → wp_X12_isWord (fun r26 σ26 => (r26 = 0 → w_X12_rule_193 post σ26 x1) ∧ (¬ r26 = 0 → wp_X12_readBy (fun r27 σ27 => (¬ r27 = 0 → w_X12_rule_193 post σ27 x1) ∧ (r27 = 0 → post 0 σ27)) σ26 x1)) σ25 1) ∧ (r25 = 0 → post 0 σ25)) (rf_ub (rf_ua (rf_ua (rf_ua (rf_ua (rf_ua σ24 40 x1.toNatClampNeg 0) 42 x1.toNatClampNeg ((-1))) 43 x1.toNatClampNeg 0) 45 x1.toNatClampNeg 0) 39 x1.toNatClampNeg 0) 36 x1.toNatClampNeg 0) x1) (rf_ub σ 35 x1.toNatClampNeg (σ.2.1 58))) ∧ (¬ (σ.1 34) ≤ x2 → vp_in ((12 * (σ.1 32)) + x2) (rf_n 35) ∧ (¬ (lg_cmp (σ.2.2.2 35 ((12 * (σ.1 32)) + x2).toNatClampNeg) (σ.2.1 58)) = 0 → w_X12_rule_63 post n σ x1 (x2 + 1)) ∧ ((lg_cmp (σ.2.2.2 35 ((12 * (σ.1 32)) + x2).toNatClampNeg) (σ.2.1 58)) = 0 → wp_X12_wrong (fun r28 σ28 => narrow .boolean (.int r28) = .int r28 ∧ post r28 σ28) σ 5 (σ.1 55)))
section
variable {p : Program} {l : Launch} {e : Env} {s : State} {m : MethodId} {args : Array Value} {below : List Frame} {meth : Method} {c : Code} {P : hw_G} {o : Nat} {ad : Nat → Nat}
set_option maxRecDepth 100000 in
set_option maxHeartbeats 4000000 in
theorem t_X12_rule_63 {post : Int32 → rf_S → Prop} (hC : rf_C P RX12 p s m meth c cX12_rule 3 (some .boolean)) : ∀ (n : Nat) (σ : rf_S) (x1 : Int32) (x2 : Int32) (H : Heap) (locs : List Loc) (ls : Array Slot), w_X12_rule_63 post n σ x1 x2 → rf_T P s (rf_A o ad) o ad σ H locs → lv_has ls 3 [(0, .ref o), (1, .int x1), (2, .int x2)] → W p l e rm_X12_rule s m args below meth c H locs 0 0 (MQ below (rf_Qi P o ad post) args s 0 0 (rf_A o ad)) (F0 m 63 ls []) := by
  obtain ⟨hx, hb, hml, hown, hK, -, -⟩ := id hC
  intro n
  induction n with
  | zero => intro σ x1 x2 H locs ls h; exact False.elim h
  | succ n ih =>
    intro σ x1 x2 H locs ls h hT hl
    refine lv_iload_n hx hb dX12_rule_63 rfl (lv_at hl 2 rfl) ?_
    refine lv_aload_n hx hb dX12_rule_64 rfl (lv_at hl 0 rfl) ?_
    refine rf_get hx hb hK hT hown 34 (by decide) kfX12_371 (v := .int (σ.1 34)) rfl dX12_rule_65 ?_
    refine lv_icmp_ge (tgt := 109) hx hb dX12_rule_68 (by decide) (fun hc => ?_) (fun hc => ?_)
    · have h := h.1 hc
      refine lv_aload_n hx hb dX12_rule_109 rfl (lv_at hl 0 rfl) ?_
      refine rf_get hx hb hK hT hown 35 (by decide) kfX12_199 (v := .ref (ad 35)) rfl dX12_rule_110 ?_
      refine lv_iload_n hx hb dX12_rule_113 rfl (lv_at hl 1 rfl) ?_
      refine lv_aload_n hx hb dX12_rule_114 rfl (lv_at hl 0 rfl) ?_
      refine rf_get hx hb hK hT hown 58 (by decide) kfX12_337 (v := .long (σ.2.1 58)) rfl dX12_rule_115 ?_
      obtain ⟨hi, h⟩ := h
      refine rf_last hx hb hK hT 35 (by decide) rfl hi dX12_rule_118 (fun H locs hT => ?_)
      refine lv_aload_n hx hb dX12_rule_119 rfl (lv_at hl 0 rfl) ?_
      refine rf_callv (rf_runV hx hb hml hown hK hT (c_X12_next h) rfl rfl klX12_359 ki_X12_next ks_X12_next kn_X12 kc_X12_next 0 ⟨rfl, by decide, by decide, by decide +kernel⟩ ⟨by decide, by decide⟩ rfl hl.1 rfl (Nat.le_of_ble_eq_true rfl) ⟨Nat.le_refl _, Nat.le_refl _⟩ dX12_rule_120) hT (fun σ24 H locs h hT => ?_)
      refine lv_aload_n hx hb dX12_rule_123 rfl (lv_at hl 0 rfl) ?_
      refine rf_get hx hb hK hT hown 40 (by decide) kfX12_214 (v := .ref (ad 40)) rfl dX12_rule_124 ?_
      refine lv_iload_n hx hb dX12_rule_127 rfl (lv_at hl 1 rfl) ?_
      refine lv_iconst (v := 0) hx hb dX12_rule_128 (by decide) ?_
      obtain ⟨hi, h⟩ := h
      refine rf_iast hx hb hK hT 40 (by decide) rfl hi dX12_rule_129 (fun H locs hT => ?_)
      refine lv_aload_n hx hb dX12_rule_130 rfl (lv_at hl 0 rfl) ?_
      refine rf_get hx hb hK hT hown 42 (by decide) kfX12_220 (v := .ref (ad 42)) rfl dX12_rule_131 ?_
      refine lv_iload_n hx hb dX12_rule_134 rfl (lv_at hl 1 rfl) ?_
      refine lv_iconst (v := (-1)) hx hb dX12_rule_135 (by decide) ?_
      obtain ⟨hi, h⟩ := h
      refine rf_iast hx hb hK hT 42 (by decide) rfl hi dX12_rule_136 (fun H locs hT => ?_)
      refine lv_aload_n hx hb dX12_rule_137 rfl (lv_at hl 0 rfl) ?_
      refine rf_get hx hb hK hT hown 43 (by decide) kfX12_223 (v := .ref (ad 43)) rfl dX12_rule_138 ?_
      refine lv_iload_n hx hb dX12_rule_141 rfl (lv_at hl 1 rfl) ?_
      refine lv_iconst (v := 0) hx hb dX12_rule_142 (by decide) ?_
      obtain ⟨hi, h⟩ := h
      refine rf_iast hx hb hK hT 43 (by decide) rfl hi dX12_rule_143 (fun H locs hT => ?_)
      refine lv_aload_n hx hb dX12_rule_144 rfl (lv_at hl 0 rfl) ?_
      refine rf_get hx hb hK hT hown 45 (by decide) kfX12_229 (v := .ref (ad 45)) rfl dX12_rule_145 ?_
      refine lv_iload_n hx hb dX12_rule_148 rfl (lv_at hl 1 rfl) ?_
      refine lv_iconst (v := 0) hx hb dX12_rule_149 (by decide) ?_
      obtain ⟨hi, h⟩ := h
      refine rf_iast hx hb hK hT 45 (by decide) rfl hi dX12_rule_150 (fun H locs hT => ?_)
      refine lv_aload_n hx hb dX12_rule_151 rfl (lv_at hl 0 rfl) ?_
      refine rf_get hx hb hK hT hown 39 (by decide) kfX12_211 (v := .ref (ad 39)) rfl dX12_rule_152 ?_
      refine lv_iload_n hx hb dX12_rule_155 rfl (lv_at hl 1 rfl) ?_
      refine lv_iconst (v := 0) hx hb dX12_rule_156 (by decide) ?_
      obtain ⟨hi, h⟩ := h
      refine rf_iast hx hb hK hT 39 (by decide) rfl hi dX12_rule_157 (fun H locs hT => ?_)
      refine lv_aload_n hx hb dX12_rule_158 rfl (lv_at hl 0 rfl) ?_
      refine rf_get hx hb hK hT hown 36 (by decide) kfX12_202 (v := .ref (ad 36)) rfl dX12_rule_159 ?_
      refine lv_iload_n hx hb dX12_rule_162 rfl (lv_at hl 1 rfl) ?_
      refine lv_lconst (v := 0) hx hb dX12_rule_163 (by decide) ?_
      obtain ⟨hi, h⟩ := h
      refine rf_last hx hb hK hT 36 (by decide) rfl hi dX12_rule_164 (fun H locs hT => ?_)
      refine lv_aload_n hx hb dX12_rule_165 rfl (lv_at hl 0 rfl) ?_
      refine lv_iload_n hx hb dX12_rule_166 rfl (lv_at hl 1 rfl) ?_
      refine rf_calli (rf_runV hx hb hml hown hK hT (c_X12_readWhat h) rfl rfl klX12_389 ki_X12_readWhat ks_X12_readWhat kn_X12 kc_X12_readWhat 1 ⟨rfl, by decide, by decide, by decide +kernel⟩ ⟨by decide, by decide⟩ rfl hl.1 rfl (Nat.le_of_ble_eq_true rfl) ⟨Nat.le_refl _, Nat.le_refl _⟩ dX12_rule_167) hT (fun r25 σ25 H locs h hT => ?_)
      refine lv_if_ne (tgt := 175) hx hb dX12_rule_170 (by decide) (fun hc => ?_) (fun hc => ?_)
      · have h := h.1 hc
        refine lv_aload_n hx hb dX12_rule_175 rfl (lv_at hl 0 rfl) ?_
        refine lv_iconst (v := 1) hx hb dX12_rule_176 (by decide) ?_
        refine rf_calli (rf_runV hx hb hml hown hK hT (c_X12_isWord h) rfl rfl klX12_353 ki_X12_isWord ks_X12_isWord kn_X12 kc_X12_isWord 1 ⟨rfl, by decide, by decide, by decide +kernel⟩ ⟨by decide, by decide⟩ rfl hl.1 rfl (Nat.le_of_ble_eq_true rfl) ⟨Nat.le_refl _, Nat.le_refl _⟩ dX12_rule_177) hT (fun r26 σ26 H locs h hT => ?_)
        refine lv_if_eq (tgt := 193) hx hb dX12_rule_180 (by decide) (fun hc => ?_) (fun hc => ?_)
        · have h := h.1 hc
          exact t_X12_rule_193 hC σ26 x1 _ _ _ h hT (lv_sub hl [0, 1] rfl)
        · have h := h.2 hc
          refine lv_aload_n hx hb dX12_rule_183 rfl (lv_at hl 0 rfl) ?_
          refine lv_iload_n hx hb dX12_rule_184 rfl (lv_at hl 1 rfl) ?_
          refine rf_calli (rf_runV hx hb hml hown hK hT (c_X12_readBy h) rfl rfl klX12_392 ki_X12_readBy ks_X12_readBy kn_X12 kc_X12_readBy 1 ⟨rfl, by decide, by decide, by decide +kernel⟩ ⟨by decide, by decide⟩ rfl hl.1 rfl (Nat.le_of_ble_eq_true rfl) ⟨Nat.le_refl _, Nat.le_refl _⟩ dX12_rule_185) hT (fun r27 σ27 H locs h hT => ?_)
          refine lv_if_ne (tgt := 193) hx hb dX12_rule_188 (by decide) (fun hc => ?_) (fun hc => ?_)
          · have h := h.1 hc
            exact t_X12_rule_193 hC σ27 x1 _ _ _ h hT (lv_sub hl [0, 1] rfl)
          · have h := h.2 hc
            refine lv_iconst (v := 0) hx hb dX12_rule_191 (by decide) ?_
            exact rf_zret hC hT rfl h dX12_rule_192
      · have h := h.2 hc
        refine lv_iconst (v := 0) hx hb dX12_rule_173 (by decide) ?_
        exact rf_zret hC hT rfl h dX12_rule_174
    · have h := h.2 hc
      refine lv_aload_n hx hb dX12_rule_71 rfl (lv_at hl 0 rfl) ?_
      refine rf_get hx hb hK hT hown 35 (by decide) kfX12_199 (v := .ref (ad 35)) rfl dX12_rule_72 ?_
      refine lv_bipush (v := 12) hx hb dX12_rule_75 (by decide) ?_
      refine lv_aload_n hx hb dX12_rule_77 rfl (lv_at hl 0 rfl) ?_
      refine rf_get hx hb hK hT hown 32 (by decide) kfX12_368 (v := .int (σ.1 32)) rfl dX12_rule_78 ?_
      refine lv_imul hx hb dX12_rule_81 ?_
      refine lv_iload_n hx hb dX12_rule_82 rfl (lv_at hl 2 rfl) ?_
      refine lv_iadd hx hb dX12_rule_83 ?_
      obtain ⟨hi, h⟩ := h
      refine rf_lald hx hb hK hT 35 (by decide) rfl hi (v := σ.2.2.2 35 ((12 * (σ.1 32)) + x2).toNatClampNeg) rfl dX12_rule_84 ?_
      refine lv_aload_n hx hb dX12_rule_85 rfl (lv_at hl 0 rfl) ?_
      refine rf_get hx hb hK hT hown 58 (by decide) kfX12_337 (v := .long (σ.2.1 58)) rfl dX12_rule_86 ?_
      refine W.lcmp hx hb dX12_rule_89 ?_
      refine lv_if_ne (tgt := 103) hx hb dX12_rule_90 (by decide) (fun hc => ?_) (fun hc => ?_)
      · have h := h.1 hc
        refine lv_iinc (v := x2 + 1) (lv' := [(2, _), (0, _), (1, _)]) hx hb dX12_rule_103 hl (k := 2) rfl rfl (by decide) rfl (fun ls hl => ?_)
        refine lv_goto (tgt := 63) hx hb dX12_rule_106 (by decide) ?_
        exact ih σ x1 (x2 + 1) _ _ _ h hT (lv_sub hl [1, 2, 0] rfl)
      · have h := h.2 hc
        refine lv_aload_n hx hb dX12_rule_93 rfl (lv_at hl 0 rfl) ?_
        refine lv_iconst (v := 5) hx hb dX12_rule_94 (by decide) ?_
        refine lv_aload_n hx hb dX12_rule_95 rfl (lv_at hl 0 rfl) ?_
        refine rf_get hx hb hK hT hown 55 (by decide) kfX12_313 (v := .int (σ.1 55)) rfl dX12_rule_96 ?_
        refine rf_calli (rf_runV hx hb hml hown hK hT (c_X12_wrong h) rfl rfl klX12_111 ki_X12_wrong ks_X12_wrong kn_X12 kc_X12_wrong 2 ⟨rfl, by decide, by decide, by decide +kernel⟩ ⟨by decide, by decide⟩ rfl hl.1 rfl (Nat.le_of_ble_eq_true rfl) ⟨Nat.le_refl _, Nat.le_refl _⟩ dX12_rule_99) hT (fun r28 σ28 H locs h hT => ?_)
        exact rf_zret hC hT h.1 h.2 dX12_rule_102
end
def wp_X12_rule (post : Int32 → rf_S → Prop) (σ : rf_S)  : Prop := wp_X12_isWord (fun r29 σ29 => (¬ r29 = 0 → (¬ (σ29.1 34) = 12 → wp_X12_next (fun σ30 => wp_X12_isName (fun r31 σ31 => (¬ r31 = 0 → ∃ n9, w_X12_rule_63 post n9 σ31 ((12 * (σ30.1 32)) + (σ30.1 34)) 0) ∧ (r31 = 0 → wp_X12_cant (fun r32 σ32 => narrow .boolean (.int r32) = .int r32 ∧ post r32 σ32) σ31)) σ30) σ29) ∧ ((σ29.1 34) = 12 → wp_X12_wrong (fun r33 σ33 => narrow .boolean (.int r33) = .int r33 ∧ post r33 σ33) σ29 4 (σ29.1 55))) ∧ (r29 = 0 → wp_X12_cant (fun r34 σ34 => narrow .boolean (.int r34) = .int r34 ∧ post r34 σ34) σ29)) σ 0
set_option maxRecDepth 100000 in
set_option maxHeartbeats 4000000 in
theorem c_X12_rule {l : Launch} {P : hw_G} {o : Nat} {ad : Nat → Nat} {σ : rf_S}  {post : Int32 → rf_S → Prop} (h : wp_X12_rule post σ ) : Met l yX12_rule [Cond.code yX12_rule cX12_rule 3 (some .boolean)] rm_X12_rule (rf_Pc P o ad σ [.ref o]) (rf_Qi P o ad post) 0 0 (rf_A o ad) := by
  refine rf_met (by decide) rfl (Nat.le_of_ble_eq_true rfl) ?_
  intro p e s m below meth c ls hC hT hl
  obtain ⟨hx, hb, hml, hown, hK, -, -⟩ := id hC
  have hl : lv_has ls 3 [(0, .ref o)] := hl
  refine lv_aload_n hx hb dX12_rule_0 rfl (lv_at hl 0 rfl) ?_
  refine lv_iconst (v := 0) hx hb dX12_rule_1 (by decide) ?_
  refine rf_calli (rf_runV hx hb hml hown hK hT (c_X12_isWord h) rfl rfl klX12_353 ki_X12_isWord ks_X12_isWord kn_X12 kc_X12_isWord 1 ⟨rfl, by decide, by decide, by decide +kernel⟩ ⟨by decide, by decide⟩ rfl hl.1 rfl (Nat.le_of_ble_eq_true rfl) ⟨Nat.le_refl _, Nat.le_refl _⟩ dX12_rule_2) hT (fun r29 σ29 H locs h hT => ?_)
  refine lv_if_ne (tgt := 13) hx hb dX12_rule_5 (by decide) (fun hc => ?_) (fun hc => ?_)
  · have h := h.1 hc
    refine lv_aload_n hx hb dX12_rule_13 rfl (lv_at hl 0 rfl) ?_
    refine rf_get hx hb hK hT hown 34 (by decide) kfX12_371 (v := .int (σ29.1 34)) rfl dX12_rule_14 ?_
    refine lv_bipush (v := 12) hx hb dX12_rule_17 (by decide) ?_
    refine lv_icmp_ne (tgt := 32) hx hb dX12_rule_19 (by decide) (fun hc => ?_) (fun hc => ?_)
    · have h := h.1 hc
      refine lv_aload_n hx hb dX12_rule_32 rfl (lv_at hl 0 rfl) ?_
      refine rf_callv (rf_runV hx hb hml hown hK hT (c_X12_next h) rfl rfl klX12_359 ki_X12_next ks_X12_next kn_X12 kc_X12_next 0 ⟨rfl, by decide, by decide, by decide +kernel⟩ ⟨by decide, by decide⟩ rfl hl.1 rfl (Nat.le_of_ble_eq_true rfl) ⟨Nat.le_refl _, Nat.le_refl _⟩ dX12_rule_33) hT (fun σ30 H locs h hT => ?_)
      refine lv_bipush (v := 12) hx hb dX12_rule_36 (by decide) ?_
      refine lv_aload_n hx hb dX12_rule_38 rfl (lv_at hl 0 rfl) ?_
      refine rf_get hx hb hK hT hown 32 (by decide) kfX12_368 (v := .int (σ30.1 32)) rfl dX12_rule_39 ?_
      refine lv_imul hx hb dX12_rule_42 ?_
      refine lv_aload_n hx hb dX12_rule_43 rfl (lv_at hl 0 rfl) ?_
      refine rf_get hx hb hK hT hown 34 (by decide) kfX12_371 (v := .int (σ30.1 34)) rfl dX12_rule_44 ?_
      refine lv_iadd hx hb dX12_rule_47 ?_
      refine lv_istore_n (lv' := [(1, _), (0, _)]) hx hb dX12_rule_48 rfl hl (by decide) rfl (fun ls hl => ?_)
      refine lv_aload_n hx hb dX12_rule_49 rfl (lv_at hl 1 rfl) ?_
      refine rf_calli (rf_runV hx hb hml hown hK hT (c_X12_isName h) rfl rfl klX12_386 ki_X12_isName ks_X12_isName kn_X12 kc_X12_isName 0 ⟨rfl, by decide, by decide, by decide +kernel⟩ ⟨by decide, by decide⟩ rfl hl.1 rfl (Nat.le_of_ble_eq_true rfl) ⟨Nat.le_refl _, Nat.le_refl _⟩ dX12_rule_50) hT (fun r31 σ31 H locs h hT => ?_)
      refine lv_if_ne (tgt := 61) hx hb dX12_rule_53 (by decide) (fun hc => ?_) (fun hc => ?_)
      · have h := h.1 hc
        refine lv_iconst (v := 0) hx hb dX12_rule_61 (by decide) ?_
        refine lv_istore_n (lv' := [(2, _), (1, _), (0, _)]) hx hb dX12_rule_62 rfl hl (by decide) rfl (fun ls hl => ?_)
        obtain ⟨n9, h⟩ := h
        exact t_X12_rule_63 hC n9 σ31 ((12 * (σ30.1 32)) + (σ30.1 34)) 0 _ _ _ h hT (lv_sub hl [2, 1, 0] rfl)
      · have h := h.2 hc
        refine lv_aload_n hx hb dX12_rule_56 rfl (lv_at hl 1 rfl) ?_
        refine rf_calli (rf_runV hx hb hml hown hK hT (c_X12_cant h) rfl rfl klX12_356 ki_X12_cant ks_X12_cant kn_X12 kc_X12_cant 0 ⟨rfl, by decide, by decide, by decide +kernel⟩ ⟨by decide, by decide⟩ rfl hl.1 rfl (Nat.le_of_ble_eq_true rfl) ⟨Nat.le_refl _, Nat.le_refl _⟩ dX12_rule_57) hT (fun r32 σ32 H locs h hT => ?_)
        exact rf_zret hC hT h.1 h.2 dX12_rule_60
    · have h := h.2 hc
      refine lv_aload_n hx hb dX12_rule_22 rfl (lv_at hl 0 rfl) ?_
      refine lv_iconst (v := 4) hx hb dX12_rule_23 (by decide) ?_
      refine lv_aload_n hx hb dX12_rule_24 rfl (lv_at hl 0 rfl) ?_
      refine rf_get hx hb hK hT hown 55 (by decide) kfX12_313 (v := .int (σ29.1 55)) rfl dX12_rule_25 ?_
      refine rf_calli (rf_runV hx hb hml hown hK hT (c_X12_wrong h) rfl rfl klX12_111 ki_X12_wrong ks_X12_wrong kn_X12 kc_X12_wrong 2 ⟨rfl, by decide, by decide, by decide +kernel⟩ ⟨by decide, by decide⟩ rfl hl.1 rfl (Nat.le_of_ble_eq_true rfl) ⟨Nat.le_refl _, Nat.le_refl _⟩ dX12_rule_28) hT (fun r33 σ33 H locs h hT => ?_)
      exact rf_zret hC hT h.1 h.2 dX12_rule_31
  · have h := h.2 hc
    refine lv_aload_n hx hb dX12_rule_8 rfl (lv_at hl 0 rfl) ?_
    refine rf_calli (rf_runV hx hb hml hown hK hT (c_X12_cant h) rfl rfl klX12_356 ki_X12_cant ks_X12_cant kn_X12 kc_X12_cant 0 ⟨rfl, by decide, by decide, by decide +kernel⟩ ⟨by decide, by decide⟩ rfl hl.1 rfl (Nat.le_of_ble_eq_true rfl) ⟨Nat.le_refl _, Nat.le_refl _⟩ dX12_rule_9) hT (fun r34 σ34 H locs h hT => ?_)
    exact rf_zret hC hT h.1 h.2 dX12_rule_12
/-! X12_text -/
abbrev rm_X12_text : Room := { frames := 70, cells := 0, slots := 0, locals := 2627 }
def w_X12_text_42 (post : Int32 → rf_S → Prop) (σ : rf_S) (y0 : Int32) : Prop := narrow .boolean (.int y0) = .int y0 ∧ post y0 σ
section
variable {p : Program} {l : Launch} {e : Env} {s : State} {m : MethodId} {args : Array Value} {below : List Frame} {meth : Method} {c : Code} {P : hw_G} {o : Nat} {ad : Nat → Nat}
set_option maxRecDepth 100000 in
set_option maxHeartbeats 4000000 in
theorem t_X12_text_42 {post : Int32 → rf_S → Prop} (hC : rf_C P RX12 p s m meth c cX12_text 1 (some .boolean)) (σ : rf_S) (y0 : Int32) (H : Heap) (locs : List Loc) (ls : Array Slot) (h : w_X12_text_42 post σ y0) (hT : rf_T P s (rf_A o ad) o ad σ H locs) (hl : lv_has ls 1 []) : W p l e rm_X12_text s m args below meth c H locs 0 0 (MQ below (rf_Qi P o ad post) args s 0 0 (rf_A o ad)) (F0 m 42 ls [.int y0]) := by
  obtain ⟨hx, hb, hml, hown, hK, -, -⟩ := id hC
  exact rf_zret hC hT h.1 h.2 dX12_text_42
end
def w_X12_text_37 (post : Int32 → rf_S → Prop) (σ : rf_S)  : Prop := w_X12_text_42 post σ 1
section
variable {p : Program} {l : Launch} {e : Env} {s : State} {m : MethodId} {args : Array Value} {below : List Frame} {meth : Method} {c : Code} {P : hw_G} {o : Nat} {ad : Nat → Nat}
set_option maxRecDepth 100000 in
set_option maxHeartbeats 4000000 in
theorem t_X12_text_37 {post : Int32 → rf_S → Prop} (hC : rf_C P RX12 p s m meth c cX12_text 1 (some .boolean)) (σ : rf_S)  (H : Heap) (locs : List Loc) (ls : Array Slot) (h : w_X12_text_37 post σ ) (hT : rf_T P s (rf_A o ad) o ad σ H locs) (hl : lv_has ls 1 []) : W p l e rm_X12_text s m args below meth c H locs 0 0 (MQ below (rf_Qi P o ad post) args s 0 0 (rf_A o ad)) (F0 m 37 ls []) := by
  obtain ⟨hx, hb, hml, hown, hK, -, -⟩ := id hC
  refine lv_iconst (v := 1) hx hb dX12_text_37 (by decide) ?_
  refine lv_goto (tgt := 42) hx hb dX12_text_38 (by decide) ?_
  exact t_X12_text_42 hC σ 1 _ _ _ h hT (lv_sub hl [] rfl)
end
def w_X12_text_0 (post : Int32 → rf_S → Prop) : Nat → rf_S → Prop
  | 0, _ => False
  | n + 1, σ => ((σ.1 54) = 0 → ((σ.1 3) ≤ 2000 → w_X12_text_37 post σ) ∧ (¬ (σ.1 3) ≤ 2000 → wp_X12_wrong (fun r3 σ3 => (r3 = 0 → w_X12_text_42 post σ3 0) ∧ (¬ r3 = 0 → w_X12_text_37 post σ3)) σ 1 2000)) ∧ (¬ (σ.1 54) = 0 → wp_X12_rule (fun r4 σ4 => (¬ r4 = 0 → w_X12_text_0 post n σ4) ∧ (r4 = 0 → post 0 σ4)) σ)
section
variable {p : Program} {l : Launch} {e : Env} {s : State} {m : MethodId} {args : Array Value} {below : List Frame} {meth : Method} {c : Code} {P : hw_G} {o : Nat} {ad : Nat → Nat}
set_option maxRecDepth 100000 in
set_option maxHeartbeats 4000000 in
theorem t_X12_text_0 {post : Int32 → rf_S → Prop} (hC : rf_C P RX12 p s m meth c cX12_text 1 (some .boolean)) : ∀ (n : Nat) (σ : rf_S)  (H : Heap) (locs : List Loc) (ls : Array Slot), w_X12_text_0 post n σ  → rf_T P s (rf_A o ad) o ad σ H locs → lv_has ls 1 [(0, .ref o)] → W p l e rm_X12_text s m args below meth c H locs 0 0 (MQ below (rf_Qi P o ad post) args s 0 0 (rf_A o ad)) (F0 m 0 ls []) := by
  obtain ⟨hx, hb, hml, hown, hK, -, -⟩ := id hC
  intro n
  induction n with
  | zero => intro σ  H locs ls h; exact False.elim h
  | succ n ih =>
    intro σ  H locs ls h hT hl
    refine lv_aload_n hx hb dX12_text_0 rfl (lv_at hl 0 rfl) ?_
    refine rf_get hx hb hK hT hown 54 (by decide) kfX12_316 (v := .int (σ.1 54)) rfl dX12_text_1 ?_
    refine lv_if_eq (tgt := 16) hx hb dX12_text_4 (by decide) (fun hc => ?_) (fun hc => ?_)
    · have h := h.1 hc
      refine lv_aload_n hx hb dX12_text_16 rfl (lv_at hl 0 rfl) ?_
      refine rf_get hx hb hK hT hown 3 (by decide) kfX12_24 (v := .int (σ.1 3)) rfl dX12_text_17 ?_
      refine lv_sipush (v := 2000) hx hb dX12_text_20 (by decide) ?_
      refine lv_icmp_le (tgt := 37) hx hb dX12_text_23 (by decide) (fun hc => ?_) (fun hc => ?_)
      · have h := h.1 hc
        exact t_X12_text_37 hC σ _ _ _ h hT (lv_sub hl [] rfl)
      · have h := h.2 hc
        refine lv_aload_n hx hb dX12_text_26 rfl (lv_at hl 0 rfl) ?_
        refine lv_iconst (v := 1) hx hb dX12_text_27 (by decide) ?_
        refine lv_sipush (v := 2000) hx hb dX12_text_28 (by decide) ?_
        refine rf_calli (rf_runV hx hb hml hown hK hT (c_X12_wrong h) rfl rfl klX12_111 ki_X12_wrong ks_X12_wrong kn_X12 kc_X12_wrong 2 ⟨rfl, by decide, by decide, by decide +kernel⟩ ⟨by decide, by decide⟩ rfl hl.1 rfl (Nat.le_of_ble_eq_true rfl) ⟨Nat.le_refl _, Nat.le_refl _⟩ dX12_text_31) hT (fun r3 σ3 H locs h hT => ?_)
        refine lv_if_eq (tgt := 41) hx hb dX12_text_34 (by decide) (fun hc => ?_) (fun hc => ?_)
        · have h := h.1 hc
          refine lv_iconst (v := 0) hx hb dX12_text_41 (by decide) ?_
          exact t_X12_text_42 hC σ3 0 _ _ _ h hT (lv_sub hl [] rfl)
        · have h := h.2 hc
          exact t_X12_text_37 hC σ3 _ _ _ h hT (lv_sub hl [] rfl)
    · have h := h.2 hc
      refine lv_aload_n hx hb dX12_text_7 rfl (lv_at hl 0 rfl) ?_
      refine rf_calli (rf_runV hx hb hml hown hK hT (c_X12_rule h) rfl rfl klX12_383 ki_X12_rule ks_X12_rule kn_X12 kc_X12_rule 0 ⟨rfl, by decide, by decide, by decide +kernel⟩ ⟨by decide, by decide⟩ rfl hl.1 rfl (Nat.le_of_ble_eq_true rfl) ⟨Nat.le_refl _, Nat.le_refl _⟩ dX12_text_8) hT (fun r4 σ4 H locs h hT => ?_)
      refine lv_if_ne (tgt := 0) hx hb dX12_text_11 (by decide) (fun hc => ?_) (fun hc => ?_)
      · have h := h.1 hc
        exact ih σ4 _ _ _ h hT (lv_sub hl [0] rfl)
      · have h := h.2 hc
        refine lv_iconst (v := 0) hx hb dX12_text_14 (by decide) ?_
        exact rf_zret hC hT rfl h dX12_text_15
end
def wp_X12_text (post : Int32 → rf_S → Prop) (σ : rf_S)  : Prop := ∃ n9, w_X12_text_0 post n9 σ
set_option maxRecDepth 100000 in
set_option maxHeartbeats 4000000 in
theorem c_X12_text {l : Launch} {P : hw_G} {o : Nat} {ad : Nat → Nat} {σ : rf_S}  {post : Int32 → rf_S → Prop} (h : wp_X12_text post σ ) : Met l yX12_text [Cond.code yX12_text cX12_text 1 (some .boolean)] rm_X12_text (rf_Pc P o ad σ [.ref o]) (rf_Qi P o ad post) 0 0 (rf_A o ad) := by
  refine rf_met (by decide) rfl (Nat.le_of_ble_eq_true rfl) ?_
  intro p e s m below meth c ls hC hT hl
  obtain ⟨hx, hb, hml, hown, hK, -, -⟩ := id hC
  have hl : lv_has ls 1 [(0, .ref o)] := hl
  obtain ⟨n9, h⟩ := h
  exact t_X12_text_0 hC n9 σ _ _ _ h hT (lv_sub hl [0] rfl)
/-! X12_rules -/
abbrev rm_X12_rules : Room := { frames := 71, cells := 0, slots := 0, locals := 2647 }
def w_X12_rules_62 (post : Int32 → rf_S → Prop) : Nat → rf_S → Int32 → Prop
  | 0, _, _ => False
  | n + 1, σ, x1 => ((σ.1 3) ≤ x1 → wp_X12_next (fun σ4 => wp_X12_text (fun r5 σ5 => (¬ r5 = 0 → wp_X12_emptyLog (fun σ6 => post (σ6.1 33) σ6) (rf_ui σ5 33 (σ5.1 34))) ∧ (r5 = 0 → post (((-1)) - (σ5.1 6)) (rf_ui σ5 32 (1 - (σ5.1 32))))) σ4) σ) ∧ (¬ (σ.1 3) ≤ x1 → vp_in x1 (rf_n 1) ∧ vp_in ((2120 * (σ.1 32)) + x1) (rf_n 46) ∧ w_X12_rules_62 post n (rf_ua σ 46 ((2120 * (σ.1 32)) + x1).toNatClampNeg (vp_nar .byte (σ.2.2.1 1 x1.toNatClampNeg))) (x1 + 1))
section
variable {p : Program} {l : Launch} {e : Env} {s : State} {m : MethodId} {args : Array Value} {below : List Frame} {meth : Method} {c : Code} {P : hw_G} {o : Nat} {ad : Nat → Nat}
set_option maxRecDepth 100000 in
set_option maxHeartbeats 4000000 in
theorem t_X12_rules_62 {post : Int32 → rf_S → Prop} (hC : rf_C P RX12 p s m meth c cX12_rules 2 (some .int)) : ∀ (n : Nat) (σ : rf_S) (x1 : Int32) (H : Heap) (locs : List Loc) (ls : Array Slot), w_X12_rules_62 post n σ x1 → rf_T P s (rf_A o ad) o ad σ H locs → lv_has ls 2 [(0, .ref o), (1, .int x1)] → W p l e rm_X12_rules s m args below meth c H locs 0 0 (MQ below (rf_Qi P o ad post) args s 0 0 (rf_A o ad)) (F0 m 62 ls []) := by
  obtain ⟨hx, hb, hml, hown, hK, -, -⟩ := id hC
  intro n
  induction n with
  | zero => intro σ x1 H locs ls h; exact False.elim h
  | succ n ih =>
    intro σ x1 H locs ls h hT hl
    refine lv_iload_n hx hb dX12_rules_62 rfl (lv_at hl 1 rfl) ?_
    refine lv_aload_n hx hb dX12_rules_63 rfl (lv_at hl 0 rfl) ?_
    refine rf_get hx hb hK hT hown 3 (by decide) kfX12_24 (v := .int (σ.1 3)) rfl dX12_rules_64 ?_
    refine lv_icmp_ge (tgt := 97) hx hb dX12_rules_67 (by decide) (fun hc => ?_) (fun hc => ?_)
    · have h := h.1 hc
      refine lv_aload_n hx hb dX12_rules_97 rfl (lv_at hl 0 rfl) ?_
      refine rf_callv (rf_runV hx hb hml hown hK hT (c_X12_next h) rfl rfl klX12_359 ki_X12_next ks_X12_next kn_X12 kc_X12_next 0 ⟨rfl, by decide, by decide, by decide +kernel⟩ ⟨by decide, by decide⟩ rfl hl.1 rfl (Nat.le_of_ble_eq_true rfl) ⟨Nat.le_refl _, Nat.le_refl _⟩ dX12_rules_98) hT (fun σ4 H locs h hT => ?_)
      refine lv_aload_n hx hb dX12_rules_101 rfl (lv_at hl 0 rfl) ?_
      refine rf_calli (rf_runV hx hb hml hown hK hT (c_X12_text h) rfl rfl klX12_377 ki_X12_text ks_X12_text kn_X12 kc_X12_text 0 ⟨rfl, by decide, by decide, by decide +kernel⟩ ⟨by decide, by decide⟩ rfl hl.1 rfl (Nat.le_of_ble_eq_true rfl) ⟨Nat.le_refl _, Nat.le_refl _⟩ dX12_rules_102) hT (fun r5 σ5 H locs h hT => ?_)
      refine lv_if_ne (tgt := 125) hx hb dX12_rules_105 (by decide) (fun hc => ?_) (fun hc => ?_)
      · have h := h.1 hc
        refine lv_aload_n hx hb dX12_rules_125 rfl (lv_at hl 0 rfl) ?_
        refine lv_aload_n hx hb dX12_rules_126 rfl (lv_at hl 0 rfl) ?_
        refine rf_get hx hb hK hT hown 34 (by decide) kfX12_371 (v := .int (σ5.1 34)) rfl dX12_rules_127 ?_
        refine rf_puti hx hb hK hT hown 33 (by decide) kfX12_380 rfl rfl dX12_rules_130 (fun H locs hT => ?_)
        refine lv_aload_n hx hb dX12_rules_133 rfl (lv_at hl 0 rfl) ?_
        refine rf_callv (rf_runV hx hb hml hown hK hT (c_X12_emptyLog h) rfl rfl klX12_310 ki_X12_emptyLog ks_X12_emptyLog kn_X12 kc_X12_emptyLog 0 ⟨rfl, by decide, by decide, by decide +kernel⟩ ⟨by decide, by decide⟩ rfl hl.1 rfl (Nat.le_of_ble_eq_true rfl) ⟨Nat.le_refl _, Nat.le_refl _⟩ dX12_rules_134) hT (fun σ6 H locs h hT => ?_)
        refine lv_aload_n hx hb dX12_rules_137 rfl (lv_at hl 0 rfl) ?_
        refine rf_get hx hb hK hT hown 33 (by decide) kfX12_380 (v := .int (σ6.1 33)) rfl dX12_rules_138 ?_
        exact rf_iret hC hT h dX12_rules_141
      · have h := h.2 hc
        refine lv_aload_n hx hb dX12_rules_108 rfl (lv_at hl 0 rfl) ?_
        refine lv_iconst (v := 1) hx hb dX12_rules_109 (by decide) ?_
        refine lv_aload_n hx hb dX12_rules_110 rfl (lv_at hl 0 rfl) ?_
        refine rf_get hx hb hK hT hown 32 (by decide) kfX12_368 (v := .int (σ5.1 32)) rfl dX12_rules_111 ?_
        refine lv_isub hx hb dX12_rules_114 ?_
        refine rf_puti hx hb hK hT hown 32 (by decide) kfX12_368 rfl rfl dX12_rules_115 (fun H locs hT => ?_)
        refine lv_iconst (v := (-1)) hx hb dX12_rules_118 (by decide) ?_
        refine lv_aload_n hx hb dX12_rules_119 rfl (lv_at hl 0 rfl) ?_
        refine rf_get hx hb hK hT hown 6 (by decide) kfX12_21 (v := .int (σ5.1 6)) rfl dX12_rules_120 ?_
        refine lv_isub hx hb dX12_rules_123 ?_
        exact rf_iret hC hT h dX12_rules_124
    · have h := h.2 hc
      refine lv_aload_n hx hb dX12_rules_70 rfl (lv_at hl 0 rfl) ?_
      refine rf_get hx hb hK hT hown 46 (by decide) kfX12_232 (v := .ref (ad 46)) rfl dX12_rules_71 ?_
      refine lv_sipush (v := 2120) hx hb dX12_rules_74 (by decide) ?_
      refine lv_aload_n hx hb dX12_rules_77 rfl (lv_at hl 0 rfl) ?_
      refine rf_get hx hb hK hT hown 32 (by decide) kfX12_368 (v := .int (σ.1 32)) rfl dX12_rules_78 ?_
      refine lv_imul hx hb dX12_rules_81 ?_
      refine lv_iload_n hx hb dX12_rules_82 rfl (lv_at hl 1 rfl) ?_
      refine lv_iadd hx hb dX12_rules_83 ?_
      refine lv_aload_n hx hb dX12_rules_84 rfl (lv_at hl 0 rfl) ?_
      refine rf_get hx hb hK hT hown 1 (by decide) kfX12_14 (v := .ref (ad 1)) rfl dX12_rules_85 ?_
      refine lv_iload_n hx hb dX12_rules_88 rfl (lv_at hl 1 rfl) ?_
      obtain ⟨hi, h⟩ := h
      refine rf_bald hx hb hK hT 1 (by decide) rfl hi (v := σ.2.2.1 1 x1.toNatClampNeg) rfl dX12_rules_89 ?_
      obtain ⟨hi, h⟩ := h
      refine rf_bast hx hb hK hT 46 (by decide) rfl hi dX12_rules_90 (fun H locs hT => ?_)
      refine lv_iinc (v := x1 + 1) (lv' := [(1, _), (0, _)]) hx hb dX12_rules_91 hl (k := 1) rfl rfl (by decide) rfl (fun ls hl => ?_)
      refine lv_goto (tgt := 62) hx hb dX12_rules_94 (by decide) ?_
      exact ih (rf_ua σ 46 ((2120 * (σ.1 32)) + x1).toNatClampNeg (vp_nar .byte (σ.2.2.1 1 x1.toNatClampNeg))) (x1 + 1) _ _ _ h hT (lv_sub hl [1, 0] rfl)
end
def wp_X12_rules (post : Int32 → rf_S → Prop) (σ : rf_S)  : Prop := ∃ n9, w_X12_rules_62 post n9 (rf_ui (rf_ui (rf_ui (rf_ui (rf_ui (rf_ui (rf_ui (rf_ui (rf_ui σ 0 0) 3 (σ.1 2)) 2 0) 4 0) 5 0) 7 ((-1))) 32 (1 - (σ.1 32))) 34 0) 53 (1100 * (1 - (σ.1 32)))) 0
set_option maxRecDepth 100000 in
set_option maxHeartbeats 4000000 in
theorem c_X12_rules {l : Launch} {P : hw_G} {o : Nat} {ad : Nat → Nat} {σ : rf_S}  {post : Int32 → rf_S → Prop} (h : wp_X12_rules post σ ) : Met l yX12_rules [Cond.code yX12_rules cX12_rules 2 (some .int)] rm_X12_rules (rf_Pc P o ad σ [.ref o]) (rf_Qi P o ad post) 0 0 (rf_A o ad) := by
  refine rf_met (by decide) rfl (Nat.le_of_ble_eq_true rfl) ?_
  intro p e s m below meth c ls hC hT hl
  obtain ⟨hx, hb, hml, hown, hK, -, -⟩ := id hC
  have hl : lv_has ls 2 [(0, .ref o)] := hl
  refine lv_aload_n hx hb dX12_rules_0 rfl (lv_at hl 0 rfl) ?_
  refine lv_iconst (v := 0) hx hb dX12_rules_1 (by decide) ?_
  refine rf_puti hx hb hK hT hown 0 (by decide) kfX12_3 rfl rfl dX12_rules_2 (fun H locs hT => ?_)
  refine lv_aload_n hx hb dX12_rules_5 rfl (lv_at hl 0 rfl) ?_
  refine lv_aload_n hx hb dX12_rules_6 rfl (lv_at hl 0 rfl) ?_
  refine rf_get hx hb hK hT hown 2 (by decide) kfX12_7 (v := .int (σ.1 2)) rfl dX12_rules_7 ?_
  refine rf_puti hx hb hK hT hown 3 (by decide) kfX12_24 rfl rfl dX12_rules_10 (fun H locs hT => ?_)
  refine lv_aload_n hx hb dX12_rules_13 rfl (lv_at hl 0 rfl) ?_
  refine lv_iconst (v := 0) hx hb dX12_rules_14 (by decide) ?_
  refine rf_puti hx hb hK hT hown 2 (by decide) kfX12_7 rfl rfl dX12_rules_15 (fun H locs hT => ?_)
  refine lv_aload_n hx hb dX12_rules_18 rfl (lv_at hl 0 rfl) ?_
  refine lv_iconst (v := 0) hx hb dX12_rules_19 (by decide) ?_
  refine rf_puti hx hb hK hT hown 4 (by decide) kfX12_104 rfl rfl dX12_rules_20 (fun H locs hT => ?_)
  refine lv_aload_n hx hb dX12_rules_23 rfl (lv_at hl 0 rfl) ?_
  refine lv_iconst (v := 0) hx hb dX12_rules_24 (by decide) ?_
  refine rf_puti hx hb hK hT hown 5 (by decide) kfX12_18 rfl rfl dX12_rules_25 (fun H locs hT => ?_)
  refine lv_aload_n hx hb dX12_rules_28 rfl (lv_at hl 0 rfl) ?_
  refine lv_iconst (v := (-1)) hx hb dX12_rules_29 (by decide) ?_
  refine rf_puti hx hb hK hT hown 7 (by decide) kfX12_161 rfl rfl dX12_rules_30 (fun H locs hT => ?_)
  refine lv_aload_n hx hb dX12_rules_33 rfl (lv_at hl 0 rfl) ?_
  refine lv_iconst (v := 1) hx hb dX12_rules_34 (by decide) ?_
  refine lv_aload_n hx hb dX12_rules_35 rfl (lv_at hl 0 rfl) ?_
  refine rf_get hx hb hK hT hown 32 (by decide) kfX12_368 (v := .int (σ.1 32)) rfl dX12_rules_36 ?_
  refine lv_isub hx hb dX12_rules_39 ?_
  refine rf_puti hx hb hK hT hown 32 (by decide) kfX12_368 rfl rfl dX12_rules_40 (fun H locs hT => ?_)
  refine lv_aload_n hx hb dX12_rules_43 rfl (lv_at hl 0 rfl) ?_
  refine lv_iconst (v := 0) hx hb dX12_rules_44 (by decide) ?_
  refine rf_puti hx hb hK hT hown 34 (by decide) kfX12_371 rfl rfl dX12_rules_45 (fun H locs hT => ?_)
  refine lv_aload_n hx hb dX12_rules_48 rfl (lv_at hl 0 rfl) ?_
  refine lv_sipush (v := 1100) hx hb dX12_rules_49 (by decide) ?_
  refine lv_aload_n hx hb dX12_rules_52 rfl (lv_at hl 0 rfl) ?_
  refine rf_get hx hb hK hT hown 32 (by decide) kfX12_368 (v := .int (1 - (σ.1 32))) rfl dX12_rules_53 ?_
  refine lv_imul hx hb dX12_rules_56 ?_
  refine rf_puti hx hb hK hT hown 53 (by decide) kfX12_374 rfl rfl dX12_rules_57 (fun H locs hT => ?_)
  refine lv_iconst (v := 0) hx hb dX12_rules_60 (by decide) ?_
  refine lv_istore_n (lv' := [(1, _), (0, _)]) hx hb dX12_rules_61 rfl hl (by decide) rfl (fun ls hl => ?_)
  obtain ⟨n9, h⟩ := h
  exact t_X12_rules_62 hC n9 (rf_ui (rf_ui (rf_ui (rf_ui (rf_ui (rf_ui (rf_ui (rf_ui (rf_ui σ 0 0) 3 (σ.1 2)) 2 0) 4 0) 5 0) 7 ((-1))) 32 (1 - (σ.1 32))) 34 0) 53 (1100 * (1 - (σ.1 32)))) 0 _ _ _ h hT (lv_sub hl [1, 0] rfl)
/-! X12_fault -/
abbrev rm_X12_fault : Room := { frames := 0, cells := 0, slots := 0, locals := 0 }
def wp_X12_fault (post : Int32 → rf_S → Prop) (σ : rf_S)  : Prop := post (σ.1 5) (rf_ui σ 0 0)
set_option maxRecDepth 100000 in
set_option maxHeartbeats 4000000 in
theorem c_X12_fault {l : Launch} {P : hw_G} {o : Nat} {ad : Nat → Nat} {σ : rf_S}  {post : Int32 → rf_S → Prop} (h : wp_X12_fault post σ ) : Met l yX12_fault [Cond.code yX12_fault cX12_fault 1 (some .int)] rm_X12_fault (rf_Pc P o ad σ [.ref o]) (rf_Qi P o ad post) 0 0 (rf_A o ad) := by
  refine rf_met (by decide) rfl (Nat.le_of_ble_eq_true rfl) ?_
  intro p e s m below meth c ls hC hT hl
  obtain ⟨hx, hb, hml, hown, hK, -, -⟩ := id hC
  have hl : lv_has ls 1 [(0, .ref o)] := hl
  refine lv_aload_n hx hb dX12_fault_0 rfl (lv_at hl 0 rfl) ?_
  refine lv_iconst (v := 0) hx hb dX12_fault_1 (by decide) ?_
  refine rf_puti hx hb hK hT hown 0 (by decide) kfX12_3 rfl rfl dX12_fault_2 (fun H locs hT => ?_)
  refine lv_aload_n hx hb dX12_fault_5 rfl (lv_at hl 0 rfl) ?_
  refine rf_get hx hb hK hT hown 5 (by decide) kfX12_18 (v := .int (σ.1 5)) rfl dX12_fault_6 ?_
  exact rf_iret hC hT h dX12_fault_9
/-! X12_place -/
abbrev rm_X12_place : Room := { frames := 0, cells := 0, slots := 0, locals := 0 }
def wp_X12_place (post : Int32 → rf_S → Prop) (σ : rf_S)  : Prop := post (σ.1 7) (rf_ui σ 0 0)
set_option maxRecDepth 100000 in
set_option maxHeartbeats 4000000 in
theorem c_X12_place {l : Launch} {P : hw_G} {o : Nat} {ad : Nat → Nat} {σ : rf_S}  {post : Int32 → rf_S → Prop} (h : wp_X12_place post σ ) : Met l yX12_place [Cond.code yX12_place cX12_place 1 (some .int)] rm_X12_place (rf_Pc P o ad σ [.ref o]) (rf_Qi P o ad post) 0 0 (rf_A o ad) := by
  refine rf_met (by decide) rfl (Nat.le_of_ble_eq_true rfl) ?_
  intro p e s m below meth c ls hC hT hl
  obtain ⟨hx, hb, hml, hown, hK, -, -⟩ := id hC
  have hl : lv_has ls 1 [(0, .ref o)] := hl
  refine lv_aload_n hx hb dX12_place_0 rfl (lv_at hl 0 rfl) ?_
  refine lv_iconst (v := 0) hx hb dX12_place_1 (by decide) ?_
  refine rf_puti hx hb hK hT hown 0 (by decide) kfX12_3 rfl rfl dX12_place_2 (fun H locs hT => ?_)
  refine lv_aload_n hx hb dX12_place_5 rfl (lv_at hl 0 rfl) ?_
  refine rf_get hx hb hK hT hown 7 (by decide) kfX12_161 (v := .int (σ.1 7)) rfl dX12_place_6 ?_
  exact rf_iret hC hT h dX12_place_9
/-! X12_count -/
abbrev rm_X12_count : Room := { frames := 0, cells := 0, slots := 0, locals := 0 }
def wp_X12_count (post : Int32 → rf_S → Prop) (σ : rf_S) (p1 : Int32) : Prop := (p1.toInt < 0 ∨ 7 < p1.toInt → post ((-1)) (rf_ui σ 0 0)) ∧ (p1.toInt = 0 → post (σ.1 33) (rf_ui σ 0 0)) ∧ (p1.toInt = 1 → post (σ.1 19) (rf_ui σ 0 0)) ∧ (p1.toInt = 2 → post (σ.1 23) (rf_ui σ 0 0)) ∧ (p1.toInt = 3 → post (σ.1 78) (rf_ui σ 0 0)) ∧ (p1.toInt = 4 → post (σ.1 79) (rf_ui σ 0 0)) ∧ (p1.toInt = 5 → post (σ.1 21) (rf_ui σ 0 0)) ∧ (p1.toInt = 6 → post (σ.1 2) (rf_ui σ 0 0)) ∧ (p1.toInt = 7 → post (σ.1 85) (rf_ui σ 0 0))
set_option maxRecDepth 100000 in
set_option maxHeartbeats 4000000 in
theorem c_X12_count {l : Launch} {P : hw_G} {o : Nat} {ad : Nat → Nat} {σ : rf_S} {p1 : Int32} {post : Int32 → rf_S → Prop} (h : wp_X12_count post σ p1) : Met l yX12_count [Cond.code yX12_count cX12_count 2 (some .int)] rm_X12_count (rf_Pc P o ad σ [.ref o, .int p1]) (rf_Qi P o ad post) 0 0 (rf_A o ad) := by
  refine rf_met (by decide) rfl (Nat.le_of_ble_eq_true rfl) ?_
  intro p e s m below meth c ls hC hT hl
  obtain ⟨hx, hb, hml, hown, hK, -, -⟩ := id hC
  have hl : lv_has ls 2 [(0, .ref o), (1, .int p1)] := hl
  refine lv_aload_n hx hb dX12_count_0 rfl (lv_at hl 0 rfl) ?_
  refine lv_iconst (v := 0) hx hb dX12_count_1 (by decide) ?_
  refine rf_puti hx hb hK hT hown 0 (by decide) kfX12_3 rfl rfl dX12_count_2 (fun H locs hT => ?_)
  refine lv_iload_n hx hb dX12_count_5 rfl (lv_at hl 1 rfl) ?_
  by_cases hz : p1.toInt < 0 ∨ 7 < p1.toInt
  · have h := h.1 hz
    refine lv_tableOut (tgt := 92) hx hb dX12_count_6 hz (by decide) ?_
    refine lv_iconst (v := (-1)) hx hb dX12_count_92 (by decide) ?_
    exact rf_iret hC hT h dX12_count_93
  have hz : p1.toInt = 0 ∨ p1.toInt = 1 ∨ p1.toInt = 2 ∨ p1.toInt = 3 ∨ p1.toInt = 4 ∨ p1.toInt = 5 ∨ p1.toInt = 6 ∨ p1.toInt = 7 := by omega
  rcases hz with hz | hz | hz | hz | hz | hz | hz | hz
  · have h := h.2.1 hz
    refine hw_tab (tgt := 52) hx hb hz dX12_count_6 (by decide) (by decide) (off := 46) rfl (by decide) ?_
    refine lv_aload_n hx hb dX12_count_52 rfl (lv_at hl 0 rfl) ?_
    refine rf_get hx hb hK hT hown 33 (by decide) kfX12_380 (v := .int (σ.1 33)) rfl dX12_count_53 ?_
    exact rf_iret hC hT h dX12_count_56
  · have h := h.2.2.1 hz
    refine hw_tab (tgt := 57) hx hb hz dX12_count_6 (by decide) (by decide) (off := 51) rfl (by decide) ?_
    refine lv_aload_n hx hb dX12_count_57 rfl (lv_at hl 0 rfl) ?_
    refine rf_get hx hb hK hT hown 19 (by decide) kfX12_58 (v := .int (σ.1 19)) rfl dX12_count_58 ?_
    exact rf_iret hC hT h dX12_count_61
  · have h := h.2.2.2.1 hz
    refine hw_tab (tgt := 62) hx hb hz dX12_count_6 (by decide) (by decide) (off := 56) rfl (by decide) ?_
    refine lv_aload_n hx hb dX12_count_62 rfl (lv_at hl 0 rfl) ?_
    refine rf_get hx hb hK hT hown 23 (by decide) kfX12_70 (v := .int (σ.1 23)) rfl dX12_count_63 ?_
    exact rf_iret hC hT h dX12_count_66
  · have h := h.2.2.2.2.1 hz
    refine hw_tab (tgt := 67) hx hb hz dX12_count_6 (by decide) (by decide) (off := 61) rfl (by decide) ?_
    refine lv_aload_n hx hb dX12_count_67 rfl (lv_at hl 0 rfl) ?_
    refine rf_get hx hb hK hT hown 78 (by decide) kfX12_74 (v := .int (σ.1 78)) rfl dX12_count_68 ?_
    exact rf_iret hC hT h dX12_count_71
  · have h := h.2.2.2.2.2.1 hz
    refine hw_tab (tgt := 72) hx hb hz dX12_count_6 (by decide) (by decide) (off := 66) rfl (by decide) ?_
    refine lv_aload_n hx hb dX12_count_72 rfl (lv_at hl 0 rfl) ?_
    refine rf_get hx hb hK hT hown 79 (by decide) kfX12_77 (v := .int (σ.1 79)) rfl dX12_count_73 ?_
    exact rf_iret hC hT h dX12_count_76
  · have h := h.2.2.2.2.2.2.1 hz
    refine hw_tab (tgt := 77) hx hb hz dX12_count_6 (by decide) (by decide) (off := 71) rfl (by decide) ?_
    refine lv_aload_n hx hb dX12_count_77 rfl (lv_at hl 0 rfl) ?_
    refine rf_get hx hb hK hT hown 21 (by decide) kfX12_64 (v := .int (σ.1 21)) rfl dX12_count_78 ?_
    exact rf_iret hC hT h dX12_count_81
  · have h := h.2.2.2.2.2.2.2.1 hz
    refine hw_tab (tgt := 82) hx hb hz dX12_count_6 (by decide) (by decide) (off := 76) rfl (by decide) ?_
    refine lv_aload_n hx hb dX12_count_82 rfl (lv_at hl 0 rfl) ?_
    refine rf_get hx hb hK hT hown 2 (by decide) kfX12_7 (v := .int (σ.1 2)) rfl dX12_count_83 ?_
    exact rf_iret hC hT h dX12_count_86
  · have h := h.2.2.2.2.2.2.2.2 hz
    refine hw_tab (tgt := 87) hx hb hz dX12_count_6 (by decide) (by decide) (off := 81) rfl (by decide) ?_
    refine lv_aload_n hx hb dX12_count_87 rfl (lv_at hl 0 rfl) ?_
    refine rf_get hx hb hK hT hown 85 (by decide) kfX12_504 (v := .int (σ.1 85)) rfl dX12_count_88 ?_
    exact rf_iret hC hT h dX12_count_91
/-! X12_alert -/
abbrev rm_X12_alert : Room := { frames := 1, cells := 0, slots := 0, locals := 21 }
def w_X12_alert_103 (post : Int32 → rf_S → Prop) (σ : rf_S) (y0 : Int32) : Prop := post y0 σ
section
variable {p : Program} {l : Launch} {e : Env} {s : State} {m : MethodId} {args : Array Value} {below : List Frame} {meth : Method} {c : Code} {P : hw_G} {o : Nat} {ad : Nat → Nat}
set_option maxRecDepth 100000 in
set_option maxHeartbeats 4000000 in
theorem t_X12_alert_103 {post : Int32 → rf_S → Prop} (hC : rf_C P RX12 p s m meth c cX12_alert 3 (some .int)) (σ : rf_S) (y0 : Int32) (H : Heap) (locs : List Loc) (ls : Array Slot) (h : w_X12_alert_103 post σ y0) (hT : rf_T P s (rf_A o ad) o ad σ H locs) (hl : lv_has ls 3 []) : W p l e rm_X12_alert s m args below meth c H locs 0 0 (MQ below (rf_Qi P o ad post) args s 0 0 (rf_A o ad)) (F0 m 103 ls [.int y0]) := by
  obtain ⟨hx, hb, hml, hown, hK, -, -⟩ := id hC
  exact rf_iret hC hT h dX12_alert_103
end
def w_X12_alert_34 (post : Int32 → rf_S → Prop) (σ : rf_S) (x1 : Int32) (x2 : Int32) (y1 : Int32) : Prop := wp_X12_throwsIf (fun r2 σ2 => (r2 = 0 → (¬ x2 = 0 → (¬ x2 = 1 → (¬ x2 = 2 → (¬ x2 = 3 → vp_in x1 (rf_n 76) ∧ w_X12_alert_103 post σ2 (σ2.2.2.1 76 x1.toNatClampNeg)) ∧ (x2 = 3 → vp_in x1 (rf_n 75) ∧ w_X12_alert_103 post σ2 (σ2.2.2.1 75 x1.toNatClampNeg))) ∧ (x2 = 2 → vp_in x1 (rf_n 74) ∧ w_X12_alert_103 post σ2 (σ2.2.2.1 74 x1.toNatClampNeg))) ∧ (x2 = 1 → vp_in x1 (rf_n 77) ∧ w_X12_alert_103 post σ2 (σ2.2.2.1 77 x1.toNatClampNeg))) ∧ (x2 = 0 → vp_in x1 (rf_n 73) ∧ w_X12_alert_103 post σ2 (σ2.2.2.1 73 x1.toNatClampNeg))) ∧ (¬ r2 = 0 → post 0 σ2)) σ y1
section
variable {p : Program} {l : Launch} {e : Env} {s : State} {m : MethodId} {args : Array Value} {below : List Frame} {meth : Method} {c : Code} {P : hw_G} {o : Nat} {ad : Nat → Nat}
set_option maxRecDepth 100000 in
set_option maxHeartbeats 4000000 in
theorem t_X12_alert_34 {post : Int32 → rf_S → Prop} (hC : rf_C P RX12 p s m meth c cX12_alert 3 (some .int)) (σ : rf_S) (x1 : Int32) (x2 : Int32) (y1 : Int32) (H : Heap) (locs : List Loc) (ls : Array Slot) (h : w_X12_alert_34 post σ x1 x2 y1) (hT : rf_T P s (rf_A o ad) o ad σ H locs) (hl : lv_has ls 3 [(0, .ref o), (1, .int x1), (2, .int x2)]) : W p l e rm_X12_alert s m args below meth c H locs 0 0 (MQ below (rf_Qi P o ad post) args s 0 0 (rf_A o ad)) (F0 m 34 ls [.int y1, .ref o]) := by
  obtain ⟨hx, hb, hml, hown, hK, -, -⟩ := id hC
  refine rf_calli (rf_runV hx hb hml hown hK hT (c_X12_throwsIf h) rfl rfl klX12_507 ki_X12_throwsIf ks_X12_throwsIf kn_X12 kc_X12_throwsIf 1 ⟨rfl, by decide, by decide, by decide +kernel⟩ ⟨by decide, by decide⟩ rfl hl.1 rfl (Nat.le_of_ble_eq_true rfl) ⟨Nat.le_refl _, Nat.le_refl _⟩ dX12_alert_34) hT (fun r2 σ2 H locs h hT => ?_)
  refine lv_if_eq (tgt := 42) hx hb dX12_alert_37 (by decide) (fun hc => ?_) (fun hc => ?_)
  · have h := h.1 hc
    refine lv_iload_n hx hb dX12_alert_42 rfl (lv_at hl 2 rfl) ?_
    refine lv_if_ne (tgt := 55) hx hb dX12_alert_43 (by decide) (fun hc => ?_) (fun hc => ?_)
    · have h := h.1 hc
      refine lv_iload_n hx hb dX12_alert_55 rfl (lv_at hl 2 rfl) ?_
      refine lv_iconst (v := 1) hx hb dX12_alert_56 (by decide) ?_
      refine lv_icmp_ne (tgt := 69) hx hb dX12_alert_57 (by decide) (fun hc => ?_) (fun hc => ?_)
      · have h := h.1 hc
        refine lv_iload_n hx hb dX12_alert_69 rfl (lv_at hl 2 rfl) ?_
        refine lv_iconst (v := 2) hx hb dX12_alert_70 (by decide) ?_
        refine lv_icmp_ne (tgt := 83) hx hb dX12_alert_71 (by decide) (fun hc => ?_) (fun hc => ?_)
        · have h := h.1 hc
          refine lv_iload_n hx hb dX12_alert_83 rfl (lv_at hl 2 rfl) ?_
          refine lv_iconst (v := 3) hx hb dX12_alert_84 (by decide) ?_
          refine lv_icmp_ne (tgt := 97) hx hb dX12_alert_85 (by decide) (fun hc => ?_) (fun hc => ?_)
          · have h := h.1 hc
            refine lv_aload_n hx hb dX12_alert_97 rfl (lv_at hl 0 rfl) ?_
            refine rf_get hx hb hK hT hown 76 (by decide) kfX12_284 (v := .ref (ad 76)) rfl dX12_alert_98 ?_
            refine lv_iload_n hx hb dX12_alert_101 rfl (lv_at hl 1 rfl) ?_
            obtain ⟨hi, h⟩ := h
            refine rf_sald hx hb hK hT 76 (by decide) rfl hi (v := σ2.2.2.1 76 x1.toNatClampNeg) rfl dX12_alert_102 ?_
            exact t_X12_alert_103 hC σ2 (σ2.2.2.1 76 x1.toNatClampNeg) _ _ _ h hT (lv_sub hl [] rfl)
          · have h := h.2 hc
            refine lv_aload_n hx hb dX12_alert_88 rfl (lv_at hl 0 rfl) ?_
            refine rf_get hx hb hK hT hown 75 (by decide) kfX12_281 (v := .ref (ad 75)) rfl dX12_alert_89 ?_
            refine lv_iload_n hx hb dX12_alert_92 rfl (lv_at hl 1 rfl) ?_
            obtain ⟨hi, h⟩ := h
            refine rf_sald hx hb hK hT 75 (by decide) rfl hi (v := σ2.2.2.1 75 x1.toNatClampNeg) rfl dX12_alert_93 ?_
            refine lv_goto (tgt := 103) hx hb dX12_alert_94 (by decide) ?_
            exact t_X12_alert_103 hC σ2 (σ2.2.2.1 75 x1.toNatClampNeg) _ _ _ h hT (lv_sub hl [] rfl)
        · have h := h.2 hc
          refine lv_aload_n hx hb dX12_alert_74 rfl (lv_at hl 0 rfl) ?_
          refine rf_get hx hb hK hT hown 74 (by decide) kfX12_278 (v := .ref (ad 74)) rfl dX12_alert_75 ?_
          refine lv_iload_n hx hb dX12_alert_78 rfl (lv_at hl 1 rfl) ?_
          obtain ⟨hi, h⟩ := h
          refine rf_sald hx hb hK hT 74 (by decide) rfl hi (v := σ2.2.2.1 74 x1.toNatClampNeg) rfl dX12_alert_79 ?_
          refine lv_goto (tgt := 103) hx hb dX12_alert_80 (by decide) ?_
          exact t_X12_alert_103 hC σ2 (σ2.2.2.1 74 x1.toNatClampNeg) _ _ _ h hT (lv_sub hl [] rfl)
      · have h := h.2 hc
        refine lv_aload_n hx hb dX12_alert_60 rfl (lv_at hl 0 rfl) ?_
        refine rf_get hx hb hK hT hown 77 (by decide) kfX12_287 (v := .ref (ad 77)) rfl dX12_alert_61 ?_
        refine lv_iload_n hx hb dX12_alert_64 rfl (lv_at hl 1 rfl) ?_
        obtain ⟨hi, h⟩ := h
        refine rf_iald hx hb hK hT 77 (by decide) rfl hi (v := σ2.2.2.1 77 x1.toNatClampNeg) rfl dX12_alert_65 ?_
        refine lv_goto (tgt := 103) hx hb dX12_alert_66 (by decide) ?_
        exact t_X12_alert_103 hC σ2 (σ2.2.2.1 77 x1.toNatClampNeg) _ _ _ h hT (lv_sub hl [] rfl)
    · have h := h.2 hc
      refine lv_aload_n hx hb dX12_alert_46 rfl (lv_at hl 0 rfl) ?_
      refine rf_get hx hb hK hT hown 73 (by decide) kfX12_275 (v := .ref (ad 73)) rfl dX12_alert_47 ?_
      refine lv_iload_n hx hb dX12_alert_50 rfl (lv_at hl 1 rfl) ?_
      obtain ⟨hi, h⟩ := h
      refine rf_sald hx hb hK hT 73 (by decide) rfl hi (v := σ2.2.2.1 73 x1.toNatClampNeg) rfl dX12_alert_51 ?_
      refine lv_goto (tgt := 103) hx hb dX12_alert_52 (by decide) ?_
      exact t_X12_alert_103 hC σ2 (σ2.2.2.1 73 x1.toNatClampNeg) _ _ _ h hT (lv_sub hl [] rfl)
  · have h := h.2 hc
    refine lv_iconst (v := 0) hx hb dX12_alert_40 (by decide) ?_
    exact rf_iret hC hT h dX12_alert_41
end
def w_X12_alert_29 (post : Int32 → rf_S → Prop) (σ : rf_S) (x1 : Int32) (x2 : Int32) : Prop := w_X12_alert_34 post σ x1 x2 1
section
variable {p : Program} {l : Launch} {e : Env} {s : State} {m : MethodId} {args : Array Value} {below : List Frame} {meth : Method} {c : Code} {P : hw_G} {o : Nat} {ad : Nat → Nat}
set_option maxRecDepth 100000 in
set_option maxHeartbeats 4000000 in
theorem t_X12_alert_29 {post : Int32 → rf_S → Prop} (hC : rf_C P RX12 p s m meth c cX12_alert 3 (some .int)) (σ : rf_S) (x1 : Int32) (x2 : Int32) (H : Heap) (locs : List Loc) (ls : Array Slot) (h : w_X12_alert_29 post σ x1 x2) (hT : rf_T P s (rf_A o ad) o ad σ H locs) (hl : lv_has ls 3 [(0, .ref o), (1, .int x1), (2, .int x2)]) : W p l e rm_X12_alert s m args below meth c H locs 0 0 (MQ below (rf_Qi P o ad post) args s 0 0 (rf_A o ad)) (F0 m 29 ls [.ref o]) := by
  obtain ⟨hx, hb, hml, hown, hK, -, -⟩ := id hC
  refine lv_iconst (v := 1) hx hb dX12_alert_29 (by decide) ?_
  refine lv_goto (tgt := 34) hx hb dX12_alert_30 (by decide) ?_
  exact t_X12_alert_34 hC σ x1 x2 1 _ _ _ h hT (lv_sub hl [0, 1, 2] rfl)
end
def wp_X12_alert (post : Int32 → rf_S → Prop) (σ : rf_S) (p1 : Int32) (p2 : Int32) : Prop := (p1 < 0 → w_X12_alert_29 post σ p1 p2) ∧ (¬ p1 < 0 → ((σ.1 78) ≤ p1 → w_X12_alert_29 post σ p1 p2) ∧ (¬ (σ.1 78) ≤ p1 → (500 ≤ p1 → w_X12_alert_29 post σ p1 p2) ∧ (¬ 500 ≤ p1 → (p2 < 0 → w_X12_alert_29 post σ p1 p2) ∧ (¬ p2 < 0 → (p2 ≤ 4 → w_X12_alert_34 post σ p1 p2 0) ∧ (¬ p2 ≤ 4 → w_X12_alert_29 post σ p1 p2)))))
set_option maxRecDepth 100000 in
set_option maxHeartbeats 4000000 in
theorem c_X12_alert {l : Launch} {P : hw_G} {o : Nat} {ad : Nat → Nat} {σ : rf_S} {p1 : Int32} {p2 : Int32} {post : Int32 → rf_S → Prop} (h : wp_X12_alert post σ p1 p2) : Met l yX12_alert [Cond.code yX12_alert cX12_alert 3 (some .int)] rm_X12_alert (rf_Pc P o ad σ [.ref o, .int p1, .int p2]) (rf_Qi P o ad post) 0 0 (rf_A o ad) := by
  refine rf_met (by decide) rfl (Nat.le_of_ble_eq_true rfl) ?_
  intro p e s m below meth c ls hC hT hl
  obtain ⟨hx, hb, hml, hown, hK, -, -⟩ := id hC
  have hl : lv_has ls 3 [(0, .ref o), (1, .int p1), (2, .int p2)] := hl
  refine lv_aload_n hx hb dX12_alert_0 rfl (lv_at hl 0 rfl) ?_
  refine lv_iload_n hx hb dX12_alert_1 rfl (lv_at hl 1 rfl) ?_
  refine lv_if_lt (tgt := 29) hx hb dX12_alert_2 (by decide) (fun hc => ?_) (fun hc => ?_)
  · have h := h.1 hc
    exact t_X12_alert_29 hC σ p1 p2 _ _ _ h hT (lv_sub hl [0, 1, 2] rfl)
  · have h := h.2 hc
    refine lv_iload_n hx hb dX12_alert_5 rfl (lv_at hl 1 rfl) ?_
    refine lv_aload_n hx hb dX12_alert_6 rfl (lv_at hl 0 rfl) ?_
    refine rf_get hx hb hK hT hown 78 (by decide) kfX12_74 (v := .int (σ.1 78)) rfl dX12_alert_7 ?_
    refine lv_icmp_ge (tgt := 29) hx hb dX12_alert_10 (by decide) (fun hc => ?_) (fun hc => ?_)
    · have h := h.1 hc
      exact t_X12_alert_29 hC σ p1 p2 _ _ _ h hT (lv_sub hl [0, 1, 2] rfl)
    · have h := h.2 hc
      refine lv_iload_n hx hb dX12_alert_13 rfl (lv_at hl 1 rfl) ?_
      refine lv_sipush (v := 500) hx hb dX12_alert_14 (by decide) ?_
      refine lv_icmp_ge (tgt := 29) hx hb dX12_alert_17 (by decide) (fun hc => ?_) (fun hc => ?_)
      · have h := h.1 hc
        exact t_X12_alert_29 hC σ p1 p2 _ _ _ h hT (lv_sub hl [0, 1, 2] rfl)
      · have h := h.2 hc
        refine lv_iload_n hx hb dX12_alert_20 rfl (lv_at hl 2 rfl) ?_
        refine lv_if_lt (tgt := 29) hx hb dX12_alert_21 (by decide) (fun hc => ?_) (fun hc => ?_)
        · have h := h.1 hc
          exact t_X12_alert_29 hC σ p1 p2 _ _ _ h hT (lv_sub hl [0, 1, 2] rfl)
        · have h := h.2 hc
          refine lv_iload_n hx hb dX12_alert_24 rfl (lv_at hl 2 rfl) ?_
          refine lv_iconst (v := 4) hx hb dX12_alert_25 (by decide) ?_
          refine lv_icmp_le (tgt := 33) hx hb dX12_alert_26 (by decide) (fun hc => ?_) (fun hc => ?_)
          · have h := h.1 hc
            refine lv_iconst (v := 0) hx hb dX12_alert_33 (by decide) ?_
            exact t_X12_alert_34 hC σ p1 p2 0 _ _ _ h hT (lv_sub hl [0, 1, 2] rfl)
          · have h := h.2 hc
            exact t_X12_alert_29 hC σ p1 p2 _ _ _ h hT (lv_sub hl [0, 1, 2] rfl)
/-! X12_key -/
abbrev rm_X12_key : Room := { frames := 1, cells := 0, slots := 0, locals := 24 }
def w_X12_key_162 (post : Int32 → rf_S → Prop) (σ : rf_S) (x3 : Int32) (x5 : Int32) (y1 : Int32) : Prop := wp_X12_throwsIf (fun r5 σ5 => (r5 = 0 → vp_in x5 (rf_n 16) ∧ vp_in (((σ5.2.2.1 16 x5.toNatClampNeg) + x3) - 2) (rf_n 18) ∧ post (σ5.2.2.1 18 (((σ5.2.2.1 16 x5.toNatClampNeg) + x3) - 2).toNatClampNeg) σ5) ∧ (¬ r5 = 0 → post 0 σ5)) σ y1
section
variable {p : Program} {l : Launch} {e : Env} {s : State} {m : MethodId} {args : Array Value} {below : List Frame} {meth : Method} {c : Code} {P : hw_G} {o : Nat} {ad : Nat → Nat}
set_option maxRecDepth 100000 in
set_option maxHeartbeats 4000000 in
theorem t_X12_key_162 {post : Int32 → rf_S → Prop} (hC : rf_C P RX12 p s m meth c cX12_key 6 (some .int)) (σ : rf_S) (x3 : Int32) (x5 : Int32) (y1 : Int32) (H : Heap) (locs : List Loc) (ls : Array Slot) (h : w_X12_key_162 post σ x3 x5 y1) (hT : rf_T P s (rf_A o ad) o ad σ H locs) (hl : lv_has ls 6 [(0, .ref o), (3, .int x3), (5, .int x5)]) : W p l e rm_X12_key s m args below meth c H locs 0 0 (MQ below (rf_Qi P o ad post) args s 0 0 (rf_A o ad)) (F0 m 162 ls [.int y1, .ref o]) := by
  obtain ⟨hx, hb, hml, hown, hK, -, -⟩ := id hC
  refine rf_calli (rf_runV hx hb hml hown hK hT (c_X12_throwsIf h) rfl rfl klX12_507 ki_X12_throwsIf ks_X12_throwsIf kn_X12 kc_X12_throwsIf 1 ⟨rfl, by decide, by decide, by decide +kernel⟩ ⟨by decide, by decide⟩ rfl hl.1 rfl (Nat.le_of_ble_eq_true rfl) ⟨Nat.le_refl _, Nat.le_refl _⟩ dX12_key_162) hT (fun r5 σ5 H locs h hT => ?_)
  refine lv_if_eq (tgt := 170) hx hb dX12_key_165 (by decide) (fun hc => ?_) (fun hc => ?_)
  · have h := h.1 hc
    refine lv_aload_n hx hb dX12_key_170 rfl (lv_at hl 0 rfl) ?_
    refine rf_get hx hb hK hT hown 18 (by decide) kfX12_34 (v := .ref (ad 18)) rfl dX12_key_171 ?_
    refine lv_aload_n hx hb dX12_key_174 rfl (lv_at hl 0 rfl) ?_
    refine rf_get hx hb hK hT hown 16 (by decide) kfX12_37 (v := .ref (ad 16)) rfl dX12_key_175 ?_
    refine lv_iload hx hb dX12_key_178 (lv_at hl 2 rfl) ?_
    obtain ⟨hi, h⟩ := h
    refine rf_iald hx hb hK hT 16 (by decide) rfl hi (v := σ5.2.2.1 16 x5.toNatClampNeg) rfl dX12_key_180 ?_
    refine lv_iload_n hx hb dX12_key_181 rfl (lv_at hl 1 rfl) ?_
    refine lv_iadd hx hb dX12_key_182 ?_
    refine lv_iconst (v := 2) hx hb dX12_key_183 (by decide) ?_
    refine lv_isub hx hb dX12_key_184 ?_
    obtain ⟨hi, h⟩ := h
    refine rf_bald hx hb hK hT 18 (by decide) rfl hi (v := σ5.2.2.1 18 (((σ5.2.2.1 16 x5.toNatClampNeg) + x3) - 2).toNatClampNeg) rfl dX12_key_185 ?_
    exact rf_iret hC hT h dX12_key_186
  · have h := h.2 hc
    refine lv_iconst (v := 0) hx hb dX12_key_168 (by decide) ?_
    exact rf_iret hC hT h dX12_key_169
end
def w_X12_key_157 (post : Int32 → rf_S → Prop) (σ : rf_S) (x3 : Int32) (x5 : Int32) : Prop := w_X12_key_162 post σ x3 x5 1
section
variable {p : Program} {l : Launch} {e : Env} {s : State} {m : MethodId} {args : Array Value} {below : List Frame} {meth : Method} {c : Code} {P : hw_G} {o : Nat} {ad : Nat → Nat}
set_option maxRecDepth 100000 in
set_option maxHeartbeats 4000000 in
theorem t_X12_key_157 {post : Int32 → rf_S → Prop} (hC : rf_C P RX12 p s m meth c cX12_key 6 (some .int)) (σ : rf_S) (x3 : Int32) (x5 : Int32) (H : Heap) (locs : List Loc) (ls : Array Slot) (h : w_X12_key_157 post σ x3 x5) (hT : rf_T P s (rf_A o ad) o ad σ H locs) (hl : lv_has ls 6 [(0, .ref o), (3, .int x3), (5, .int x5)]) : W p l e rm_X12_key s m args below meth c H locs 0 0 (MQ below (rf_Qi P o ad post) args s 0 0 (rf_A o ad)) (F0 m 157 ls [.ref o]) := by
  obtain ⟨hx, hb, hml, hown, hK, -, -⟩ := id hC
  refine lv_iconst (v := 1) hx hb dX12_key_157 (by decide) ?_
  refine lv_goto (tgt := 162) hx hb dX12_key_158 (by decide) ?_
  exact t_X12_key_162 hC σ x3 x5 1 _ _ _ h hT (lv_sub hl [0, 1, 2] rfl)
end
def w_X12_key_131 (post : Int32 → rf_S → Prop) (σ : rf_S) (y0 : Int32) : Prop := post y0 σ
section
variable {p : Program} {l : Launch} {e : Env} {s : State} {m : MethodId} {args : Array Value} {below : List Frame} {meth : Method} {c : Code} {P : hw_G} {o : Nat} {ad : Nat → Nat}
set_option maxRecDepth 100000 in
set_option maxHeartbeats 4000000 in
theorem t_X12_key_131 {post : Int32 → rf_S → Prop} (hC : rf_C P RX12 p s m meth c cX12_key 6 (some .int)) (σ : rf_S) (y0 : Int32) (H : Heap) (locs : List Loc) (ls : Array Slot) (h : w_X12_key_131 post σ y0) (hT : rf_T P s (rf_A o ad) o ad σ H locs) (hl : lv_has ls 6 []) : W p l e rm_X12_key s m args below meth c H locs 0 0 (MQ below (rf_Qi P o ad post) args s 0 0 (rf_A o ad)) (F0 m 131 ls [.int y0]) := by
  obtain ⟨hx, hb, hml, hown, hK, -, -⟩ := id hC
  exact rf_iret hC hT h dX12_key_131
end
def w_X12_key_74 (post : Int32 → rf_S → Prop) (σ : rf_S) (x1 : Int32) (x2 : Int32) (x3 : Int32) (x4 : Int32) (y1 : Int32) : Prop := wp_X12_throwsIf (fun r6 σ6 => (r6 = 0 → vp_in x1 (rf_n 75) ∧ vp_in ((3 * x4) + x2) (rf_n 37) ∧ wp_X12_fieldOf (fun r7 σ7 => (2 ≤ x3 → vp_in r7 (rf_n 14) ∧ (¬ (σ7.2.2.1 14 r7.toNatClampNeg) = 1 → w_X12_key_157 post σ7 x3 r7) ∧ ((σ7.2.2.1 14 r7.toNatClampNeg) = 1 → vp_in r7 (rf_n 15) ∧ ((x3 - 2) < (σ7.2.2.1 15 r7.toNatClampNeg) → w_X12_key_162 post σ7 x3 r7 0) ∧ (¬ (x3 - 2) < (σ7.2.2.1 15 r7.toNatClampNeg) → w_X12_key_157 post σ7 x3 r7))) ∧ (¬ 2 ≤ x3 → (¬ x3 = 0 → vp_in r7 (rf_n 15) ∧ w_X12_key_131 post σ7 (σ7.2.2.1 15 r7.toNatClampNeg)) ∧ (x3 = 0 → vp_in r7 (rf_n 14) ∧ w_X12_key_131 post σ7 (σ7.2.2.1 14 r7.toNatClampNeg)))) σ6 (σ6.2.2.1 75 x1.toNatClampNeg) (σ6.2.2.2 37 ((3 * x4) + x2).toNatClampNeg)) ∧ (¬ r6 = 0 → post 0 σ6)) σ y1
section
variable {p : Program} {l : Launch} {e : Env} {s : State} {m : MethodId} {args : Array Value} {below : List Frame} {meth : Method} {c : Code} {P : hw_G} {o : Nat} {ad : Nat → Nat}
set_option maxRecDepth 100000 in
set_option maxHeartbeats 4000000 in
theorem t_X12_key_74 {post : Int32 → rf_S → Prop} (hC : rf_C P RX12 p s m meth c cX12_key 6 (some .int)) (σ : rf_S) (x1 : Int32) (x2 : Int32) (x3 : Int32) (x4 : Int32) (y1 : Int32) (H : Heap) (locs : List Loc) (ls : Array Slot) (h : w_X12_key_74 post σ x1 x2 x3 x4 y1) (hT : rf_T P s (rf_A o ad) o ad σ H locs) (hl : lv_has ls 6 [(0, .ref o), (1, .int x1), (2, .int x2), (3, .int x3), (4, .int x4)]) : W p l e rm_X12_key s m args below meth c H locs 0 0 (MQ below (rf_Qi P o ad post) args s 0 0 (rf_A o ad)) (F0 m 74 ls [.int y1, .ref o]) := by
  obtain ⟨hx, hb, hml, hown, hK, -, -⟩ := id hC
  refine rf_calli (rf_runV hx hb hml hown hK hT (c_X12_throwsIf h) rfl rfl klX12_507 ki_X12_throwsIf ks_X12_throwsIf kn_X12 kc_X12_throwsIf 1 ⟨rfl, by decide, by decide, by decide +kernel⟩ ⟨by decide, by decide⟩ rfl hl.1 rfl (Nat.le_of_ble_eq_true rfl) ⟨Nat.le_refl _, Nat.le_refl _⟩ dX12_key_74) hT (fun r6 σ6 H locs h hT => ?_)
  refine lv_if_eq (tgt := 82) hx hb dX12_key_77 (by decide) (fun hc => ?_) (fun hc => ?_)
  · have h := h.1 hc
    refine lv_aload_n hx hb dX12_key_82 rfl (lv_at hl 0 rfl) ?_
    refine lv_aload_n hx hb dX12_key_83 rfl (lv_at hl 0 rfl) ?_
    refine rf_get hx hb hK hT hown 75 (by decide) kfX12_281 (v := .ref (ad 75)) rfl dX12_key_84 ?_
    refine lv_iload_n hx hb dX12_key_87 rfl (lv_at hl 1 rfl) ?_
    obtain ⟨hi, h⟩ := h
    refine rf_sald hx hb hK hT 75 (by decide) rfl hi (v := σ6.2.2.1 75 x1.toNatClampNeg) rfl dX12_key_88 ?_
    refine lv_aload_n hx hb dX12_key_89 rfl (lv_at hl 0 rfl) ?_
    refine rf_get hx hb hK hT hown 37 (by decide) kfX12_205 (v := .ref (ad 37)) rfl dX12_key_90 ?_
    refine lv_iconst (v := 3) hx hb dX12_key_93 (by decide) ?_
    refine lv_iload hx hb dX12_key_94 (lv_at hl 4 rfl) ?_
    refine lv_imul hx hb dX12_key_96 ?_
    refine lv_iload_n hx hb dX12_key_97 rfl (lv_at hl 2 rfl) ?_
    refine lv_iadd hx hb dX12_key_98 ?_
    obtain ⟨hi, h⟩ := h
    refine rf_lald hx hb hK hT 37 (by decide) rfl hi (v := σ6.2.2.2 37 ((3 * x4) + x2).toNatClampNeg) rfl dX12_key_99 ?_
    refine rf_calli (rf_runV hx hb hml hown hK hT (c_X12_fieldOf h) rfl rfl klX12_438 ki_X12_fieldOf ks_X12_fieldOf kn_X12 kc_X12_fieldOf 2 ⟨rfl, by decide, by decide, by decide +kernel⟩ ⟨by decide, by decide⟩ rfl hl.1 rfl (Nat.le_of_ble_eq_true rfl) ⟨Nat.le_refl _, Nat.le_refl _⟩ dX12_key_100) hT (fun r7 σ7 H locs h hT => ?_)
    refine lv_istore (lv' := [(5, _), (0, _), (1, _), (2, _), (3, _), (4, _)]) hx hb dX12_key_103 hl (by decide) rfl (fun ls hl => ?_)
    refine lv_iload_n hx hb dX12_key_105 rfl (lv_at hl 4 rfl) ?_
    refine lv_iconst (v := 2) hx hb dX12_key_106 (by decide) ?_
    refine lv_icmp_ge (tgt := 132) hx hb dX12_key_107 (by decide) (fun hc => ?_) (fun hc => ?_)
    · have h := h.1 hc
      refine lv_aload_n hx hb dX12_key_132 rfl (lv_at hl 1 rfl) ?_
      refine lv_aload_n hx hb dX12_key_133 rfl (lv_at hl 1 rfl) ?_
      refine rf_get hx hb hK hT hown 14 (by decide) kfX12_27 (v := .ref (ad 14)) rfl dX12_key_134 ?_
      refine lv_iload hx hb dX12_key_137 (lv_at hl 0 rfl) ?_
      obtain ⟨hi, h⟩ := h
      refine rf_bald hx hb hK hT 14 (by decide) rfl hi (v := σ7.2.2.1 14 r7.toNatClampNeg) rfl dX12_key_139 ?_
      refine lv_iconst (v := 1) hx hb dX12_key_140 (by decide) ?_
      refine lv_icmp_ne (tgt := 157) hx hb dX12_key_141 (by decide) (fun hc => ?_) (fun hc => ?_)
      · have h := h.1 hc
        exact t_X12_key_157 hC σ7 x3 r7 _ _ _ h hT (lv_sub hl [1, 4, 0] rfl)
      · have h := h.2 hc
        refine lv_iload_n hx hb dX12_key_144 rfl (lv_at hl 4 rfl) ?_
        refine lv_iconst (v := 2) hx hb dX12_key_145 (by decide) ?_
        refine lv_isub hx hb dX12_key_146 ?_
        refine lv_aload_n hx hb dX12_key_147 rfl (lv_at hl 1 rfl) ?_
        refine rf_get hx hb hK hT hown 15 (by decide) kfX12_30 (v := .ref (ad 15)) rfl dX12_key_148 ?_
        refine lv_iload hx hb dX12_key_151 (lv_at hl 0 rfl) ?_
        obtain ⟨hi, h⟩ := h
        refine rf_iald hx hb hK hT 15 (by decide) rfl hi (v := σ7.2.2.1 15 r7.toNatClampNeg) rfl dX12_key_153 ?_
        refine lv_icmp_lt (tgt := 161) hx hb dX12_key_154 (by decide) (fun hc => ?_) (fun hc => ?_)
        · have h := h.1 hc
          refine lv_iconst (v := 0) hx hb dX12_key_161 (by decide) ?_
          exact t_X12_key_162 hC σ7 x3 r7 0 _ _ _ h hT (lv_sub hl [1, 4, 0] rfl)
        · have h := h.2 hc
          exact t_X12_key_157 hC σ7 x3 r7 _ _ _ h hT (lv_sub hl [1, 4, 0] rfl)
    · have h := h.2 hc
      refine lv_iload_n hx hb dX12_key_110 rfl (lv_at hl 4 rfl) ?_
      refine lv_if_ne (tgt := 124) hx hb dX12_key_111 (by decide) (fun hc => ?_) (fun hc => ?_)
      · have h := h.1 hc
        refine lv_aload_n hx hb dX12_key_124 rfl (lv_at hl 1 rfl) ?_
        refine rf_get hx hb hK hT hown 15 (by decide) kfX12_30 (v := .ref (ad 15)) rfl dX12_key_125 ?_
        refine lv_iload hx hb dX12_key_128 (lv_at hl 0 rfl) ?_
        obtain ⟨hi, h⟩ := h
        refine rf_iald hx hb hK hT 15 (by decide) rfl hi (v := σ7.2.2.1 15 r7.toNatClampNeg) rfl dX12_key_130 ?_
        exact t_X12_key_131 hC σ7 (σ7.2.2.1 15 r7.toNatClampNeg) _ _ _ h hT (lv_sub hl [] rfl)
      · have h := h.2 hc
        refine lv_aload_n hx hb dX12_key_114 rfl (lv_at hl 1 rfl) ?_
        refine rf_get hx hb hK hT hown 14 (by decide) kfX12_27 (v := .ref (ad 14)) rfl dX12_key_115 ?_
        refine lv_iload hx hb dX12_key_118 (lv_at hl 0 rfl) ?_
        obtain ⟨hi, h⟩ := h
        refine rf_bald hx hb hK hT 14 (by decide) rfl hi (v := σ7.2.2.1 14 r7.toNatClampNeg) rfl dX12_key_120 ?_
        refine lv_goto (tgt := 131) hx hb dX12_key_121 (by decide) ?_
        exact t_X12_key_131 hC σ7 (σ7.2.2.1 14 r7.toNatClampNeg) _ _ _ h hT (lv_sub hl [] rfl)
  · have h := h.2 hc
    refine lv_iconst (v := 0) hx hb dX12_key_80 (by decide) ?_
    exact rf_iret hC hT h dX12_key_81
end
def w_X12_key_69 (post : Int32 → rf_S → Prop) (σ : rf_S) (x1 : Int32) (x2 : Int32) (x3 : Int32) (x4 : Int32) : Prop := w_X12_key_74 post σ x1 x2 x3 x4 1
section
variable {p : Program} {l : Launch} {e : Env} {s : State} {m : MethodId} {args : Array Value} {below : List Frame} {meth : Method} {c : Code} {P : hw_G} {o : Nat} {ad : Nat → Nat}
set_option maxRecDepth 100000 in
set_option maxHeartbeats 4000000 in
theorem t_X12_key_69 {post : Int32 → rf_S → Prop} (hC : rf_C P RX12 p s m meth c cX12_key 6 (some .int)) (σ : rf_S) (x1 : Int32) (x2 : Int32) (x3 : Int32) (x4 : Int32) (H : Heap) (locs : List Loc) (ls : Array Slot) (h : w_X12_key_69 post σ x1 x2 x3 x4) (hT : rf_T P s (rf_A o ad) o ad σ H locs) (hl : lv_has ls 6 [(0, .ref o), (1, .int x1), (2, .int x2), (3, .int x3), (4, .int x4)]) : W p l e rm_X12_key s m args below meth c H locs 0 0 (MQ below (rf_Qi P o ad post) args s 0 0 (rf_A o ad)) (F0 m 69 ls [.ref o]) := by
  obtain ⟨hx, hb, hml, hown, hK, -, -⟩ := id hC
  refine lv_iconst (v := 1) hx hb dX12_key_69 (by decide) ?_
  refine lv_goto (tgt := 74) hx hb dX12_key_70 (by decide) ?_
  exact t_X12_key_74 hC σ x1 x2 x3 x4 1 _ _ _ h hT (lv_sub hl [0, 1, 2, 3, 4] rfl)
end
def w_X12_key_25 (post : Int32 → rf_S → Prop) (σ : rf_S) (x1 : Int32) (x2 : Int32) (x3 : Int32) (y1 : Int32) : Prop := wp_X12_throwsIf (fun r8 σ8 => (r8 = 0 → vp_in x1 (rf_n 73) ∧ (x2 < 0 → w_X12_key_69 post σ8 x1 x2 x3 ((12 * (σ8.1 32)) + (σ8.2.2.1 73 x1.toNatClampNeg))) ∧ (¬ x2 < 0 → vp_in ((12 * (σ8.1 32)) + (σ8.2.2.1 73 x1.toNatClampNeg)) (rf_n 43) ∧ ((σ8.2.2.1 43 ((12 * (σ8.1 32)) + (σ8.2.2.1 73 x1.toNatClampNeg)).toNatClampNeg) ≤ x2 → w_X12_key_69 post σ8 x1 x2 x3 ((12 * (σ8.1 32)) + (σ8.2.2.1 73 x1.toNatClampNeg))) ∧ (¬ (σ8.2.2.1 43 ((12 * (σ8.1 32)) + (σ8.2.2.1 73 x1.toNatClampNeg)).toNatClampNeg) ≤ x2 → (0 ≤ x3 → w_X12_key_74 post σ8 x1 x2 x3 ((12 * (σ8.1 32)) + (σ8.2.2.1 73 x1.toNatClampNeg)) 0) ∧ (¬ 0 ≤ x3 → w_X12_key_69 post σ8 x1 x2 x3 ((12 * (σ8.1 32)) + (σ8.2.2.1 73 x1.toNatClampNeg)))))) ∧ (¬ r8 = 0 → post 0 σ8)) σ y1
section
variable {p : Program} {l : Launch} {e : Env} {s : State} {m : MethodId} {args : Array Value} {below : List Frame} {meth : Method} {c : Code} {P : hw_G} {o : Nat} {ad : Nat → Nat}
set_option maxRecDepth 100000 in
set_option maxHeartbeats 4000000 in
theorem t_X12_key_25 {post : Int32 → rf_S → Prop} (hC : rf_C P RX12 p s m meth c cX12_key 6 (some .int)) (σ : rf_S) (x1 : Int32) (x2 : Int32) (x3 : Int32) (y1 : Int32) (H : Heap) (locs : List Loc) (ls : Array Slot) (h : w_X12_key_25 post σ x1 x2 x3 y1) (hT : rf_T P s (rf_A o ad) o ad σ H locs) (hl : lv_has ls 6 [(0, .ref o), (1, .int x1), (2, .int x2), (3, .int x3)]) : W p l e rm_X12_key s m args below meth c H locs 0 0 (MQ below (rf_Qi P o ad post) args s 0 0 (rf_A o ad)) (F0 m 25 ls [.int y1, .ref o]) := by
  obtain ⟨hx, hb, hml, hown, hK, -, -⟩ := id hC
  refine rf_calli (rf_runV hx hb hml hown hK hT (c_X12_throwsIf h) rfl rfl klX12_507 ki_X12_throwsIf ks_X12_throwsIf kn_X12 kc_X12_throwsIf 1 ⟨rfl, by decide, by decide, by decide +kernel⟩ ⟨by decide, by decide⟩ rfl hl.1 rfl (Nat.le_of_ble_eq_true rfl) ⟨Nat.le_refl _, Nat.le_refl _⟩ dX12_key_25) hT (fun r8 σ8 H locs h hT => ?_)
  refine lv_if_eq (tgt := 33) hx hb dX12_key_28 (by decide) (fun hc => ?_) (fun hc => ?_)
  · have h := h.1 hc
    refine lv_bipush (v := 12) hx hb dX12_key_33 (by decide) ?_
    refine lv_aload_n hx hb dX12_key_35 rfl (lv_at hl 0 rfl) ?_
    refine rf_get hx hb hK hT hown 32 (by decide) kfX12_368 (v := .int (σ8.1 32)) rfl dX12_key_36 ?_
    refine lv_imul hx hb dX12_key_39 ?_
    refine lv_aload_n hx hb dX12_key_40 rfl (lv_at hl 0 rfl) ?_
    refine rf_get hx hb hK hT hown 73 (by decide) kfX12_275 (v := .ref (ad 73)) rfl dX12_key_41 ?_
    refine lv_iload_n hx hb dX12_key_44 rfl (lv_at hl 1 rfl) ?_
    obtain ⟨hi, h⟩ := h
    refine rf_sald hx hb hK hT 73 (by decide) rfl hi (v := σ8.2.2.1 73 x1.toNatClampNeg) rfl dX12_key_45 ?_
    refine lv_iadd hx hb dX12_key_46 ?_
    refine lv_istore (lv' := [(4, _), (0, _), (1, _), (2, _), (3, _)]) hx hb dX12_key_47 hl (by decide) rfl (fun ls hl => ?_)
    refine lv_aload_n hx hb dX12_key_49 rfl (lv_at hl 1 rfl) ?_
    refine lv_iload_n hx hb dX12_key_50 rfl (lv_at hl 3 rfl) ?_
    refine lv_if_lt (tgt := 69) hx hb dX12_key_51 (by decide) (fun hc => ?_) (fun hc => ?_)
    · have h := h.1 hc
      exact t_X12_key_69 hC σ8 x1 x2 x3 ((12 * (σ8.1 32)) + (σ8.2.2.1 73 x1.toNatClampNeg)) _ _ _ h hT (lv_sub hl [1, 2, 3, 4, 0] rfl)
    · have h := h.2 hc
      refine lv_iload_n hx hb dX12_key_54 rfl (lv_at hl 3 rfl) ?_
      refine lv_aload_n hx hb dX12_key_55 rfl (lv_at hl 1 rfl) ?_
      refine rf_get hx hb hK hT hown 43 (by decide) kfX12_223 (v := .ref (ad 43)) rfl dX12_key_56 ?_
      refine lv_iload hx hb dX12_key_59 (lv_at hl 0 rfl) ?_
      obtain ⟨hi, h⟩ := h
      refine rf_iald hx hb hK hT 43 (by decide) rfl hi (v := σ8.2.2.1 43 ((12 * (σ8.1 32)) + (σ8.2.2.1 73 x1.toNatClampNeg)).toNatClampNeg) rfl dX12_key_61 ?_
      refine lv_icmp_ge (tgt := 69) hx hb dX12_key_62 (by decide) (fun hc => ?_) (fun hc => ?_)
      · have h := h.1 hc
        exact t_X12_key_69 hC σ8 x1 x2 x3 ((12 * (σ8.1 32)) + (σ8.2.2.1 73 x1.toNatClampNeg)) _ _ _ h hT (lv_sub hl [1, 2, 3, 4, 0] rfl)
      · have h := h.2 hc
        refine lv_iload_n hx hb dX12_key_65 rfl (lv_at hl 4 rfl) ?_
        refine lv_if_ge (tgt := 73) hx hb dX12_key_66 (by decide) (fun hc => ?_) (fun hc => ?_)
        · have h := h.1 hc
          refine lv_iconst (v := 0) hx hb dX12_key_73 (by decide) ?_
          exact t_X12_key_74 hC σ8 x1 x2 x3 ((12 * (σ8.1 32)) + (σ8.2.2.1 73 x1.toNatClampNeg)) 0 _ _ _ h hT (lv_sub hl [1, 2, 3, 4, 0] rfl)
        · have h := h.2 hc
          exact t_X12_key_69 hC σ8 x1 x2 x3 ((12 * (σ8.1 32)) + (σ8.2.2.1 73 x1.toNatClampNeg)) _ _ _ h hT (lv_sub hl [1, 2, 3, 4, 0] rfl)
  · have h := h.2 hc
    refine lv_iconst (v := 0) hx hb dX12_key_31 (by decide) ?_
    exact rf_iret hC hT h dX12_key_32
end
def w_X12_key_20 (post : Int32 → rf_S → Prop) (σ : rf_S) (x1 : Int32) (x2 : Int32) (x3 : Int32) : Prop := w_X12_key_25 post σ x1 x2 x3 1
section
variable {p : Program} {l : Launch} {e : Env} {s : State} {m : MethodId} {args : Array Value} {below : List Frame} {meth : Method} {c : Code} {P : hw_G} {o : Nat} {ad : Nat → Nat}
set_option maxRecDepth 100000 in
set_option maxHeartbeats 4000000 in
theorem t_X12_key_20 {post : Int32 → rf_S → Prop} (hC : rf_C P RX12 p s m meth c cX12_key 6 (some .int)) (σ : rf_S) (x1 : Int32) (x2 : Int32) (x3 : Int32) (H : Heap) (locs : List Loc) (ls : Array Slot) (h : w_X12_key_20 post σ x1 x2 x3) (hT : rf_T P s (rf_A o ad) o ad σ H locs) (hl : lv_has ls 6 [(0, .ref o), (1, .int x1), (2, .int x2), (3, .int x3)]) : W p l e rm_X12_key s m args below meth c H locs 0 0 (MQ below (rf_Qi P o ad post) args s 0 0 (rf_A o ad)) (F0 m 20 ls [.ref o]) := by
  obtain ⟨hx, hb, hml, hown, hK, -, -⟩ := id hC
  refine lv_iconst (v := 1) hx hb dX12_key_20 (by decide) ?_
  refine lv_goto (tgt := 25) hx hb dX12_key_21 (by decide) ?_
  exact t_X12_key_25 hC σ x1 x2 x3 1 _ _ _ h hT (lv_sub hl [0, 1, 2, 3] rfl)
end
def wp_X12_key (post : Int32 → rf_S → Prop) (σ : rf_S) (p1 : Int32) (p2 : Int32) (p3 : Int32) : Prop := (p1 < 0 → w_X12_key_20 post σ p1 p2 p3) ∧ (¬ p1 < 0 → ((σ.1 78) ≤ p1 → w_X12_key_20 post σ p1 p2 p3) ∧ (¬ (σ.1 78) ≤ p1 → (p1 < 500 → w_X12_key_25 post σ p1 p2 p3 0) ∧ (¬ p1 < 500 → w_X12_key_20 post σ p1 p2 p3)))
set_option maxRecDepth 100000 in
set_option maxHeartbeats 4000000 in
theorem c_X12_key {l : Launch} {P : hw_G} {o : Nat} {ad : Nat → Nat} {σ : rf_S} {p1 : Int32} {p2 : Int32} {p3 : Int32} {post : Int32 → rf_S → Prop} (h : wp_X12_key post σ p1 p2 p3) : Met l yX12_key [Cond.code yX12_key cX12_key 6 (some .int)] rm_X12_key (rf_Pc P o ad σ [.ref o, .int p1, .int p2, .int p3]) (rf_Qi P o ad post) 0 0 (rf_A o ad) := by
  refine rf_met (by decide) rfl (Nat.le_of_ble_eq_true rfl) ?_
  intro p e s m below meth c ls hC hT hl
  obtain ⟨hx, hb, hml, hown, hK, -, -⟩ := id hC
  have hl : lv_has ls 6 [(0, .ref o), (1, .int p1), (2, .int p2), (3, .int p3)] := hl
  refine lv_aload_n hx hb dX12_key_0 rfl (lv_at hl 0 rfl) ?_
  refine lv_iload_n hx hb dX12_key_1 rfl (lv_at hl 1 rfl) ?_
  refine lv_if_lt (tgt := 20) hx hb dX12_key_2 (by decide) (fun hc => ?_) (fun hc => ?_)
  · have h := h.1 hc
    exact t_X12_key_20 hC σ p1 p2 p3 _ _ _ h hT (lv_sub hl [0, 1, 2, 3] rfl)
  · have h := h.2 hc
    refine lv_iload_n hx hb dX12_key_5 rfl (lv_at hl 1 rfl) ?_
    refine lv_aload_n hx hb dX12_key_6 rfl (lv_at hl 0 rfl) ?_
    refine rf_get hx hb hK hT hown 78 (by decide) kfX12_74 (v := .int (σ.1 78)) rfl dX12_key_7 ?_
    refine lv_icmp_ge (tgt := 20) hx hb dX12_key_10 (by decide) (fun hc => ?_) (fun hc => ?_)
    · have h := h.1 hc
      exact t_X12_key_20 hC σ p1 p2 p3 _ _ _ h hT (lv_sub hl [0, 1, 2, 3] rfl)
    · have h := h.2 hc
      refine lv_iload_n hx hb dX12_key_13 rfl (lv_at hl 1 rfl) ?_
      refine lv_sipush (v := 500) hx hb dX12_key_14 (by decide) ?_
      refine lv_icmp_lt (tgt := 24) hx hb dX12_key_17 (by decide) (fun hc => ?_) (fun hc => ?_)
      · have h := h.1 hc
        refine lv_iconst (v := 0) hx hb dX12_key_24 (by decide) ?_
        exact t_X12_key_25 hC σ p1 p2 p3 0 _ _ _ h hT (lv_sub hl [0, 1, 2, 3] rfl)
      · have h := h.2 hc
        exact t_X12_key_20 hC σ p1 p2 p3 _ _ _ h hT (lv_sub hl [0, 1, 2, 3] rfl)
/-! X12_begun -/
abbrev rm_X12_begun : Room := { frames := 1, cells := 0, slots := 0, locals := 26 }
def w_X12_begun_95 (post : Int32 → rf_S → Prop) (k16 : rf_S → Int32 → Int32 → Int32 → Int32 → Int32 → Prop) (σ : rf_S) (x1 : Int32) (x2 : Int32) (x3 : Int32) (x5 : Int32) (y0 : Int32) (y1 : Int32) : Prop := k16 σ x1 x2 x3 (y0 + y1) (x5 + 1)
section
variable {p : Program} {l : Launch} {e : Env} {s : State} {m : MethodId} {args : Array Value} {below : List Frame} {meth : Method} {c : Code} {P : hw_G} {o : Nat} {ad : Nat → Nat}
set_option maxRecDepth 100000 in
set_option maxHeartbeats 4000000 in
theorem t_X12_begun_95 {post : Int32 → rf_S → Prop} {k16 : rf_S → Int32 → Int32 → Int32 → Int32 → Int32 → Prop} (hC : rf_C P RX12 p s m meth c cX12_begun 7 (some .int)) (hk16 : ∀ (σ : rf_S) (x1 : Int32) (x2 : Int32) (x3 : Int32) (x4 : Int32) (x5 : Int32) (H : Heap) (locs : List Loc) (ls : Array Slot), k16 σ x1 x2 x3 x4 x5 → rf_T P s (rf_A o ad) o ad σ H locs → lv_has ls 7 [(0, .ref o), (1, .int x1), (2, .int x2), (3, .int x3), (4, .int x4), (5, .int x5)] → W p l e rm_X12_begun s m args below meth c H locs 0 0 (MQ below (rf_Qi P o ad post) args s 0 0 (rf_A o ad)) (F0 m 16 ls [])) (σ : rf_S) (x1 : Int32) (x2 : Int32) (x3 : Int32) (x5 : Int32) (y0 : Int32) (y1 : Int32) (H : Heap) (locs : List Loc) (ls : Array Slot) (h : w_X12_begun_95 post k16 σ x1 x2 x3 x5 y0 y1) (hT : rf_T P s (rf_A o ad) o ad σ H locs) (hl : lv_has ls 7 [(0, .ref o), (1, .int x1), (2, .int x2), (3, .int x3), (5, .int x5)]) : W p l e rm_X12_begun s m args below meth c H locs 0 0 (MQ below (rf_Qi P o ad post) args s 0 0 (rf_A o ad)) (F0 m 95 ls [.int y1, .int y0]) := by
  obtain ⟨hx, hb, hml, hown, hK, -, -⟩ := id hC
  refine lv_iadd hx hb dX12_begun_95 ?_
  refine lv_istore (lv' := [(4, _), (0, _), (1, _), (2, _), (3, _), (5, _)]) hx hb dX12_begun_96 hl (by decide) rfl (fun ls hl => ?_)
  refine lv_iinc (v := x5 + 1) (lv' := [(5, _), (4, _), (0, _), (1, _), (2, _), (3, _)]) hx hb dX12_begun_98 hl (k := 5) rfl rfl (by decide) rfl (fun ls hl => ?_)
  refine lv_goto (tgt := 16) hx hb dX12_begun_101 (by decide) ?_
  exact hk16 σ x1 x2 x3 (y0 + y1) (x5 + 1) _ _ _ h hT (lv_sub hl [2, 3, 4, 5, 1, 0] rfl)
end
def w_X12_begun_94 (post : Int32 → rf_S → Prop) (k16 : rf_S → Int32 → Int32 → Int32 → Int32 → Int32 → Prop) (σ : rf_S) (x1 : Int32) (x2 : Int32) (x3 : Int32) (x5 : Int32) (y0 : Int32) : Prop := w_X12_begun_95 post k16 σ x1 x2 x3 x5 y0 0
section
variable {p : Program} {l : Launch} {e : Env} {s : State} {m : MethodId} {args : Array Value} {below : List Frame} {meth : Method} {c : Code} {P : hw_G} {o : Nat} {ad : Nat → Nat}
set_option maxRecDepth 100000 in
set_option maxHeartbeats 4000000 in
theorem t_X12_begun_94 {post : Int32 → rf_S → Prop} {k16 : rf_S → Int32 → Int32 → Int32 → Int32 → Int32 → Prop} (hC : rf_C P RX12 p s m meth c cX12_begun 7 (some .int)) (hk16 : ∀ (σ : rf_S) (x1 : Int32) (x2 : Int32) (x3 : Int32) (x4 : Int32) (x5 : Int32) (H : Heap) (locs : List Loc) (ls : Array Slot), k16 σ x1 x2 x3 x4 x5 → rf_T P s (rf_A o ad) o ad σ H locs → lv_has ls 7 [(0, .ref o), (1, .int x1), (2, .int x2), (3, .int x3), (4, .int x4), (5, .int x5)] → W p l e rm_X12_begun s m args below meth c H locs 0 0 (MQ below (rf_Qi P o ad post) args s 0 0 (rf_A o ad)) (F0 m 16 ls [])) (σ : rf_S) (x1 : Int32) (x2 : Int32) (x3 : Int32) (x5 : Int32) (y0 : Int32) (H : Heap) (locs : List Loc) (ls : Array Slot) (h : w_X12_begun_94 post k16 σ x1 x2 x3 x5 y0) (hT : rf_T P s (rf_A o ad) o ad σ H locs) (hl : lv_has ls 7 [(0, .ref o), (1, .int x1), (2, .int x2), (3, .int x3), (5, .int x5)]) : W p l e rm_X12_begun s m args below meth c H locs 0 0 (MQ below (rf_Qi P o ad post) args s 0 0 (rf_A o ad)) (F0 m 94 ls [.int y0]) := by
  obtain ⟨hx, hb, hml, hown, hK, -, -⟩ := id hC
  refine lv_iconst (v := 0) hx hb dX12_begun_94 (by decide) ?_
  exact t_X12_begun_95 hC hk16 σ x1 x2 x3 x5 y0 0 _ _ _ h hT (lv_sub hl [0, 1, 2, 3, 4] rfl)
end
def w_X12_begun_16 (post : Int32 → rf_S → Prop) : Nat → rf_S → Int32 → Int32 → Int32 → Int32 → Int32 → Prop
  | 0, _, _, _, _, _, _ => False
  | n + 1, σ, x1, x2, x3, x4, x5 => vp_in x3 (rf_n 40) ∧ ((σ.2.2.1 40 x3.toNatClampNeg) ≤ x5 → post x4 σ) ∧ (¬ (σ.2.2.1 40 x3.toNatClampNeg) ≤ x5 → wp_X12_chainFirst (fun r3 σ3 => (r3 < 0 → w_X12_begun_94 post (w_X12_begun_16 post n) σ3 x1 x2 x3 x5 x4) ∧ (¬ r3 < 0 → vp_in r3 (rf_n 8) ∧ vp_in x3 (rf_n 44) ∧ ((lg_cmp ((σ3.2.2.1 8 r3.toNatClampNeg).toInt64) (((σ3.1 21).toInt64) - ((σ3.2.2.1 44 x3.toNatClampNeg).toInt64))) ≤ 0 → w_X12_begun_94 post (w_X12_begun_16 post n) σ3 x1 x2 x3 x5 x4) ∧ (¬ (lg_cmp ((σ3.2.2.1 8 r3.toNatClampNeg).toInt64) (((σ3.1 21).toInt64) - ((σ3.2.2.1 44 x3.toNatClampNeg).toInt64))) ≤ 0 → wp_X12_isClear (fun r4 σ4 => (r4 = 0 → w_X12_begun_94 post (w_X12_begun_16 post n) σ4 x1 x2 x3 x5 x4) ∧ (¬ r4 = 0 → w_X12_begun_95 post (w_X12_begun_16 post n) σ4 x1 x2 x3 x5 x4 1)) σ3 x1 x2 r3 (σ3.1 19)))) σ x1 x2 x5 ((σ.1 19) - 1))
section
variable {p : Program} {l : Launch} {e : Env} {s : State} {m : MethodId} {args : Array Value} {below : List Frame} {meth : Method} {c : Code} {P : hw_G} {o : Nat} {ad : Nat → Nat}
set_option maxRecDepth 100000 in
set_option maxHeartbeats 4000000 in
theorem t_X12_begun_16 {post : Int32 → rf_S → Prop} (hC : rf_C P RX12 p s m meth c cX12_begun 7 (some .int)) : ∀ (n : Nat) (σ : rf_S) (x1 : Int32) (x2 : Int32) (x3 : Int32) (x4 : Int32) (x5 : Int32) (H : Heap) (locs : List Loc) (ls : Array Slot), w_X12_begun_16 post n σ x1 x2 x3 x4 x5 → rf_T P s (rf_A o ad) o ad σ H locs → lv_has ls 7 [(0, .ref o), (1, .int x1), (2, .int x2), (3, .int x3), (4, .int x4), (5, .int x5)] → W p l e rm_X12_begun s m args below meth c H locs 0 0 (MQ below (rf_Qi P o ad post) args s 0 0 (rf_A o ad)) (F0 m 16 ls []) := by
  obtain ⟨hx, hb, hml, hown, hK, -, -⟩ := id hC
  intro n
  induction n with
  | zero => intro σ x1 x2 x3 x4 x5 H locs ls h; exact False.elim h
  | succ n ih =>
    intro σ x1 x2 x3 x4 x5 H locs ls h hT hl
    refine lv_iload hx hb dX12_begun_16 (lv_at hl 5 rfl) ?_
    refine lv_aload_n hx hb dX12_begun_18 rfl (lv_at hl 0 rfl) ?_
    refine rf_get hx hb hK hT hown 40 (by decide) kfX12_214 (v := .ref (ad 40)) rfl dX12_begun_19 ?_
    refine lv_iload_n hx hb dX12_begun_22 rfl (lv_at hl 3 rfl) ?_
    obtain ⟨hi, h⟩ := h
    refine rf_iald hx hb hK hT 40 (by decide) rfl hi (v := σ.2.2.1 40 x3.toNatClampNeg) rfl dX12_begun_23 ?_
    refine lv_icmp_ge (tgt := 104) hx hb dX12_begun_24 (by decide) (fun hc => ?_) (fun hc => ?_)
    · have h := h.1 hc
      refine lv_iload hx hb dX12_begun_104 (lv_at hl 4 rfl) ?_
      exact rf_iret hC hT h dX12_begun_106
    · have h := h.2 hc
      refine lv_aload_n hx hb dX12_begun_27 rfl (lv_at hl 0 rfl) ?_
      refine lv_iload_n hx hb dX12_begun_28 rfl (lv_at hl 1 rfl) ?_
      refine lv_iload_n hx hb dX12_begun_29 rfl (lv_at hl 2 rfl) ?_
      refine lv_iload hx hb dX12_begun_30 (lv_at hl 5 rfl) ?_
      refine lv_aload_n hx hb dX12_begun_32 rfl (lv_at hl 0 rfl) ?_
      refine rf_get hx hb hK hT hown 19 (by decide) kfX12_58 (v := .int (σ.1 19)) rfl dX12_begun_33 ?_
      refine lv_iconst (v := 1) hx hb dX12_begun_36 (by decide) ?_
      refine lv_isub hx hb dX12_begun_37 ?_
      refine rf_calli (rf_runV hx hb hml hown hK hT (c_X12_chainFirst h) rfl rfl klX12_479 ki_X12_chainFirst ks_X12_chainFirst kn_X12 kc_X12_chainFirst 4 ⟨rfl, by decide, by decide, by decide +kernel⟩ ⟨by decide, by decide⟩ rfl hl.1 rfl (Nat.le_of_ble_eq_true rfl) ⟨Nat.le_refl _, Nat.le_refl _⟩ dX12_begun_38) hT (fun r3 σ3 H locs h hT => ?_)
      refine lv_istore (lv' := [(6, _), (0, _), (1, _), (2, _), (3, _), (4, _), (5, _)]) hx hb dX12_begun_41 hl (by decide) rfl (fun ls hl => ?_)
      refine lv_iload hx hb dX12_begun_43 (lv_at hl 5 rfl) ?_
      refine lv_iload hx hb dX12_begun_45 (lv_at hl 0 rfl) ?_
      refine lv_if_lt (tgt := 94) hx hb dX12_begun_47 (by decide) (fun hc => ?_) (fun hc => ?_)
      · have h := h.1 hc
        exact t_X12_begun_94 hC ih σ3 x1 x2 x3 x5 x4 _ _ _ h hT (lv_sub hl [1, 2, 3, 4, 6] rfl)
      · have h := h.2 hc
        refine lv_aload_n hx hb dX12_begun_50 rfl (lv_at hl 1 rfl) ?_
        refine rf_get hx hb hK hT hown 8 (by decide) kfX12_170 (v := .ref (ad 8)) rfl dX12_begun_51 ?_
        refine lv_iload hx hb dX12_begun_54 (lv_at hl 0 rfl) ?_
        obtain ⟨hi, h⟩ := h
        refine rf_iald hx hb hK hT 8 (by decide) rfl hi (v := σ3.2.2.1 8 r3.toNatClampNeg) rfl dX12_begun_56 ?_
        refine lv_i2l (v := (σ3.2.2.1 8 r3.toNatClampNeg).toInt64) hx hb dX12_begun_57 rfl ?_
        refine lv_aload_n hx hb dX12_begun_58 rfl (lv_at hl 1 rfl) ?_
        refine rf_get hx hb hK hT hown 21 (by decide) kfX12_64 (v := .int (σ3.1 21)) rfl dX12_begun_59 ?_
        refine lv_i2l (v := (σ3.1 21).toInt64) hx hb dX12_begun_62 rfl ?_
        refine lv_aload_n hx hb dX12_begun_63 rfl (lv_at hl 1 rfl) ?_
        refine rf_get hx hb hK hT hown 44 (by decide) kfX12_226 (v := .ref (ad 44)) rfl dX12_begun_64 ?_
        refine lv_iload_n hx hb dX12_begun_67 rfl (lv_at hl 4 rfl) ?_
        obtain ⟨hi, h⟩ := h
        refine rf_iald hx hb hK hT 44 (by decide) rfl hi (v := σ3.2.2.1 44 x3.toNatClampNeg) rfl dX12_begun_68 ?_
        refine lv_i2l (v := (σ3.2.2.1 44 x3.toNatClampNeg).toInt64) hx hb dX12_begun_69 rfl ?_
        refine lv_lsub hx hb dX12_begun_70 ?_
        refine W.lcmp hx hb dX12_begun_71 ?_
        refine lv_if_le (tgt := 94) hx hb dX12_begun_72 (by decide) (fun hc => ?_) (fun hc => ?_)
        · have h := h.1 hc
          exact t_X12_begun_94 hC ih σ3 x1 x2 x3 x5 x4 _ _ _ h hT (lv_sub hl [1, 2, 3, 4, 6] rfl)
        · have h := h.2 hc
          refine lv_aload_n hx hb dX12_begun_75 rfl (lv_at hl 1 rfl) ?_
          refine lv_iload_n hx hb dX12_begun_76 rfl (lv_at hl 2 rfl) ?_
          refine lv_iload_n hx hb dX12_begun_77 rfl (lv_at hl 3 rfl) ?_
          refine lv_iload hx hb dX12_begun_78 (lv_at hl 0 rfl) ?_
          refine lv_aload_n hx hb dX12_begun_80 rfl (lv_at hl 1 rfl) ?_
          refine rf_get hx hb hK hT hown 19 (by decide) kfX12_58 (v := .int (σ3.1 19)) rfl dX12_begun_81 ?_
          refine rf_calli (rf_runV hx hb hml hown hK hT (c_X12_isClear h) rfl rfl klX12_483 ki_X12_isClear ks_X12_isClear kn_X12 kc_X12_isClear 4 ⟨rfl, by decide, by decide, by decide +kernel⟩ ⟨by decide, by decide⟩ rfl hl.1 rfl (Nat.le_of_ble_eq_true rfl) ⟨Nat.le_refl _, Nat.le_refl _⟩ dX12_begun_84) hT (fun r4 σ4 H locs h hT => ?_)
          refine lv_if_eq (tgt := 94) hx hb dX12_begun_87 (by decide) (fun hc => ?_) (fun hc => ?_)
          · have h := h.1 hc
            exact t_X12_begun_94 hC ih σ4 x1 x2 x3 x5 x4 _ _ _ h hT (lv_sub hl [1, 2, 3, 4, 6] rfl)
          · have h := h.2 hc
            refine lv_iconst (v := 1) hx hb dX12_begun_90 (by decide) ?_
            refine lv_goto (tgt := 95) hx hb dX12_begun_91 (by decide) ?_
            exact t_X12_begun_95 hC ih σ4 x1 x2 x3 x5 x4 1 _ _ _ h hT (lv_sub hl [1, 2, 3, 4, 6] rfl)
end
def wp_X12_begun (post : Int32 → rf_S → Prop) (σ : rf_S) (p1 : Int32) (p2 : Int32) : Prop := ∃ n9, w_X12_begun_16 post n9 σ p1 p2 ((12 * (σ.1 32)) + p1) 0 1
set_option maxRecDepth 100000 in
set_option maxHeartbeats 4000000 in
theorem c_X12_begun {l : Launch} {P : hw_G} {o : Nat} {ad : Nat → Nat} {σ : rf_S} {p1 : Int32} {p2 : Int32} {post : Int32 → rf_S → Prop} (h : wp_X12_begun post σ p1 p2) : Met l yX12_begun [Cond.code yX12_begun cX12_begun 7 (some .int)] rm_X12_begun (rf_Pc P o ad σ [.ref o, .int p1, .int p2]) (rf_Qi P o ad post) 0 0 (rf_A o ad) := by
  refine rf_met (by decide) rfl (Nat.le_of_ble_eq_true rfl) ?_
  intro p e s m below meth c ls hC hT hl
  obtain ⟨hx, hb, hml, hown, hK, -, -⟩ := id hC
  have hl : lv_has ls 7 [(0, .ref o), (1, .int p1), (2, .int p2)] := hl
  refine lv_bipush (v := 12) hx hb dX12_begun_0 (by decide) ?_
  refine lv_aload_n hx hb dX12_begun_2 rfl (lv_at hl 0 rfl) ?_
  refine rf_get hx hb hK hT hown 32 (by decide) kfX12_368 (v := .int (σ.1 32)) rfl dX12_begun_3 ?_
  refine lv_imul hx hb dX12_begun_6 ?_
  refine lv_iload_n hx hb dX12_begun_7 rfl (lv_at hl 1 rfl) ?_
  refine lv_iadd hx hb dX12_begun_8 ?_
  refine lv_istore_n (lv' := [(3, _), (0, _), (1, _), (2, _)]) hx hb dX12_begun_9 rfl hl (by decide) rfl (fun ls hl => ?_)
  refine lv_iconst (v := 0) hx hb dX12_begun_10 (by decide) ?_
  refine lv_istore (lv' := [(4, _), (3, _), (0, _), (1, _), (2, _)]) hx hb dX12_begun_11 hl (by decide) rfl (fun ls hl => ?_)
  refine lv_iconst (v := 1) hx hb dX12_begun_13 (by decide) ?_
  refine lv_istore (lv' := [(5, _), (4, _), (3, _), (0, _), (1, _), (2, _)]) hx hb dX12_begun_14 hl (by decide) rfl (fun ls hl => ?_)
  obtain ⟨n9, h⟩ := h
  exact t_X12_begun_16 hC n9 σ p1 p2 ((12 * (σ.1 32)) + p1) 0 1 _ _ _ h hT (lv_sub hl [3, 4, 5, 2, 1, 0] rfl)
