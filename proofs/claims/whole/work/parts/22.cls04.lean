/-! X6_packEvent -/
abbrev rm_X6_packEvent : Room := { frames := 3, cells := 0, slots := 0, locals := 71 }
def w_X6_packEvent_86 (post : cs_S → Prop) (G : Nat → Nat) (S : cs_S) (x0 : Nat) : Prop := cs_k S x0 = 8 ∧ ∀ r43, r43 = cs_r S 702 x0 → wp_X6_checkOf (fun r44 S44 => cs_k S44 x0 = 8 ∧ wp_X6_put (fun S45 => post S45) G S44 x0 r44) G S r43 0 (cs_i S 703 x0)
section
variable {p : Program} {l : Launch} {e : Env} {s : State} {m : MethodId} {args : Array Value} {below : List Frame} {meth : Method} {c : Code} {P : hw_G} {G : Nat → Nat} {A : Nat → Prop}
set_option maxRecDepth 100000 in
set_option maxHeartbeats 4000000 in
theorem t_X6_packEvent_86 {post : cs_S → Prop} (hC : rf_C P RX6 p s m meth c cX6_packEvent 4 none) (hin : meth.name = yX6_packEvent.name) (hO : cs_O G A s s.heap) (S : cs_S) (x0 : Nat) (H : Heap) (locs : List Loc) (ls : Array Slot) (h : w_X6_packEvent_86 post G S x0) (hT : cs_T P s A S H locs) (hl : lv_has ls 4 [(0, .ref x0)]) : W p l e rm_X6_packEvent s m args below meth c H locs 0 0 (MQ below (cs_Qv P A post) args s 0 0 A) (F0 m 86 ls []) := by
  obtain ⟨hx, hb, hml, hown, hK, -, -⟩ := id hC
  refine lv_aload_n (x := x0) hx hb dX6_packEvent_86 rfl (lv_at hl 0 rfl) ?_
  refine lv_aload_n (x := x0) hx hb dX6_packEvent_87 rfl (lv_at hl 0 rfl) ?_
  obtain ⟨hk42_, h⟩ := h
  refine cs_get hx hb hK hT hown 7 hk42_ (by decide) rfl 2 (by decide) kfX6_11 (v := va_rf (cs_r S 702 x0)) rfl dX6_packEvent_88 ?_
  refine hw_topr (fun r43 er43 => ?_)
  replace h := h r43 er43
  refine lv_iconst (v := 0) hx hb dX6_packEvent_91 (by decide) ?_
  refine lv_aload_n (x := x0) hx hb dX6_packEvent_92 rfl (lv_at hl 0 rfl) ?_
  refine cs_get hx hb hK hT hown 7 hk42_ (by decide) rfl 3 (by decide) kfX6_82 (v := .int (cs_i S 703 x0)) rfl dX6_packEvent_93 ?_
  refine cs_calli0 (cs_runS hx hb hml hown hK hO hT (c_X6_checkOf h) rfl rfl klX6_63 ki_X6_checkOf kn_X6 kc_X6_checkOf 3 ⟨by decide, by decide, by decide +kernel⟩ ⟨by decide, by decide⟩ rfl hl.1 rfl (hw_cat8 (Nat.le_of_ble_eq_true rfl)) ⟨(Nat.le_refl _), (Nat.le_refl _)⟩ dX6_packEvent_96) hT (fun r44 S44 H locs h_ hT_ => ?_)
  replace h := h_
  replace hT := hT_
  obtain ⟨hk46_, h⟩ := h
  refine cs_callv0 (cs_runV hx hb hml hown hK hO hT 7 hk46_ (by decide) rfl (c_X6_put h) rfl rfl klX6_85 ki_X6_put ks_X6_put kn_X6 kc_X6_put 1 ⟨rfl, by decide, by decide, by decide +kernel⟩ ⟨by decide, by decide⟩ rfl hl.1 rfl (hw_cat8 (Nat.le_of_ble_eq_true rfl)) ⟨(Nat.le_refl _), (Nat.le_refl _)⟩ dX6_packEvent_99) hT (fun S45 H locs h_ hT_ => ?_)
  replace h := h_
  replace hT := hT_
  exact cs_vret hC hT h dX6_packEvent_102 (Nat.le_refl _) (Nat.le_refl _)
end
def w_X6_packEvent_42 (post : cs_S → Prop) (G : Nat → Nat) : Nat → cs_S → Nat → Option Nat → Int32 → Prop
  | 0, _, _, _, _ => False
  | n + 1, S, x0, x1, x3 => ∃ b47, x1 = some b47 ∧ cs_k S b47 = 5 ∧ ∀ r49, r49 = cs_r S 403 b47 → ∃ b50, r49 = some b50 ∧ cs_k S b50 = 21 ∧ ((Int32.ofNat (cs_n S b50)) ≤ x3 → w_X6_packEvent_86 post G S x0) ∧ (¬ (Int32.ofNat (cs_n S b50)) ≤ x3 → ∀ r52, r52 = cs_r S 404 b47 → ∃ b53, r52 = some b53 ∧ cs_k S b53 = 26 ∧ ((Int32.ofNat (cs_n S b53)) ≤ x3 → w_X6_packEvent_86 post G S x0) ∧ (¬ (Int32.ofNat (cs_n S b53)) ≤ x3 → ∀ r55, r55 = cs_r S 403 b47 → ∃ b56, r55 = some b56 ∧ cs_k S b56 = 21 ∧ vp_in x3 (cs_n S b56) ∧ cs_k S x0 = 8 ∧ wp_X6_putWord (fun S58 => cs_k S58 b47 = 5 ∧ ∀ r61, r61 = cs_r S58 404 b47 → ∃ b62, r61 = some b62 ∧ cs_k S58 b62 = 26 ∧ vp_in x3 (cs_n S58 b62) ∧ ∀ r64, r64 = cs_ar S58 b62 x3.toNatClampNeg → cs_k S58 x0 = 8 ∧ wp_X6_putValue (fun S65 => w_X6_packEvent_42 post G n S65 x0 (some b47) (x3 + 1)) G S58 x0 r64) G S x0 (cs_al S b56 x3.toNatClampNeg)))
section
variable {p : Program} {l : Launch} {e : Env} {s : State} {m : MethodId} {args : Array Value} {below : List Frame} {meth : Method} {c : Code} {P : hw_G} {G : Nat → Nat} {A : Nat → Prop}
set_option maxRecDepth 100000 in
set_option maxHeartbeats 4000000 in
theorem t_X6_packEvent_42 {post : cs_S → Prop} (hC : rf_C P RX6 p s m meth c cX6_packEvent 4 none) (hin : meth.name = yX6_packEvent.name) (hO : cs_O G A s s.heap) : ∀ (n : Nat) (S : cs_S) (x0 : Nat) (x1 : Option Nat) (x3 : Int32) (H : Heap) (locs : List Loc) (ls : Array Slot), w_X6_packEvent_42 post G n S x0 x1 x3 → cs_T P s A S H locs → lv_has ls 4 [(0, .ref x0), (1, va_rf x1), (3, .int x3)] → W p l e rm_X6_packEvent s m args below meth c H locs 0 0 (MQ below (cs_Qv P A post) args s 0 0 A) (F0 m 42 ls []) := by
  obtain ⟨hx, hb, hml, hown, hK, -, -⟩ := id hC
  intro n
  induction n with
  | zero => intro S x0 x1 x3 H locs ls h; exact False.elim h
  | succ n ih =>
    intro S x0 x1 x3 H locs ls h hT hl
    refine lv_iload_n hx hb dX6_packEvent_42 rfl (lv_at hl 2 rfl) ?_
    refine hw_aload_n (x := x1) hx hb dX6_packEvent_43 rfl (lv_at hl 1 rfl) ?_
    obtain ⟨b47, rfl, h⟩ := h
    obtain ⟨hk48_, h⟩ := h
    refine cs_get hx hb hK hT hown 4 hk48_ (by decide) rfl 3 (by decide) kfX6_103 (v := va_rf (cs_r S 403 b47)) rfl dX6_packEvent_44 ?_
    refine hw_topr (fun r49 er49 => ?_)
    replace h := h r49 er49
    obtain ⟨b50, rfl, h⟩ := h
    obtain ⟨hk51_, h⟩ := h
    refine cs_alen hx hb hK hT 21 hk51_ (by decide) (by decide) dX6_packEvent_47 ?_
    refine lv_icmp_ge (tgt := 86) hx hb dX6_packEvent_48 (by decide) (fun hc => ?_) (fun hc => ?_)
    · replace h := h.1 hc
      exact t_X6_packEvent_86 hC hin hO S x0 _ _ _ h hT (lv_sub hl [0] rfl)
    · replace h := h.2 hc
      refine lv_iload_n hx hb dX6_packEvent_51 rfl (lv_at hl 2 rfl) ?_
      refine lv_aload_n (x := b47) hx hb dX6_packEvent_52 rfl (lv_at hl 1 rfl) ?_
      refine cs_get hx hb hK hT hown 4 hk48_ (by decide) rfl 4 (by decide) kfX6_107 (v := va_rf (cs_r S 404 b47)) rfl dX6_packEvent_53 ?_
      refine hw_topr (fun r52 er52 => ?_)
      replace h := h r52 er52
      obtain ⟨b53, rfl, h⟩ := h
      obtain ⟨hk54_, h⟩ := h
      refine cs_alen hx hb hK hT 26 hk54_ (by decide) (by decide) dX6_packEvent_56 ?_
      refine lv_icmp_ge (tgt := 86) hx hb dX6_packEvent_57 (by decide) (fun hc => ?_) (fun hc => ?_)
      · replace h := h.1 hc
        exact t_X6_packEvent_86 hC hin hO S x0 _ _ _ h hT (lv_sub hl [0] rfl)
      · replace h := h.2 hc
        refine lv_aload_n (x := x0) hx hb dX6_packEvent_60 rfl (lv_at hl 0 rfl) ?_
        refine lv_aload_n (x := b47) hx hb dX6_packEvent_61 rfl (lv_at hl 1 rfl) ?_
        refine cs_get hx hb hK hT hown 4 hk48_ (by decide) rfl 3 (by decide) kfX6_103 (v := va_rf (cs_r S 403 b47)) rfl dX6_packEvent_62 ?_
        refine hw_topr (fun r55 er55 => ?_)
        replace h := h r55 er55
        refine lv_iload_n hx hb dX6_packEvent_65 rfl (lv_at hl 2 rfl) ?_
        obtain ⟨b56, rfl, h⟩ := h
        obtain ⟨hk57_, h⟩ := h
        obtain ⟨hi, h⟩ := h
        refine cs_lald hx hb hK hT hk57_ hi dX6_packEvent_66 ?_
        obtain ⟨hk59_, h⟩ := h
        refine cs_callv0 (cs_runV hx hb hml hown hK hO hT 7 hk59_ (by decide) rfl (c_X6_putWord h) rfl rfl klX6_100 ki_X6_putWord ks_X6_putWord kn_X6 kc_X6_putWord 1 ⟨rfl, by decide, by decide, by decide +kernel⟩ ⟨by decide, by decide⟩ rfl hl.1 rfl (hw_cat8 (Nat.le_of_ble_eq_true rfl)) ⟨(Nat.le_refl _), (Nat.le_refl _)⟩ dX6_packEvent_67) hT (fun S58 H locs h_ hT_ => ?_)
        replace h := h_
        replace hT := hT_
        refine lv_aload_n (x := x0) hx hb dX6_packEvent_70 rfl (lv_at hl 0 rfl) ?_
        refine lv_aload_n (x := b47) hx hb dX6_packEvent_71 rfl (lv_at hl 1 rfl) ?_
        obtain ⟨hk60_, h⟩ := h
        refine cs_get hx hb hK hT hown 4 hk60_ (by decide) rfl 4 (by decide) kfX6_107 (v := va_rf (cs_r S58 404 b47)) rfl dX6_packEvent_72 ?_
        refine hw_topr (fun r61 er61 => ?_)
        replace h := h r61 er61
        refine lv_iload_n hx hb dX6_packEvent_75 rfl (lv_at hl 2 rfl) ?_
        obtain ⟨b62, rfl, h⟩ := h
        obtain ⟨hk63_, h⟩ := h
        obtain ⟨hi, h⟩ := h
        refine cs_aald hx hb hK hT 26 hk63_ (by decide) rfl (by decide) hi dX6_packEvent_76 ?_
        refine hw_topr (fun r64 er64 => ?_)
        replace h := h r64 er64
        obtain ⟨hk66_, h⟩ := h
        refine cs_callv0 (cs_runV hx hb hml hown hK hO hT 7 hk66_ (by decide) rfl (c_X6_putValue h) rfl rfl klX6_111 ki_X6_putValue ks_X6_putValue kn_X6 kc_X6_putValue 1 ⟨rfl, by decide, by decide, by decide +kernel⟩ ⟨by decide, by decide⟩ rfl hl.1 rfl (hw_cat8 (Nat.le_of_ble_eq_true rfl)) ⟨(Nat.le_refl _), (Nat.le_refl _)⟩ dX6_packEvent_77) hT (fun S65 H locs h_ hT_ => ?_)
        replace h := h_
        replace hT := hT_
        refine lv_iinc (v := x3 + 1) (lv' := [(3, _), (0, _), (1, _)]) hx hb dX6_packEvent_80 hl (k := 2) rfl rfl (by decide) rfl (fun ls hl_ => ?_)
        replace hl := hl_
        refine lv_goto (tgt := 42) hx hb dX6_packEvent_83 (by decide) ?_
        exact ih S65 x0 (some b47) (x3 + 1) _ _ _ h hT (lv_sub hl [1, 2, 0] rfl)
end
def wp_X6_packEvent (post : cs_S → Prop) (G : Nat → Nat) (S : cs_S) (o : Nat) (p1 : Option Nat) (p2 : Int32) : Prop := cs_k S o = 8 ∧ ∀ S68, S68 = cs_ui S 703 o 0 → cs_k S68 o = 8 ∧ wp_X6_put (fun S69 => ∃ b71, p1 = some b71 ∧ cs_k S69 b71 = 5 ∧ cs_k S69 o = 8 ∧ wp_X6_putUnsigned (fun S73 => cs_k S73 b71 = 5 ∧ cs_k S73 o = 8 ∧ wp_X6_putWord (fun S76 => cs_k S76 b71 = 5 ∧ ∀ r79, r79 = cs_r S76 403 b71 → ∃ b80, r79 = some b80 ∧ cs_k S76 b80 = 21 ∧ cs_k S76 o = 8 ∧ wp_X6_put (fun S82 => ∃ n9, w_X6_packEvent_42 post G n9 S82 o (some b71) 0) G S76 o (Int32.ofNat (cs_n S76 b80))) G S73 o (cs_l S73 401 b71)) G S69 o (((cs_i S69 400 b71) - p2).toInt64)) G S68 o 229
set_option maxRecDepth 100000 in
set_option maxHeartbeats 4000000 in
theorem c_X6_packEvent {l : Launch} {P : hw_G} {G : Nat → Nat} {S : cs_S} {sz : Nat} {o : Nat} {p1 : Option Nat} {p2 : Int32} {post : cs_S → Prop} (h : wp_X6_packEvent post G S o p1 p2) : Met l yX6_packEvent [Cond.code yX6_packEvent cX6_packEvent 4 none] rm_X6_packEvent (cs_Pc P G S sz [.ref o, va_rf p1, .int p2]) (cs_Qv P (cs_A S sz) post) 0 0 (cs_A S sz) := by
  refine cs_met (by decide) rfl (by cases p1 <;> exact Nat.le_of_ble_eq_true rfl) ?_
  intro p e s m below meth c ls hC hin hO hT hl
  obtain ⟨hx, hb, hml, hown, hK, -, -⟩ := id hC
  replace hl : lv_has ls 4 [(0, .ref o), (1, va_rf p1), (2, .int p2)] := by cases p1 <;> exact hl
  refine lv_aload_n (x := o) hx hb dX6_packEvent_0 rfl (lv_at hl 0 rfl) ?_
  refine lv_iconst (v := 0) hx hb dX6_packEvent_1 (by decide) ?_
  obtain ⟨hk67_, h⟩ := h
  refine cs_puti (x := 0) hx hb hK hT hown 7 hk67_ (by decide) rfl 3 (by decide) kfX6_82 rfl (tyX6_ok 3 (by decide)) rfl 703 rfl dX6_packEvent_2 (fun H locs hT_ => ?_)
  replace hT := hT_
  obtain ⟨S68, eS68⟩ : ∃ z, z = cs_ui S 703 o 0 := ⟨_, rfl⟩
  rw [← eS68] at hT
  replace h := h S68 eS68
  refine lv_aload_n (x := o) hx hb dX6_packEvent_5 rfl (lv_at hl 0 rfl) ?_
  refine lv_sipush (v := 229) hx hb dX6_packEvent_6 (by decide) ?_
  obtain ⟨hk70_, h⟩ := h
  refine cs_callv0 (cs_runV hx hb hml hown hK hO hT 7 hk70_ (by decide) rfl (c_X6_put h) rfl rfl klX6_85 ki_X6_put ks_X6_put kn_X6 kc_X6_put 1 ⟨rfl, by decide, by decide, by decide +kernel⟩ ⟨by decide, by decide⟩ rfl hl.1 rfl (hw_cat8 (Nat.le_of_ble_eq_true rfl)) ⟨(Nat.le_refl _), (Nat.le_refl _)⟩ dX6_packEvent_9) hT (fun S69 H locs h_ hT_ => ?_)
  replace h := h_
  replace hT := hT_
  refine lv_aload_n (x := o) hx hb dX6_packEvent_12 rfl (lv_at hl 0 rfl) ?_
  refine hw_aload_n (x := p1) hx hb dX6_packEvent_13 rfl (lv_at hl 1 rfl) ?_
  obtain ⟨b71, rfl, h⟩ := h
  obtain ⟨hk72_, h⟩ := h
  refine cs_get hx hb hK hT hown 4 hk72_ (by decide) rfl 0 (by decide) kfX6_89 (v := .int (cs_i S69 400 b71)) rfl dX6_packEvent_14 ?_
  refine lv_iload_n hx hb dX6_packEvent_17 rfl (lv_at hl 2 rfl) ?_
  refine lv_isub hx hb dX6_packEvent_18 ?_
  refine lv_i2l (v := ((cs_i S69 400 b71) - p2).toInt64) hx hb dX6_packEvent_19 rfl ?_
  obtain ⟨hk74_, h⟩ := h
  refine cs_callv0 (cs_runV hx hb hml hown hK hO hT 7 hk74_ (by decide) rfl (c_X6_putUnsigned h) rfl rfl klX6_92 ki_X6_putUnsigned ks_X6_putUnsigned kn_X6 kc_X6_putUnsigned 1 ⟨rfl, by decide, by decide, by decide +kernel⟩ ⟨by decide, by decide⟩ rfl hl.1 rfl (hw_cat8 (Nat.le_of_ble_eq_true rfl)) ⟨(Nat.le_refl _), (Nat.le_refl _)⟩ dX6_packEvent_20) hT (fun S73 H locs h_ hT_ => ?_)
  replace h := h_
  replace hT := hT_
  refine lv_aload_n (x := o) hx hb dX6_packEvent_23 rfl (lv_at hl 0 rfl) ?_
  refine lv_aload_n (x := b71) hx hb dX6_packEvent_24 rfl (lv_at hl 1 rfl) ?_
  obtain ⟨hk75_, h⟩ := h
  refine cs_get hx hb hK hT hown 4 hk75_ (by decide) rfl 1 (by decide) kfX6_96 (v := .long (cs_l S73 401 b71)) rfl dX6_packEvent_25 ?_
  obtain ⟨hk77_, h⟩ := h
  refine cs_callv0 (cs_runV hx hb hml hown hK hO hT 7 hk77_ (by decide) rfl (c_X6_putWord h) rfl rfl klX6_100 ki_X6_putWord ks_X6_putWord kn_X6 kc_X6_putWord 1 ⟨rfl, by decide, by decide, by decide +kernel⟩ ⟨by decide, by decide⟩ rfl hl.1 rfl (hw_cat8 (Nat.le_of_ble_eq_true rfl)) ⟨(Nat.le_refl _), (Nat.le_refl _)⟩ dX6_packEvent_28) hT (fun S76 H locs h_ hT_ => ?_)
  replace h := h_
  replace hT := hT_
  refine lv_aload_n (x := o) hx hb dX6_packEvent_31 rfl (lv_at hl 0 rfl) ?_
  refine lv_aload_n (x := b71) hx hb dX6_packEvent_32 rfl (lv_at hl 1 rfl) ?_
  obtain ⟨hk78_, h⟩ := h
  refine cs_get hx hb hK hT hown 4 hk78_ (by decide) rfl 3 (by decide) kfX6_103 (v := va_rf (cs_r S76 403 b71)) rfl dX6_packEvent_33 ?_
  refine hw_topr (fun r79 er79 => ?_)
  replace h := h r79 er79
  obtain ⟨b80, rfl, h⟩ := h
  obtain ⟨hk81_, h⟩ := h
  refine cs_alen hx hb hK hT 21 hk81_ (by decide) (by decide) dX6_packEvent_36 ?_
  obtain ⟨hk83_, h⟩ := h
  refine cs_callv0 (cs_runV hx hb hml hown hK hO hT 7 hk83_ (by decide) rfl (c_X6_put h) rfl rfl klX6_85 ki_X6_put ks_X6_put kn_X6 kc_X6_put 1 ⟨rfl, by decide, by decide, by decide +kernel⟩ ⟨by decide, by decide⟩ rfl hl.1 rfl (hw_cat8 (Nat.le_of_ble_eq_true rfl)) ⟨(Nat.le_refl _), (Nat.le_refl _)⟩ dX6_packEvent_37) hT (fun S82 H locs h_ hT_ => ?_)
  replace h := h_
  replace hT := hT_
  refine lv_iconst (v := 0) hx hb dX6_packEvent_40 (by decide) ?_
  refine lv_istore_n (lv' := [(3, _), (0, _), (1, _), (2, _)]) hx hb dX6_packEvent_41 rfl hl (by decide) rfl (fun ls hl_ => ?_)
  replace hl := hl_
  obtain ⟨n9, h⟩ := h
  exact t_X6_packEvent_42 hC hin hO n9 S82 o (some b71) 0 _ _ _ h hT (lv_sub hl [1, 2, 0] rfl)
/-! J9_floorMod_7cf53 -/
abbrev rm_J9_floorMod_7cf53 : Room := { frames := 0, cells := 0, slots := 0, locals := 0 }
def w_J9_floorMod_7cf53_18 (post : Int32 → cs_S → Prop) (G : Nat → Nat) (S : cs_S) (x2 : Int32) : Prop := post x2 S
section
variable {p : Program} {l : Launch} {e : Env} {s : State} {m : MethodId} {args : Array Value} {below : List Frame} {meth : Method} {c : Code} {P : hw_G} {G : Nat → Nat} {A : Nat → Prop}
set_option maxRecDepth 100000 in
set_option maxHeartbeats 4000000 in
theorem t_J9_floorMod_7cf53_18 {post : Int32 → cs_S → Prop} (hC : rf_C P RJ9 p s m meth c cJ9_floorMod_7cf53 3 (some .int)) (hin : meth.name = yJ9_floorMod_7cf53.name) (hO : cs_O G A s s.heap) (S : cs_S) (x2 : Int32) (H : Heap) (locs : List Loc) (ls : Array Slot) (h : w_J9_floorMod_7cf53_18 post G S x2) (hT : cs_T P s A S H locs) (hl : lv_has ls 3 [(2, .int x2)]) : W p l e rm_J9_floorMod_7cf53 s m args below meth c H locs 0 0 (MQ below (cs_Qi P A post) args s 0 0 A) (F0 m 18 ls []) := by
  obtain ⟨hx, hb, hml, hown, hK, -, -⟩ := id hC
  refine lv_iload_n hx hb dJ9_floorMod_7cf53_18 rfl (lv_at hl 0 rfl) ?_
  exact cs_iret hC hT h dJ9_floorMod_7cf53_19 (Nat.le_refl _) (Nat.le_refl _)
end
def wp_J9_floorMod_7cf53 (post : Int32 → cs_S → Prop) (G : Nat → Nat) (S : cs_S) (p0 : Int32) (p1 : Int32) : Prop := ¬ (p1 : Int32) = 0 ∧ (0 ≤ (p0 ^^^ p1) → w_J9_floorMod_7cf53_18 post G S (p0 - p0 / p1 * p1)) ∧ (¬ 0 ≤ (p0 ^^^ p1) → ((p0 - p0 / p1 * p1) = 0 → w_J9_floorMod_7cf53_18 post G S (p0 - p0 / p1 * p1)) ∧ (¬ (p0 - p0 / p1 * p1) = 0 → post ((p0 - p0 / p1 * p1) + p1) S))
set_option maxRecDepth 100000 in
set_option maxHeartbeats 4000000 in
theorem c_J9_floorMod_7cf53 {l : Launch} {P : hw_G} {G : Nat → Nat} {S : cs_S} {sz : Nat} {p0 : Int32} {p1 : Int32} {post : Int32 → cs_S → Prop} (h : wp_J9_floorMod_7cf53 post G S p0 p1) : Met l yJ9_floorMod_7cf53 [Cond.code yJ9_floorMod_7cf53 cJ9_floorMod_7cf53 3 (some .int)] rm_J9_floorMod_7cf53 (cs_Pc P G S sz [.int p0, .int p1]) (cs_Qi P (cs_A S sz) post) 0 0 (cs_A S sz) := by
  refine cs_metF (by decide +kernel) rfl (Nat.le_of_ble_eq_true rfl) ?_
  intro p e s m below meth c ls hC hin hO hT hl
  obtain ⟨hx, hb, hml, hown, hK, -, -⟩ := id hC
  replace hl : lv_has ls 3 [(0, .int p0), (1, .int p1)] := hl
  refine lv_iload_n hx hb dJ9_floorMod_7cf53_0 rfl (lv_at hl 0 rfl) ?_
  refine lv_iload_n hx hb dJ9_floorMod_7cf53_1 rfl (lv_at hl 1 rfl) ?_
  obtain ⟨hi, h⟩ := h
  refine lv_irem hx hb dJ9_floorMod_7cf53_2 hi ?_
  refine lv_istore_n (lv' := [(2, _), (0, _), (1, _)]) hx hb dJ9_floorMod_7cf53_3 rfl hl (by decide) rfl (fun ls hl_ => ?_)
  replace hl := hl_
  refine lv_iload_n hx hb dJ9_floorMod_7cf53_4 rfl (lv_at hl 1 rfl) ?_
  refine lv_iload_n hx hb dJ9_floorMod_7cf53_5 rfl (lv_at hl 2 rfl) ?_
  refine lv_ixor hx hb dJ9_floorMod_7cf53_6 ?_
  refine lv_if_ge (tgt := 18) hx hb dJ9_floorMod_7cf53_7 (by decide) (fun hc => ?_) (fun hc => ?_)
  · replace h := h.1 hc
    exact t_J9_floorMod_7cf53_18 hC hin hO S (p0 - p0 / p1 * p1) _ _ _ h hT (lv_sub hl [0] rfl)
  · replace h := h.2 hc
    refine lv_iload_n hx hb dJ9_floorMod_7cf53_10 rfl (lv_at hl 0 rfl) ?_
    refine lv_if_eq (tgt := 18) hx hb dJ9_floorMod_7cf53_11 (by decide) (fun hc => ?_) (fun hc => ?_)
    · replace h := h.1 hc
      exact t_J9_floorMod_7cf53_18 hC hin hO S (p0 - p0 / p1 * p1) _ _ _ h hT (lv_sub hl [0] rfl)
    · replace h := h.2 hc
      refine lv_iload_n hx hb dJ9_floorMod_7cf53_14 rfl (lv_at hl 0 rfl) ?_
      refine lv_iload_n hx hb dJ9_floorMod_7cf53_15 rfl (lv_at hl 2 rfl) ?_
      refine lv_iadd hx hb dJ9_floorMod_7cf53_16 ?_
      exact cs_iret hC hT h dJ9_floorMod_7cf53_17 (Nat.le_refl _) (Nat.le_refl _)
/-! X7_keyOfWanted -/
abbrev rm_X7_keyOfWanted (mc ms : Nat) : Room := { frames := 2, cells := mc, slots := ms, locals := 47 }
def w_X7_keyOfWanted_202 (post : Option Nat → cs_S → Prop) (G : Nat → Nat) (mc ms : Nat) (S : cs_S) (u v : Nat) (x5 : Option Nat) : Prop := u ≤ mc ∧ v ≤ ms ∧ post x5 S
section
variable {p : Program} {l : Launch} {e : Env} {s : State} {m : MethodId} {args : Array Value} {below : List Frame} {meth : Method} {c : Code} {P : hw_G} {G : Nat → Nat} {A : Nat → Prop}
set_option maxRecDepth 100000 in
set_option maxHeartbeats 4000000 in
theorem t_X7_keyOfWanted_202 {post : Option Nat → cs_S → Prop} {mc ms : Nat} (hC : rf_C P RX7 p s m meth c cX7_keyOfWanted 6 (some (.object "WatchHouse$Key"))) (hin : meth.name = yX7_keyOfWanted.name) (hO : cs_O G A s s.heap) (S : cs_S) (u v : Nat) (x5 : Option Nat) (H : Heap) (locs : List Loc) (ls : Array Slot) (h : w_X7_keyOfWanted_202 post G mc ms S u v x5) (hT : cs_T P s A S H locs) (hl : lv_has ls 6 [(5, va_rf x5)]) : W p l e (rm_X7_keyOfWanted mc ms) s m args below meth c H locs u v (MQ below (cs_Qr P A post) args s mc ms A) (F0 m 202 ls []) := by
  obtain ⟨hx, hb, hml, hown, hK, -, -⟩ := id hC
  obtain ⟨hu, hv, h⟩ := h
  refine hw_aload (x := x5) hx hb dX7_keyOfWanted_202 (lv_at hl 0 rfl) ?_
  exact cs_aret (v := x5) hC (Or.inl ⟨_, rfl⟩) hT h dX7_keyOfWanted_204 hu hv
end
def w_X7_keyOfWanted_185 (post : Option Nat → cs_S → Prop) (G : Nat → Nat) (mc ms : Nat) (S : cs_S) (u v : Nat) (x0 : Nat) (x3 : Int32) (y0 : Option Nat) (y1 : Option Nat) (y2 : Option Nat) (y3 : Int32) (y4 : Option Nat) : Prop := u ≤ mc ∧ v ≤ ms ∧ ∃ b55, y1 = some b55 ∧ wp_X4_init (fun S56 => (x3 < 0 → w_X7_keyOfWanted_202 post G mc ms S56 u v y0) ∧ (¬ x3 < 0 → cs_k S56 x0 = 9 ∧ ∀ r58, r58 = cs_r S56 816 x0 → ∃ b59, r58 = some b59 ∧ cs_k S56 b59 = 25 ∧ vp_in x3 (cs_n S56 b59) ∧ (∀ b, y0 = some b → cs_k S56 b = 6) ∧ ∀ S61, S61 = cs_uar S56 b59 x3.toNatClampNeg y0 → w_X7_keyOfWanted_202 post G mc ms S61 u v y0)) G S b55 y2 y3 y4
section
variable {p : Program} {l : Launch} {e : Env} {s : State} {m : MethodId} {args : Array Value} {below : List Frame} {meth : Method} {c : Code} {P : hw_G} {G : Nat → Nat} {A : Nat → Prop}
set_option maxRecDepth 100000 in
set_option maxHeartbeats 4000000 in
theorem t_X7_keyOfWanted_185 {post : Option Nat → cs_S → Prop} {mc ms : Nat} (hC : rf_C P RX7 p s m meth c cX7_keyOfWanted 6 (some (.object "WatchHouse$Key"))) (hin : meth.name = yX7_keyOfWanted.name) (hO : cs_O G A s s.heap) (S : cs_S) (u v : Nat) (x0 : Nat) (x3 : Int32) (y0 : Option Nat) (y1 : Option Nat) (y2 : Option Nat) (y3 : Int32) (y4 : Option Nat) (H : Heap) (locs : List Loc) (ls : Array Slot) (h : w_X7_keyOfWanted_185 post G mc ms S u v x0 x3 y0 y1 y2 y3 y4) (hT : cs_T P s A S H locs) (hl : lv_has ls 6 [(0, .ref x0), (3, .int x3)]) : W p l e (rm_X7_keyOfWanted mc ms) s m args below meth c H locs u v (MQ below (cs_Qr P A post) args s mc ms A) (F0 m 185 ls [va_rf y4, .int y3, va_rf y2, va_rf y1, va_rf y0]) := by
  obtain ⟨hx, hb, hml, hown, hK, -, -⟩ := id hC
  obtain ⟨hu, hv, h⟩ := h
  obtain ⟨b55, rfl, h⟩ := h
  refine cs_callv0 (cs_runI hx hb hml hown hK hO hT (c_X4_init h) rfl rfl klX7_73 ki_X4_init kn_X4 kc_X4_init rfl 3 ⟨by decide, by decide, by decide +kernel⟩ ⟨Nat.le_of_ble_eq_true rfl, Nat.le_of_ble_eq_true rfl⟩ rfl hl.1 rfl (hw_cat8 (Nat.le_of_ble_eq_true rfl)) ⟨hu, hv⟩ dX7_keyOfWanted_185) hT (fun S56 H locs h_ hT_ => ?_)
  replace h := h_
  replace hT := hT_
  refine hw_astore (lv' := [(5, _), (0, _), (3, _)]) (x := y0) hx hb dX7_keyOfWanted_188 hl (by decide) rfl (fun ls hl_ => ?_)
  replace hl := hl_
  refine lv_iload_n hx hb dX7_keyOfWanted_190 rfl (lv_at hl 2 rfl) ?_
  refine lv_if_lt (tgt := 202) hx hb dX7_keyOfWanted_191 (by decide) (fun hc => ?_) (fun hc => ?_)
  · replace h := h.1 hc
    exact t_X7_keyOfWanted_202 hC hin hO S56 u v y0 _ _ _ h hT (lv_sub hl [0] rfl)
  · replace h := h.2 hc
    refine lv_aload_n (x := x0) hx hb dX7_keyOfWanted_194 rfl (lv_at hl 1 rfl) ?_
    obtain ⟨hk57_, h⟩ := h
    refine cs_get hx hb hK hT hown 8 hk57_ (by decide) rfl 16 (by decide) kfX7_33 (v := va_rf (cs_r S56 816 x0)) rfl dX7_keyOfWanted_195 ?_
    refine hw_topr (fun r58 er58 => ?_)
    replace h := h r58 er58
    refine lv_iload_n hx hb dX7_keyOfWanted_198 rfl (lv_at hl 2 rfl) ?_
    refine hw_aload (x := y0) hx hb dX7_keyOfWanted_199 (lv_at hl 0 rfl) ?_
    obtain ⟨b59, rfl, h⟩ := h
    obtain ⟨hk60_, h⟩ := h
    obtain ⟨hi, h⟩ := h
    obtain ⟨he, h⟩ := h
    refine cs_aast (x := y0) hx hb hK hT 25 hk60_ (by decide) (ci := 5) rfl (by decide) rfl (by decide) hi he dX7_keyOfWanted_201 (fun H locs hT_ => ?_)
    replace hT := hT_
    obtain ⟨S61, eS61⟩ : ∃ z, z = cs_uar S56 b59 x3.toNatClampNeg y0 := ⟨_, rfl⟩
    rw [← eS61] at hT
    replace h := h S61 eS61
    exact t_X7_keyOfWanted_202 hC hin hO S61 u v y0 _ _ _ h hT (lv_sub hl [0] rfl)
end
def w_X7_keyOfWanted_164 (post : Option Nat → cs_S → Prop) (G : Nat → Nat) (mc ms : Nat) (S : cs_S) (u v : Nat) (x0 : Nat) (x2 : Int32) (x3 : Int32) (x4 : Option Nat) : Prop := u ≤ mc ∧ v ≤ ms ∧ u + 1 ≤ mc ∧ v + 15 ≤ ms ∧ ∀ q62, cs_k S q62 = 0 → ∀ S63, S63 = cs_new S q62 5 → (0 ≤ x3 → cs_k S63 x0 = 9 ∧ ∀ r65, r65 = cs_r S63 816 x0 → ∃ b66, r65 = some b66 ∧ cs_k S63 b66 = 25 ∧ vp_in x3 (cs_n S63 b66) ∧ ∀ r68, r68 = cs_ar S63 b66 x3.toNatClampNeg → w_X7_keyOfWanted_185 post G mc ms S63 (u + 1) (v + 15) x0 x3 (some q62) (some q62) x4 x2 r68) ∧ (¬ 0 ≤ x3 → w_X7_keyOfWanted_185 post G mc ms S63 (u + 1) (v + 15) x0 x3 (some q62) (some q62) x4 x2 none)
section
variable {p : Program} {l : Launch} {e : Env} {s : State} {m : MethodId} {args : Array Value} {below : List Frame} {meth : Method} {c : Code} {P : hw_G} {G : Nat → Nat} {A : Nat → Prop}
set_option maxRecDepth 100000 in
set_option maxHeartbeats 4000000 in
theorem t_X7_keyOfWanted_164 {post : Option Nat → cs_S → Prop} {mc ms : Nat} (hC : rf_C P RX7 p s m meth c cX7_keyOfWanted 6 (some (.object "WatchHouse$Key"))) (hin : meth.name = yX7_keyOfWanted.name) (hO : cs_O G A s s.heap) (S : cs_S) (u v : Nat) (x0 : Nat) (x2 : Int32) (x3 : Int32) (x4 : Option Nat) (H : Heap) (locs : List Loc) (ls : Array Slot) (h : w_X7_keyOfWanted_164 post G mc ms S u v x0 x2 x3 x4) (hT : cs_T P s A S H locs) (hl : lv_has ls 6 [(0, .ref x0), (2, .int x2), (3, .int x3), (4, va_rf x4)]) : W p l e (rm_X7_keyOfWanted mc ms) s m args below meth c H locs u v (MQ below (cs_Qr P A post) args s mc ms A) (F0 m 164 ls []) := by
  obtain ⟨hx, hb, hml, hown, hK, -, -⟩ := id hC
  obtain ⟨hu, hv, h⟩ := h
  obtain ⟨hu62, hv62, h⟩ := h
  refine cs_newo hx hb hK hT hown 5 (by decide) rfl tyX4_ok cs_df5 kxX7_31 kj_X4 kn_X4 hu62 hv62 dX7_keyOfWanted_164 (fun q62 H hq62 hT_ => ?_)
  replace h := h q62 hq62
  replace hT := hT_
  obtain ⟨S63, eS63⟩ : ∃ z, z = cs_new S q62 5 := ⟨_, rfl⟩
  rw [← eS63] at hT
  replace h := h S63 eS63
  refine lv_dup hx hb dX7_keyOfWanted_167 rfl ?_
  refine hw_aload (x := x4) hx hb dX7_keyOfWanted_168 (lv_at hl 3 rfl) ?_
  refine lv_iload_n hx hb dX7_keyOfWanted_170 rfl (lv_at hl 1 rfl) ?_
  refine lv_iload_n hx hb dX7_keyOfWanted_171 rfl (lv_at hl 2 rfl) ?_
  refine lv_if_ge (tgt := 179) hx hb dX7_keyOfWanted_172 (by decide) (fun hc => ?_) (fun hc => ?_)
  · replace h := h.1 hc
    refine lv_aload_n (x := x0) hx hb dX7_keyOfWanted_179 rfl (lv_at hl 0 rfl) ?_
    obtain ⟨hk64_, h⟩ := h
    refine cs_get hx hb hK hT hown 8 hk64_ (by decide) rfl 16 (by decide) kfX7_33 (v := va_rf (cs_r S63 816 x0)) rfl dX7_keyOfWanted_180 ?_
    refine hw_topr (fun r65 er65 => ?_)
    replace h := h r65 er65
    refine lv_iload_n hx hb dX7_keyOfWanted_183 rfl (lv_at hl 2 rfl) ?_
    obtain ⟨b66, rfl, h⟩ := h
    obtain ⟨hk67_, h⟩ := h
    obtain ⟨hi, h⟩ := h
    refine cs_aald hx hb hK hT 25 hk67_ (by decide) rfl (by decide) hi dX7_keyOfWanted_184 ?_
    refine hw_topr (fun r68 er68 => ?_)
    replace h := h r68 er68
    exact t_X7_keyOfWanted_185 hC hin hO S63 (u + 1) (v + 15) x0 x3 (some q62) (some q62) x4 x2 r68 _ _ _ h hT (lv_sub hl [0, 2] rfl)
  · replace h := h.2 hc
    refine hw_null hx hb dX7_keyOfWanted_175 ?_
    refine lv_goto (tgt := 185) hx hb dX7_keyOfWanted_176 (by decide) ?_
    exact t_X7_keyOfWanted_185 hC hin hO S63 (u + 1) (v + 15) x0 x3 (some q62) (some q62) x4 x2 none _ _ _ h hT (lv_sub hl [0, 2] rfl)
end
def w_X7_keyOfWanted_130 (post : Option Nat → cs_S → Prop) (G : Nat → Nat) (mc ms : Nat) : Nat → cs_S → Nat → Nat → Nat → Int32 → Int32 → Int32 → Option Nat → Int32 → Prop
  | 0, _, _, _, _, _, _, _, _, _ => False
  | n + 1, S, u, v, x0, x1, x2, x3, x4, x5 => u ≤ mc ∧ v ≤ ms ∧ (x1 ≤ x5 → w_X7_keyOfWanted_164 post G mc ms S u v x0 x2 x3 x4) ∧ (¬ x1 ≤ x5 → cs_k S x0 = 9 ∧ ∀ r70, r70 = cs_r S 817 x0 → ∃ b71, r70 = some b71 ∧ cs_k S b71 = 26 ∧ ((Int32.ofNat (cs_n S b71)) ≤ x5 → w_X7_keyOfWanted_164 post G mc ms S u v x0 x2 x3 x4) ∧ (¬ (Int32.ofNat (cs_n S b71)) ≤ x5 → ∀ r73, r73 = cs_r S 817 x0 → ∃ b74, r73 = some b74 ∧ cs_k S b74 = 26 ∧ vp_in x5 (cs_n S b74) ∧ ∀ r76, r76 = cs_ar S b74 x5.toNatClampNeg → ∃ b77, x4 = some b77 ∧ cs_k S b77 = 26 ∧ vp_in x5 (cs_n S b77) ∧ (∀ b, r76 = some b → cs_k S b = 11) ∧ ∀ S79, S79 = cs_uar S b77 x5.toNatClampNeg r76 → w_X7_keyOfWanted_130 post G mc ms n S79 u v x0 x1 x2 x3 (some b77) (x5 + 1)))
section
variable {p : Program} {l : Launch} {e : Env} {s : State} {m : MethodId} {args : Array Value} {below : List Frame} {meth : Method} {c : Code} {P : hw_G} {G : Nat → Nat} {A : Nat → Prop}
set_option maxRecDepth 100000 in
set_option maxHeartbeats 4000000 in
theorem t_X7_keyOfWanted_130 {post : Option Nat → cs_S → Prop} {mc ms : Nat} (hC : rf_C P RX7 p s m meth c cX7_keyOfWanted 6 (some (.object "WatchHouse$Key"))) (hin : meth.name = yX7_keyOfWanted.name) (hO : cs_O G A s s.heap) : ∀ (n : Nat) (S : cs_S) (u v : Nat) (x0 : Nat) (x1 : Int32) (x2 : Int32) (x3 : Int32) (x4 : Option Nat) (x5 : Int32) (H : Heap) (locs : List Loc) (ls : Array Slot), w_X7_keyOfWanted_130 post G mc ms n S u v x0 x1 x2 x3 x4 x5 → cs_T P s A S H locs → lv_has ls 6 [(0, .ref x0), (1, .int x1), (2, .int x2), (3, .int x3), (4, va_rf x4), (5, .int x5)] → W p l e (rm_X7_keyOfWanted mc ms) s m args below meth c H locs u v (MQ below (cs_Qr P A post) args s mc ms A) (F0 m 130 ls []) := by
  obtain ⟨hx, hb, hml, hown, hK, -, -⟩ := id hC
  intro n
  induction n with
  | zero => intro S u v x0 x1 x2 x3 x4 x5 H locs ls h; exact False.elim h
  | succ n ih =>
    intro S u v x0 x1 x2 x3 x4 x5 H locs ls h hT hl
    obtain ⟨hu, hv, h⟩ := h
    refine lv_iload hx hb dX7_keyOfWanted_130 (lv_at hl 5 rfl) ?_
    refine lv_iload_n hx hb dX7_keyOfWanted_132 rfl (lv_at hl 1 rfl) ?_
    refine lv_icmp_ge (tgt := 164) hx hb dX7_keyOfWanted_133 (by decide) (fun hc => ?_) (fun hc => ?_)
    · replace h := h.1 hc
      exact t_X7_keyOfWanted_164 hC hin hO S u v x0 x2 x3 x4 _ _ _ h hT (lv_sub hl [0, 2, 3, 4] rfl)
    · replace h := h.2 hc
      refine lv_iload hx hb dX7_keyOfWanted_136 (lv_at hl 5 rfl) ?_
      refine lv_aload_n (x := x0) hx hb dX7_keyOfWanted_138 rfl (lv_at hl 0 rfl) ?_
      obtain ⟨hk69_, h⟩ := h
      refine cs_get hx hb hK hT hown 8 hk69_ (by decide) rfl 17 (by decide) kfX7_27 (v := va_rf (cs_r S 817 x0)) rfl dX7_keyOfWanted_139 ?_
      refine hw_topr (fun r70 er70 => ?_)
      replace h := h r70 er70
      obtain ⟨b71, rfl, h⟩ := h
      obtain ⟨hk72_, h⟩ := h
      refine cs_alen hx hb hK hT 26 hk72_ (by decide) (by decide) dX7_keyOfWanted_142 ?_
      refine lv_icmp_ge (tgt := 164) hx hb dX7_keyOfWanted_143 (by decide) (fun hc => ?_) (fun hc => ?_)
      · replace h := h.1 hc
        exact t_X7_keyOfWanted_164 hC hin hO S u v x0 x2 x3 x4 _ _ _ h hT (lv_sub hl [0, 2, 3, 4] rfl)
      · replace h := h.2 hc
        refine hw_aload (x := x4) hx hb dX7_keyOfWanted_146 (lv_at hl 4 rfl) ?_
        refine lv_iload hx hb dX7_keyOfWanted_148 (lv_at hl 5 rfl) ?_
        refine lv_aload_n (x := x0) hx hb dX7_keyOfWanted_150 rfl (lv_at hl 0 rfl) ?_
        refine cs_get hx hb hK hT hown 8 hk69_ (by decide) rfl 17 (by decide) kfX7_27 (v := va_rf (cs_r S 817 x0)) rfl dX7_keyOfWanted_151 ?_
        refine hw_topr (fun r73 er73 => ?_)
        replace h := h r73 er73
        refine lv_iload hx hb dX7_keyOfWanted_154 (lv_at hl 5 rfl) ?_
        obtain ⟨b74, rfl, h⟩ := h
        obtain ⟨hk75_, h⟩ := h
        obtain ⟨hi, h⟩ := h
        refine cs_aald hx hb hK hT 26 hk75_ (by decide) rfl (by decide) hi dX7_keyOfWanted_156 ?_
        refine hw_topr (fun r76 er76 => ?_)
        replace h := h r76 er76
        obtain ⟨b77, rfl, h⟩ := h
        obtain ⟨hk78_, h⟩ := h
        obtain ⟨hi, h⟩ := h
        obtain ⟨he, h⟩ := h
        refine cs_aast (x := r76) hx hb hK hT 26 hk78_ (by decide) (ci := 10) rfl (by decide) rfl (by decide) hi he dX7_keyOfWanted_157 (fun H locs hT_ => ?_)
        replace hT := hT_
        obtain ⟨S79, eS79⟩ : ∃ z, z = cs_uar S b77 x5.toNatClampNeg r76 := ⟨_, rfl⟩
        rw [← eS79] at hT
        replace h := h S79 eS79
        refine lv_iinc (v := x5 + 1) (lv' := [(5, _), (0, _), (1, _), (2, _), (3, _), (4, _)]) hx hb dX7_keyOfWanted_158 hl (k := 5) rfl rfl (by decide) rfl (fun ls hl_ => ?_)
        replace hl := hl_
        refine lv_goto (tgt := 130) hx hb dX7_keyOfWanted_161 (by decide) ?_
        exact ih S79 u v x0 x1 x2 x3 (some b77) (x5 + 1) _ _ _ h hT (lv_sub hl [1, 2, 3, 4, 5, 0] rfl)
end
def w_X7_keyOfWanted_89 (post : Option Nat → cs_S → Prop) (G : Nat → Nat) (mc ms : Nat) : Nat → cs_S → Nat → Nat → Nat → Int32 → Int32 → Int32 → Option Nat → Prop
  | 0, _, _, _, _, _, _, _, _ => False
  | n + 1, S, u, v, x0, x1, x2, x3, x4 => u ≤ mc ∧ v ≤ ms ∧ (x4 = none → ¬ x1 < 0 ∧ x1.toNatClampNeg * 4 ≤ 536870912 ∧ u + 1 ≤ mc ∧ v + x1.toNatClampNeg ≤ ms ∧ ∀ q81, cs_k S q81 = 0 → ∀ S82, S82 = cs_newA S q81 26 x1.toNatClampNeg → ∃ n9, w_X7_keyOfWanted_130 post G mc ms n9 S82 (u + 1) (v + x1.toNatClampNeg) x0 x1 x2 x3 (some q81) 0) ∧ (∀ b80, x4 = some b80 → cs_k S x0 = 9 ∧ ∀ r84, r84 = cs_r S 817 x0 → cs_k S b80 = 6 ∧ wp_X4_holdsValues (fun r85 S85 => (r85 = 0 → cs_k S85 b80 = 6 ∧ ∀ r88, r88 = cs_r S85 502 b80 → w_X7_keyOfWanted_89 post G mc ms n S85 u v x0 x1 x2 x3 r88) ∧ (¬ r85 = 0 → post (some b80) S85)) G S b80 r84 x1 x2)
section
variable {p : Program} {l : Launch} {e : Env} {s : State} {m : MethodId} {args : Array Value} {below : List Frame} {meth : Method} {c : Code} {P : hw_G} {G : Nat → Nat} {A : Nat → Prop}
set_option maxRecDepth 100000 in
set_option maxHeartbeats 4000000 in
theorem t_X7_keyOfWanted_89 {post : Option Nat → cs_S → Prop} {mc ms : Nat} (hC : rf_C P RX7 p s m meth c cX7_keyOfWanted 6 (some (.object "WatchHouse$Key"))) (hin : meth.name = yX7_keyOfWanted.name) (hO : cs_O G A s s.heap) : ∀ (n : Nat) (S : cs_S) (u v : Nat) (x0 : Nat) (x1 : Int32) (x2 : Int32) (x3 : Int32) (x4 : Option Nat) (H : Heap) (locs : List Loc) (ls : Array Slot), w_X7_keyOfWanted_89 post G mc ms n S u v x0 x1 x2 x3 x4 → cs_T P s A S H locs → lv_has ls 6 [(0, .ref x0), (1, .int x1), (2, .int x2), (3, .int x3), (4, va_rf x4)] → W p l e (rm_X7_keyOfWanted mc ms) s m args below meth c H locs u v (MQ below (cs_Qr P A post) args s mc ms A) (F0 m 89 ls []) := by
  obtain ⟨hx, hb, hml, hown, hK, -, -⟩ := id hC
  intro n
  induction n with
  | zero => intro S u v x0 x1 x2 x3 x4 H locs ls h; exact False.elim h
  | succ n ih =>
    intro S u v x0 x1 x2 x3 x4 H locs ls h hT hl
    obtain ⟨hu, hv, h⟩ := h
    refine hw_aload (x := x4) hx hb dX7_keyOfWanted_89 (lv_at hl 4 rfl) ?_
    refine hw_ifnull (tgt := 121) hx hb dX7_keyOfWanted_91 (by decide) (fun hc => ?_) (fun b80 hc => ?_)
    · replace h := h.1 hc
      subst hc
      refine lv_iload_n hx hb dX7_keyOfWanted_121 rfl (lv_at hl 1 rfl) ?_
      obtain ⟨hn1, hn2, hu81, hv81, h⟩ := h
      refine cs_anew hx hb hK hT hown 26 rfl kxX7_25 (by decide) (by decide) (by decide) hn1 hn2 hu81 hv81 dX7_keyOfWanted_122 (fun q81 H hq81 hT_ => ?_)
      replace h := h q81 hq81
      replace hT := hT_
      obtain ⟨S82, eS82⟩ : ∃ z, z = cs_newA S q81 26 x1.toNatClampNeg := ⟨_, rfl⟩
      rw [← eS82] at hT
      replace h := h S82 eS82
      refine lv_astore (lv' := [(4, _), (0, _), (1, _), (2, _), (3, _)]) (x := q81) hx hb dX7_keyOfWanted_125 hl (by decide) rfl (fun ls hl_ => ?_)
      replace hl := hl_
      refine lv_iconst (v := 0) hx hb dX7_keyOfWanted_127 (by decide) ?_
      refine lv_istore (lv' := [(5, _), (4, _), (0, _), (1, _), (2, _), (3, _)]) hx hb dX7_keyOfWanted_128 hl (by decide) rfl (fun ls hl_ => ?_)
      replace hl := hl_
      obtain ⟨n9, h⟩ := h
      exact t_X7_keyOfWanted_130 hC hin hO n9 S82 (u + 1) (v + x1.toNatClampNeg) x0 x1 x2 x3 (some q81) 0 _ _ _ h hT (lv_sub hl [2, 3, 4, 5, 1, 0] rfl)
    · replace h := h.2 b80 hc
      subst hc
      refine lv_aload (x := b80) hx hb dX7_keyOfWanted_94 (lv_at hl 4 rfl) ?_
      refine lv_aload_n (x := x0) hx hb dX7_keyOfWanted_96 rfl (lv_at hl 0 rfl) ?_
      obtain ⟨hk83_, h⟩ := h
      refine cs_get hx hb hK hT hown 8 hk83_ (by decide) rfl 17 (by decide) kfX7_27 (v := va_rf (cs_r S 817 x0)) rfl dX7_keyOfWanted_97 ?_
      refine hw_topr (fun r84 er84 => ?_)
      replace h := h r84 er84
      refine lv_iload_n hx hb dX7_keyOfWanted_100 rfl (lv_at hl 1 rfl) ?_
      refine lv_iload_n hx hb dX7_keyOfWanted_101 rfl (lv_at hl 2 rfl) ?_
      obtain ⟨hk86_, h⟩ := h
      refine cs_calli0 (cs_runV hx hb hml hown hK hO hT 5 hk86_ (by decide) rfl (c_X4_holdsValues h) rfl rfl klX7_65 ki_X4_holdsValues ks_X4_holdsValues kn_X4 kc_X4_holdsValues 3 ⟨rfl, by decide, by decide, by decide +kernel⟩ ⟨Nat.le_of_ble_eq_true rfl, Nat.le_of_ble_eq_true rfl⟩ rfl hl.1 rfl (hw_cat8 (Nat.le_of_ble_eq_true rfl)) ⟨hu, hv⟩ dX7_keyOfWanted_102) hT (fun r85 S85 H locs h_ hT_ => ?_)
      replace h := h_
      replace hT := hT_
      refine lv_if_eq (tgt := 111) hx hb dX7_keyOfWanted_105 (by decide) (fun hc => ?_) (fun hc => ?_)
      · replace h := h.1 hc
        refine lv_aload (x := b80) hx hb dX7_keyOfWanted_111 (lv_at hl 4 rfl) ?_
        obtain ⟨hk87_, h⟩ := h
        refine cs_get hx hb hK hT hown 5 hk87_ (by decide) rfl 2 (by decide) kfX7_69 (v := va_rf (cs_r S85 502 b80)) rfl dX7_keyOfWanted_113 ?_
        refine hw_topr (fun r88 er88 => ?_)
        replace h := h r88 er88
        refine hw_astore (lv' := [(4, _), (0, _), (1, _), (2, _), (3, _)]) (x := r88) hx hb dX7_keyOfWanted_116 hl (by decide) rfl (fun ls hl_ => ?_)
        replace hl := hl_
        refine lv_goto (tgt := 89) hx hb dX7_keyOfWanted_118 (by decide) ?_
        exact ih S85 u v x0 x1 x2 x3 r88 _ _ _ h hT (lv_sub hl [1, 2, 3, 4, 0] rfl)
      · replace h := h.2 hc
        refine lv_aload (x := b80) hx hb dX7_keyOfWanted_108 (lv_at hl 4 rfl) ?_
        exact cs_aret (v := (some b80)) hC (Or.inl ⟨_, rfl⟩) hT h dX7_keyOfWanted_110 hu hv
end
def w_X7_keyOfWanted_87 (post : Option Nat → cs_S → Prop) (G : Nat → Nat) (mc ms : Nat) (S : cs_S) (u v : Nat) (x0 : Nat) (x1 : Int32) (x2 : Int32) (x3 : Int32) (y0 : Option Nat) : Prop := u ≤ mc ∧ v ≤ ms ∧ ∃ n9, w_X7_keyOfWanted_89 post G mc ms n9 S u v x0 x1 x2 x3 y0
section
variable {p : Program} {l : Launch} {e : Env} {s : State} {m : MethodId} {args : Array Value} {below : List Frame} {meth : Method} {c : Code} {P : hw_G} {G : Nat → Nat} {A : Nat → Prop}
set_option maxRecDepth 100000 in
set_option maxHeartbeats 4000000 in
theorem t_X7_keyOfWanted_87 {post : Option Nat → cs_S → Prop} {mc ms : Nat} (hC : rf_C P RX7 p s m meth c cX7_keyOfWanted 6 (some (.object "WatchHouse$Key"))) (hin : meth.name = yX7_keyOfWanted.name) (hO : cs_O G A s s.heap) (S : cs_S) (u v : Nat) (x0 : Nat) (x1 : Int32) (x2 : Int32) (x3 : Int32) (y0 : Option Nat) (H : Heap) (locs : List Loc) (ls : Array Slot) (h : w_X7_keyOfWanted_87 post G mc ms S u v x0 x1 x2 x3 y0) (hT : cs_T P s A S H locs) (hl : lv_has ls 6 [(0, .ref x0), (1, .int x1), (2, .int x2), (3, .int x3)]) : W p l e (rm_X7_keyOfWanted mc ms) s m args below meth c H locs u v (MQ below (cs_Qr P A post) args s mc ms A) (F0 m 87 ls [va_rf y0]) := by
  obtain ⟨hx, hb, hml, hown, hK, -, -⟩ := id hC
  obtain ⟨hu, hv, h⟩ := h
  refine hw_astore (lv' := [(4, _), (0, _), (1, _), (2, _), (3, _)]) (x := y0) hx hb dX7_keyOfWanted_87 hl (by decide) rfl (fun ls hl_ => ?_)
  replace hl := hl_
  obtain ⟨n9, h⟩ := h
  exact t_X7_keyOfWanted_89 hC hin hO n9 S u v x0 x1 x2 x3 y0 _ _ _ h hT (lv_sub hl [1, 2, 3, 4, 0] rfl)
end
def w_X7_keyOfWanted_72 (post : Option Nat → cs_S → Prop) (G : Nat → Nat) (mc ms : Nat) (S : cs_S) (u v : Nat) (x0 : Nat) (x1 : Int32) (x2 : Int32) (y0 : Int32) : Prop := u ≤ mc ∧ v ≤ ms ∧ (0 ≤ y0 → cs_k S x0 = 9 ∧ ∀ r90, r90 = cs_r S 816 x0 → ∃ b91, r90 = some b91 ∧ cs_k S b91 = 25 ∧ vp_in y0 (cs_n S b91) ∧ ∀ r93, r93 = cs_ar S b91 y0.toNatClampNeg → w_X7_keyOfWanted_87 post G mc ms S u v x0 x1 x2 y0 r93) ∧ (¬ 0 ≤ y0 → w_X7_keyOfWanted_87 post G mc ms S u v x0 x1 x2 y0 none)
section
variable {p : Program} {l : Launch} {e : Env} {s : State} {m : MethodId} {args : Array Value} {below : List Frame} {meth : Method} {c : Code} {P : hw_G} {G : Nat → Nat} {A : Nat → Prop}
set_option maxRecDepth 100000 in
set_option maxHeartbeats 4000000 in
theorem t_X7_keyOfWanted_72 {post : Option Nat → cs_S → Prop} {mc ms : Nat} (hC : rf_C P RX7 p s m meth c cX7_keyOfWanted 6 (some (.object "WatchHouse$Key"))) (hin : meth.name = yX7_keyOfWanted.name) (hO : cs_O G A s s.heap) (S : cs_S) (u v : Nat) (x0 : Nat) (x1 : Int32) (x2 : Int32) (y0 : Int32) (H : Heap) (locs : List Loc) (ls : Array Slot) (h : w_X7_keyOfWanted_72 post G mc ms S u v x0 x1 x2 y0) (hT : cs_T P s A S H locs) (hl : lv_has ls 6 [(0, .ref x0), (1, .int x1), (2, .int x2)]) : W p l e (rm_X7_keyOfWanted mc ms) s m args below meth c H locs u v (MQ below (cs_Qr P A post) args s mc ms A) (F0 m 72 ls [.int y0]) := by
  obtain ⟨hx, hb, hml, hown, hK, -, -⟩ := id hC
  obtain ⟨hu, hv, h⟩ := h
  refine lv_istore_n (lv' := [(3, _), (0, _), (1, _), (2, _)]) hx hb dX7_keyOfWanted_72 rfl hl (by decide) rfl (fun ls hl_ => ?_)
  replace hl := hl_
  refine lv_iload_n hx hb dX7_keyOfWanted_73 rfl (lv_at hl 0 rfl) ?_
  refine lv_if_ge (tgt := 81) hx hb dX7_keyOfWanted_74 (by decide) (fun hc => ?_) (fun hc => ?_)
  · replace h := h.1 hc
    refine lv_aload_n (x := x0) hx hb dX7_keyOfWanted_81 rfl (lv_at hl 1 rfl) ?_
    obtain ⟨hk89_, h⟩ := h
    refine cs_get hx hb hK hT hown 8 hk89_ (by decide) rfl 16 (by decide) kfX7_33 (v := va_rf (cs_r S 816 x0)) rfl dX7_keyOfWanted_82 ?_
    refine hw_topr (fun r90 er90 => ?_)
    replace h := h r90 er90
    refine lv_iload_n hx hb dX7_keyOfWanted_85 rfl (lv_at hl 0 rfl) ?_
    obtain ⟨b91, rfl, h⟩ := h
    obtain ⟨hk92_, h⟩ := h
    obtain ⟨hi, h⟩ := h
    refine cs_aald hx hb hK hT 25 hk92_ (by decide) rfl (by decide) hi dX7_keyOfWanted_86 ?_
    refine hw_topr (fun r93 er93 => ?_)
    replace h := h r93 er93
    exact t_X7_keyOfWanted_87 hC hin hO S u v x0 x1 x2 y0 r93 _ _ _ h hT (lv_sub hl [1, 2, 3, 0] rfl)
  · replace h := h.2 hc
    refine hw_null hx hb dX7_keyOfWanted_77 ?_
    refine lv_goto (tgt := 87) hx hb dX7_keyOfWanted_78 (by decide) ?_
    exact t_X7_keyOfWanted_87 hC hin hO S u v x0 x1 x2 y0 none _ _ _ h hT (lv_sub hl [1, 2, 3, 0] rfl)
end
def w_X7_keyOfWanted_39 (post : Option Nat → cs_S → Prop) (G : Nat → Nat) (mc ms : Nat) (S : cs_S) (u v : Nat) (x0 : Nat) (x1 : Int32) (x2 : Int32) : Prop := u ≤ mc ∧ v ≤ ms ∧ cs_k S x0 = 9 ∧ ∀ r95, r95 = cs_r S 816 x0 → ∃ b96, r95 = some b96 ∧ cs_k S b96 = 25 ∧ (¬ (Int32.ofNat (cs_n S b96)) = 0 → ∀ r98, r98 = cs_r S 816 x0 → ∃ b99, r98 = some b99 ∧ cs_k S b99 = 25 ∧ wp_J9_floorMod_7cf53 (fun r101 S101 => w_X7_keyOfWanted_72 post G mc ms S101 u v x0 x1 (x2 ^^^ (((x2.toUInt32 >>> ((15 : Int32).toUInt32 &&& Int32.toUInt32 31)).toInt32) ^^^ ((x2.toUInt32 >>> ((7 : Int32).toUInt32 &&& Int32.toUInt32 31)).toInt32))) r101) G S (x2 ^^^ (((x2.toUInt32 >>> ((15 : Int32).toUInt32 &&& Int32.toUInt32 31)).toInt32) ^^^ ((x2.toUInt32 >>> ((7 : Int32).toUInt32 &&& Int32.toUInt32 31)).toInt32))) (Int32.ofNat (cs_n S b99))) ∧ ((Int32.ofNat (cs_n S b96)) = 0 → w_X7_keyOfWanted_72 post G mc ms S u v x0 x1 (x2 ^^^ (((x2.toUInt32 >>> ((15 : Int32).toUInt32 &&& Int32.toUInt32 31)).toInt32) ^^^ ((x2.toUInt32 >>> ((7 : Int32).toUInt32 &&& Int32.toUInt32 31)).toInt32))) ((-1)))
section
variable {p : Program} {l : Launch} {e : Env} {s : State} {m : MethodId} {args : Array Value} {below : List Frame} {meth : Method} {c : Code} {P : hw_G} {G : Nat → Nat} {A : Nat → Prop}
set_option maxRecDepth 100000 in
set_option maxHeartbeats 4000000 in
theorem t_X7_keyOfWanted_39 {post : Option Nat → cs_S → Prop} {mc ms : Nat} (hC : rf_C P RX7 p s m meth c cX7_keyOfWanted 6 (some (.object "WatchHouse$Key"))) (hin : meth.name = yX7_keyOfWanted.name) (hO : cs_O G A s s.heap) (S : cs_S) (u v : Nat) (x0 : Nat) (x1 : Int32) (x2 : Int32) (H : Heap) (locs : List Loc) (ls : Array Slot) (h : w_X7_keyOfWanted_39 post G mc ms S u v x0 x1 x2) (hT : cs_T P s A S H locs) (hl : lv_has ls 6 [(0, .ref x0), (1, .int x1), (2, .int x2)]) : W p l e (rm_X7_keyOfWanted mc ms) s m args below meth c H locs u v (MQ below (cs_Qr P A post) args s mc ms A) (F0 m 39 ls []) := by
  obtain ⟨hx, hb, hml, hown, hK, -, -⟩ := id hC
  obtain ⟨hu, hv, h⟩ := h
  refine lv_iload_n hx hb dX7_keyOfWanted_39 rfl (lv_at hl 2 rfl) ?_
  refine lv_iload_n hx hb dX7_keyOfWanted_40 rfl (lv_at hl 2 rfl) ?_
  refine lv_bipush (v := 15) hx hb dX7_keyOfWanted_41 (by decide) ?_
  refine lv_iushr (v := (x2.toUInt32 >>> ((15 : Int32).toUInt32 &&& Int32.toUInt32 31)).toInt32) hx hb dX7_keyOfWanted_43 rfl ?_
  refine lv_iload_n hx hb dX7_keyOfWanted_44 rfl (lv_at hl 2 rfl) ?_
  refine lv_bipush (v := 7) hx hb dX7_keyOfWanted_45 (by decide) ?_
  refine lv_iushr (v := (x2.toUInt32 >>> ((7 : Int32).toUInt32 &&& Int32.toUInt32 31)).toInt32) hx hb dX7_keyOfWanted_47 rfl ?_
  refine lv_ixor hx hb dX7_keyOfWanted_48 ?_
  refine lv_ixor hx hb dX7_keyOfWanted_49 ?_
  refine lv_istore_n (lv' := [(2, _), (0, _), (1, _)]) hx hb dX7_keyOfWanted_50 rfl hl (by decide) rfl (fun ls hl_ => ?_)
  replace hl := hl_
  refine lv_aload_n (x := x0) hx hb dX7_keyOfWanted_51 rfl (lv_at hl 1 rfl) ?_
  obtain ⟨hk94_, h⟩ := h
  refine cs_get hx hb hK hT hown 8 hk94_ (by decide) rfl 16 (by decide) kfX7_33 (v := va_rf (cs_r S 816 x0)) rfl dX7_keyOfWanted_52 ?_
  refine hw_topr (fun r95 er95 => ?_)
  replace h := h r95 er95
  obtain ⟨b96, rfl, h⟩ := h
  obtain ⟨hk97_, h⟩ := h
  refine cs_alen hx hb hK hT 25 hk97_ (by decide) (by decide) dX7_keyOfWanted_55 ?_
  refine lv_if_ne (tgt := 63) hx hb dX7_keyOfWanted_56 (by decide) (fun hc => ?_) (fun hc => ?_)
  · replace h := h.1 hc
    refine lv_iload_n hx hb dX7_keyOfWanted_63 rfl (lv_at hl 0 rfl) ?_
    refine lv_aload_n (x := x0) hx hb dX7_keyOfWanted_64 rfl (lv_at hl 1 rfl) ?_
    refine cs_get hx hb hK hT hown 8 hk94_ (by decide) rfl 16 (by decide) kfX7_33 (v := va_rf (cs_r S 816 x0)) rfl dX7_keyOfWanted_65 ?_
    refine hw_topr (fun r98 er98 => ?_)
    replace h := h r98 er98
    obtain ⟨b99, rfl, h⟩ := h
    obtain ⟨hk100_, h⟩ := h
    refine cs_alen hx hb hK hT 25 hk100_ (by decide) (by decide) dX7_keyOfWanted_68 ?_
    refine cs_calli0 (cs_runS hx hb hml hown hK hO hT (c_J9_floorMod_7cf53 h) rfl rfl klX7_59 ki_J9_floorMod_7cf53 kn_J9 kc_J9_floorMod_7cf53 2 ⟨by decide, by decide, by decide +kernel⟩ ⟨Nat.le_of_ble_eq_true rfl, Nat.le_of_ble_eq_true rfl⟩ rfl hl.1 rfl (hw_cat8 (Nat.le_of_ble_eq_true rfl)) ⟨hu, hv⟩ dX7_keyOfWanted_69) hT (fun r101 S101 H locs h_ hT_ => ?_)
    replace h := h_
    replace hT := hT_
    exact t_X7_keyOfWanted_72 hC hin hO S101 u v x0 x1 (x2 ^^^ (((x2.toUInt32 >>> ((15 : Int32).toUInt32 &&& Int32.toUInt32 31)).toInt32) ^^^ ((x2.toUInt32 >>> ((7 : Int32).toUInt32 &&& Int32.toUInt32 31)).toInt32))) r101 _ _ _ h hT (lv_sub hl [1, 2, 0] rfl)
  · replace h := h.2 hc
    refine lv_iconst (v := (-1)) hx hb dX7_keyOfWanted_59 (by decide) ?_
    refine lv_goto (tgt := 72) hx hb dX7_keyOfWanted_60 (by decide) ?_
    exact t_X7_keyOfWanted_72 hC hin hO S u v x0 x1 (x2 ^^^ (((x2.toUInt32 >>> ((15 : Int32).toUInt32 &&& Int32.toUInt32 31)).toInt32) ^^^ ((x2.toUInt32 >>> ((7 : Int32).toUInt32 &&& Int32.toUInt32 31)).toInt32))) ((-1)) _ _ _ h hT (lv_sub hl [1, 2, 0] rfl)
end
def w_X7_keyOfWanted_4 (post : Option Nat → cs_S → Prop) (G : Nat → Nat) (mc ms : Nat) : Nat → cs_S → Nat → Nat → Nat → Int32 → Int32 → Int32 → Prop
  | 0, _, _, _, _, _, _, _ => False
  | n + 1, S, u, v, x0, x1, x2, x3 => u ≤ mc ∧ v ≤ ms ∧ (x1 ≤ x3 → w_X7_keyOfWanted_39 post G mc ms S u v x0 x1 x2) ∧ (¬ x1 ≤ x3 → cs_k S x0 = 9 ∧ ∀ r103, r103 = cs_r S 817 x0 → ∃ b104, r103 = some b104 ∧ cs_k S b104 = 26 ∧ ((Int32.ofNat (cs_n S b104)) ≤ x3 → w_X7_keyOfWanted_39 post G mc ms S u v x0 x1 x2) ∧ (¬ (Int32.ofNat (cs_n S b104)) ≤ x3 → ∀ r106, r106 = cs_r S 817 x0 → ∃ b107, r106 = some b107 ∧ cs_k S b107 = 26 ∧ vp_in x3 (cs_n S b107) ∧ ∀ r109, r109 = cs_ar S b107 x3.toNatClampNeg → ∃ b110, r109 = some b110 ∧ cs_k S b110 = 11 ∧ w_X7_keyOfWanted_4 post G mc ms n S u v x0 x1 ((31 * x2) + (cs_i S 1003 b110)) (x3 + 1)))
section
variable {p : Program} {l : Launch} {e : Env} {s : State} {m : MethodId} {args : Array Value} {below : List Frame} {meth : Method} {c : Code} {P : hw_G} {G : Nat → Nat} {A : Nat → Prop}
set_option maxRecDepth 100000 in
set_option maxHeartbeats 4000000 in
theorem t_X7_keyOfWanted_4 {post : Option Nat → cs_S → Prop} {mc ms : Nat} (hC : rf_C P RX7 p s m meth c cX7_keyOfWanted 6 (some (.object "WatchHouse$Key"))) (hin : meth.name = yX7_keyOfWanted.name) (hO : cs_O G A s s.heap) : ∀ (n : Nat) (S : cs_S) (u v : Nat) (x0 : Nat) (x1 : Int32) (x2 : Int32) (x3 : Int32) (H : Heap) (locs : List Loc) (ls : Array Slot), w_X7_keyOfWanted_4 post G mc ms n S u v x0 x1 x2 x3 → cs_T P s A S H locs → lv_has ls 6 [(0, .ref x0), (1, .int x1), (2, .int x2), (3, .int x3)] → W p l e (rm_X7_keyOfWanted mc ms) s m args below meth c H locs u v (MQ below (cs_Qr P A post) args s mc ms A) (F0 m 4 ls []) := by
  obtain ⟨hx, hb, hml, hown, hK, -, -⟩ := id hC
  intro n
  induction n with
  | zero => intro S u v x0 x1 x2 x3 H locs ls h; exact False.elim h
  | succ n ih =>
    intro S u v x0 x1 x2 x3 H locs ls h hT hl
    obtain ⟨hu, hv, h⟩ := h
    refine lv_iload_n hx hb dX7_keyOfWanted_4 rfl (lv_at hl 3 rfl) ?_
    refine lv_iload_n hx hb dX7_keyOfWanted_5 rfl (lv_at hl 1 rfl) ?_
    refine lv_icmp_ge (tgt := 39) hx hb dX7_keyOfWanted_6 (by decide) (fun hc => ?_) (fun hc => ?_)
    · replace h := h.1 hc
      exact t_X7_keyOfWanted_39 hC hin hO S u v x0 x1 x2 _ _ _ h hT (lv_sub hl [0, 1, 2] rfl)
    · replace h := h.2 hc
      refine lv_iload_n hx hb dX7_keyOfWanted_9 rfl (lv_at hl 3 rfl) ?_
      refine lv_aload_n (x := x0) hx hb dX7_keyOfWanted_10 rfl (lv_at hl 0 rfl) ?_
      obtain ⟨hk102_, h⟩ := h
      refine cs_get hx hb hK hT hown 8 hk102_ (by decide) rfl 17 (by decide) kfX7_27 (v := va_rf (cs_r S 817 x0)) rfl dX7_keyOfWanted_11 ?_
      refine hw_topr (fun r103 er103 => ?_)
      replace h := h r103 er103
      obtain ⟨b104, rfl, h⟩ := h
      obtain ⟨hk105_, h⟩ := h
      refine cs_alen hx hb hK hT 26 hk105_ (by decide) (by decide) dX7_keyOfWanted_14 ?_
      refine lv_icmp_ge (tgt := 39) hx hb dX7_keyOfWanted_15 (by decide) (fun hc => ?_) (fun hc => ?_)
      · replace h := h.1 hc
        exact t_X7_keyOfWanted_39 hC hin hO S u v x0 x1 x2 _ _ _ h hT (lv_sub hl [0, 1, 2] rfl)
      · replace h := h.2 hc
        refine lv_bipush (v := 31) hx hb dX7_keyOfWanted_18 (by decide) ?_
        refine lv_iload_n hx hb dX7_keyOfWanted_20 rfl (lv_at hl 2 rfl) ?_
        refine lv_imul hx hb dX7_keyOfWanted_21 ?_
        refine lv_aload_n (x := x0) hx hb dX7_keyOfWanted_22 rfl (lv_at hl 0 rfl) ?_
        refine cs_get hx hb hK hT hown 8 hk102_ (by decide) rfl 17 (by decide) kfX7_27 (v := va_rf (cs_r S 817 x0)) rfl dX7_keyOfWanted_23 ?_
        refine hw_topr (fun r106 er106 => ?_)
        replace h := h r106 er106
        refine lv_iload_n hx hb dX7_keyOfWanted_26 rfl (lv_at hl 3 rfl) ?_
        obtain ⟨b107, rfl, h⟩ := h
        obtain ⟨hk108_, h⟩ := h
        obtain ⟨hi, h⟩ := h
        refine cs_aald hx hb hK hT 26 hk108_ (by decide) rfl (by decide) hi dX7_keyOfWanted_27 ?_
        refine hw_topr (fun r109 er109 => ?_)
        replace h := h r109 er109
        obtain ⟨b110, rfl, h⟩ := h
        obtain ⟨hk111_, h⟩ := h
        refine cs_get hx hb hK hT hown 10 hk111_ (by decide) rfl 3 (by decide) kfX7_56 (v := .int (cs_i S 1003 b110)) rfl dX7_keyOfWanted_28 ?_
        refine lv_iadd hx hb dX7_keyOfWanted_31 ?_
        refine lv_istore_n (lv' := [(2, _), (0, _), (1, _), (3, _)]) hx hb dX7_keyOfWanted_32 rfl hl (by decide) rfl (fun ls hl_ => ?_)
        replace hl := hl_
        refine lv_iinc (v := x3 + 1) (lv' := [(3, _), (2, _), (0, _), (1, _)]) hx hb dX7_keyOfWanted_33 hl (k := 3) rfl rfl (by decide) rfl (fun ls hl_ => ?_)
        replace hl := hl_
        refine lv_goto (tgt := 4) hx hb dX7_keyOfWanted_36 (by decide) ?_
        exact ih S u v x0 x1 ((31 * x2) + (cs_i S 1003 b110)) (x3 + 1) _ _ _ h hT (lv_sub hl [2, 3, 1, 0] rfl)
end
def wp_X7_keyOfWanted (post : Option Nat → cs_S → Prop) (G : Nat → Nat) (mc ms : Nat) (S : cs_S) (o : Nat) (p1 : Int32) : Prop := ∃ n9, w_X7_keyOfWanted_4 post G mc ms n9 S 0 0 o p1 p1 0
set_option maxRecDepth 100000 in
set_option maxHeartbeats 4000000 in
theorem c_X7_keyOfWanted {l : Launch} {P : hw_G} {G : Nat → Nat} {S : cs_S} {sz : Nat} {mc ms : Nat} {o : Nat} {p1 : Int32} {post : Option Nat → cs_S → Prop} (h : wp_X7_keyOfWanted post G mc ms S o p1) : Met l yX7_keyOfWanted [Cond.code yX7_keyOfWanted cX7_keyOfWanted 6 (some (.object "WatchHouse$Key"))] (rm_X7_keyOfWanted mc ms) (cs_Pc P G S sz [.ref o, .int p1]) (cs_Qr P (cs_A S sz) post) mc ms (cs_A S sz) := by
  refine cs_met (by decide) rfl (Nat.le_of_ble_eq_true rfl) ?_
  intro p e s m below meth c ls hC hin hO hT hl
  obtain ⟨hx, hb, hml, hown, hK, -, -⟩ := id hC
  replace hl : lv_has ls 6 [(0, .ref o), (1, .int p1)] := hl
  refine lv_iload_n hx hb dX7_keyOfWanted_0 rfl (lv_at hl 1 rfl) ?_
  refine lv_istore_n (lv' := [(2, _), (0, _), (1, _)]) hx hb dX7_keyOfWanted_1 rfl hl (by decide) rfl (fun ls hl_ => ?_)
  replace hl := hl_
  refine lv_iconst (v := 0) hx hb dX7_keyOfWanted_2 (by decide) ?_
  refine lv_istore_n (lv' := [(3, _), (2, _), (0, _), (1, _)]) hx hb dX7_keyOfWanted_3 rfl hl (by decide) rfl (fun ls hl_ => ?_)
  replace hl := hl_
  obtain ⟨n9, h⟩ := h
  exact t_X7_keyOfWanted_4 hC hin hO n9 S 0 0 o p1 p1 0 _ _ _ h hT (lv_sub hl [2, 3, 1, 0] rfl)
/-! X7_keyOf -/
abbrev rm_X7_keyOf (mc ms : Nat) : Room := { frames := 3, cells := mc, slots := ms, locals := 72 }
def w_X7_keyOf_52 (post : Option Nat → cs_S → Prop) (G : Nat → Nat) (mc ms : Nat) (S : cs_S) (u v : Nat) (x0 : Nat) : Prop := u ≤ mc ∧ v ≤ ms ∧ cs_k S x0 = 9 ∧ ∃ m22 n22, u + m22 ≤ mc ∧ v + n22 ≤ ms ∧ wp_X7_keyOfWanted (fun r22 S22 => post r22 S22) G m22 n22 S x0 (cs_i S 809 x0)
section
variable {p : Program} {l : Launch} {e : Env} {s : State} {m : MethodId} {args : Array Value} {below : List Frame} {meth : Method} {c : Code} {P : hw_G} {G : Nat → Nat} {A : Nat → Prop}
set_option maxRecDepth 100000 in
set_option maxHeartbeats 4000000 in
theorem t_X7_keyOf_52 {post : Option Nat → cs_S → Prop} {mc ms : Nat} (hC : rf_C P RX7 p s m meth c cX7_keyOf 3 (some (.object "WatchHouse$Key"))) (hin : meth.name = yX7_keyOf.name) (hO : cs_O G A s s.heap) (S : cs_S) (u v : Nat) (x0 : Nat) (H : Heap) (locs : List Loc) (ls : Array Slot) (h : w_X7_keyOf_52 post G mc ms S u v x0) (hT : cs_T P s A S H locs) (hl : lv_has ls 3 [(0, .ref x0)]) : W p l e (rm_X7_keyOf mc ms) s m args below meth c H locs u v (MQ below (cs_Qr P A post) args s mc ms A) (F0 m 52 ls []) := by
  obtain ⟨hx, hb, hml, hown, hK, -, -⟩ := id hC
  obtain ⟨hu, hv, h⟩ := h
  refine lv_aload_n (x := x0) hx hb dX7_keyOf_52 rfl (lv_at hl 0 rfl) ?_
  refine lv_aload_n (x := x0) hx hb dX7_keyOf_53 rfl (lv_at hl 0 rfl) ?_
  obtain ⟨hk21_, h⟩ := h
  refine cs_get hx hb hK hT hown 8 hk21_ (by decide) rfl 9 (by decide) kfX7_37 (v := .int (cs_i S 809 x0)) rfl dX7_keyOf_54 ?_
  obtain ⟨m22, n22, hu22, hv22, h⟩ := h
  refine cs_callr (cs_runV hx hb hml hown hK hO hT 8 hk21_ (by decide) rfl (c_X7_keyOfWanted h) rfl rfl klX7_52 ki_X7_keyOfWanted ks_X7_keyOfWanted kn_X7 kc_X7_keyOfWanted 1 ⟨rfl, by decide, by decide, by decide +kernel⟩ ⟨Nat.le_of_ble_eq_true rfl, Nat.le_of_ble_eq_true rfl⟩ rfl hl.1 rfl (hw_cat8 (Nat.le_of_ble_eq_true rfl)) ⟨hu22, hv22⟩ dX7_keyOf_57) hT (fun r22 S22 H locs h_ hT_ => ?_)
  replace h := h_
  replace hT := hT_
  exact cs_aret (v := r22) hC (Or.inl ⟨_, rfl⟩) hT h dX7_keyOf_60 hu22 hv22
end
def w_X7_keyOf_2 (post : Option Nat → cs_S → Prop) (G : Nat → Nat) (mc ms : Nat) : Nat → cs_S → Nat → Nat → Nat → Option Nat → Int32 → Prop
  | 0, _, _, _, _, _, _ => False
  | n + 1, S, u, v, x0, x1, x2 => u ≤ mc ∧ v ≤ ms ∧ cs_k S x0 = 9 ∧ ((cs_i S 809 x0) ≤ x2 → w_X7_keyOf_52 post G mc ms S u v x0) ∧ (¬ (cs_i S 809 x0) ≤ x2 → ∀ r24, r24 = cs_r S 808 x0 → ∃ b25, r24 = some b25 ∧ cs_k S b25 = 21 ∧ ((Int32.ofNat (cs_n S b25)) ≤ x2 → w_X7_keyOf_52 post G mc ms S u v x0) ∧ (¬ (Int32.ofNat (cs_n S b25)) ≤ x2 → ∀ r27, r27 = cs_r S 817 x0 → ∀ r28, r28 = cs_r S 808 x0 → ∃ b29, r28 = some b29 ∧ cs_k S b29 = 21 ∧ vp_in x2 (cs_n S b29) ∧ ∃ b31, x1 = some b31 ∧ cs_k S b31 = 5 ∧ wp_X3_find (fun r32 S32 => ∃ b34, r27 = some b34 ∧ cs_k S32 b34 = 26 ∧ vp_in x2 (cs_n S32 b34) ∧ (∀ b, r32 = some b → cs_k S32 b = 11) ∧ ∀ S36, S36 = cs_uar S32 b34 x2.toNatClampNeg r32 → cs_k S36 x0 = 9 ∧ ∀ r38, r38 = cs_r S36 817 x0 → ∃ b39, r38 = some b39 ∧ cs_k S36 b39 = 26 ∧ vp_in x2 (cs_n S36 b39) ∧ ∀ r41, r41 = cs_ar S36 b39 x2.toNatClampNeg → (r41 = none → post none S36) ∧ (∀ b42, r41 = some b42 → w_X7_keyOf_2 post G mc ms n S36 u v x0 (some b31) (x2 + 1))) G S b31 (cs_al S b29 x2.toNatClampNeg)))
section
variable {p : Program} {l : Launch} {e : Env} {s : State} {m : MethodId} {args : Array Value} {below : List Frame} {meth : Method} {c : Code} {P : hw_G} {G : Nat → Nat} {A : Nat → Prop}
set_option maxRecDepth 100000 in
set_option maxHeartbeats 4000000 in
theorem t_X7_keyOf_2 {post : Option Nat → cs_S → Prop} {mc ms : Nat} (hC : rf_C P RX7 p s m meth c cX7_keyOf 3 (some (.object "WatchHouse$Key"))) (hin : meth.name = yX7_keyOf.name) (hO : cs_O G A s s.heap) : ∀ (n : Nat) (S : cs_S) (u v : Nat) (x0 : Nat) (x1 : Option Nat) (x2 : Int32) (H : Heap) (locs : List Loc) (ls : Array Slot), w_X7_keyOf_2 post G mc ms n S u v x0 x1 x2 → cs_T P s A S H locs → lv_has ls 3 [(0, .ref x0), (1, va_rf x1), (2, .int x2)] → W p l e (rm_X7_keyOf mc ms) s m args below meth c H locs u v (MQ below (cs_Qr P A post) args s mc ms A) (F0 m 2 ls []) := by
  obtain ⟨hx, hb, hml, hown, hK, -, -⟩ := id hC
  intro n
  induction n with
  | zero => intro S u v x0 x1 x2 H locs ls h; exact False.elim h
  | succ n ih =>
    intro S u v x0 x1 x2 H locs ls h hT hl
    obtain ⟨hu, hv, h⟩ := h
    refine lv_iload_n hx hb dX7_keyOf_2 rfl (lv_at hl 2 rfl) ?_
    refine lv_aload_n (x := x0) hx hb dX7_keyOf_3 rfl (lv_at hl 0 rfl) ?_
    obtain ⟨hk23_, h⟩ := h
    refine cs_get hx hb hK hT hown 8 hk23_ (by decide) rfl 9 (by decide) kfX7_37 (v := .int (cs_i S 809 x0)) rfl dX7_keyOf_4 ?_
    refine lv_icmp_ge (tgt := 52) hx hb dX7_keyOf_7 (by decide) (fun hc => ?_) (fun hc => ?_)
    · replace h := h.1 hc
      exact t_X7_keyOf_52 hC hin hO S u v x0 _ _ _ h hT (lv_sub hl [0] rfl)
    · replace h := h.2 hc
      refine lv_iload_n hx hb dX7_keyOf_10 rfl (lv_at hl 2 rfl) ?_
      refine lv_aload_n (x := x0) hx hb dX7_keyOf_11 rfl (lv_at hl 0 rfl) ?_
      refine cs_get hx hb hK hT hown 8 hk23_ (by decide) rfl 8 (by decide) kfX7_21 (v := va_rf (cs_r S 808 x0)) rfl dX7_keyOf_12 ?_
      refine hw_topr (fun r24 er24 => ?_)
      replace h := h r24 er24
      obtain ⟨b25, rfl, h⟩ := h
      obtain ⟨hk26_, h⟩ := h
      refine cs_alen hx hb hK hT 21 hk26_ (by decide) (by decide) dX7_keyOf_15 ?_
      refine lv_icmp_ge (tgt := 52) hx hb dX7_keyOf_16 (by decide) (fun hc => ?_) (fun hc => ?_)
      · replace h := h.1 hc
        exact t_X7_keyOf_52 hC hin hO S u v x0 _ _ _ h hT (lv_sub hl [0] rfl)
      · replace h := h.2 hc
        refine lv_aload_n (x := x0) hx hb dX7_keyOf_19 rfl (lv_at hl 0 rfl) ?_
        refine cs_get hx hb hK hT hown 8 hk23_ (by decide) rfl 17 (by decide) kfX7_27 (v := va_rf (cs_r S 817 x0)) rfl dX7_keyOf_20 ?_
        refine hw_topr (fun r27 er27 => ?_)
        replace h := h r27 er27
        refine lv_iload_n hx hb dX7_keyOf_23 rfl (lv_at hl 2 rfl) ?_
        refine hw_aload_n (x := x1) hx hb dX7_keyOf_24 rfl (lv_at hl 1 rfl) ?_
        refine lv_aload_n (x := x0) hx hb dX7_keyOf_25 rfl (lv_at hl 0 rfl) ?_
        refine cs_get hx hb hK hT hown 8 hk23_ (by decide) rfl 8 (by decide) kfX7_21 (v := va_rf (cs_r S 808 x0)) rfl dX7_keyOf_26 ?_
        refine hw_topr (fun r28 er28 => ?_)
        replace h := h r28 er28
        refine lv_iload_n hx hb dX7_keyOf_29 rfl (lv_at hl 2 rfl) ?_
        obtain ⟨b29, rfl, h⟩ := h
        obtain ⟨hk30_, h⟩ := h
        obtain ⟨hi, h⟩ := h
        refine cs_lald hx hb hK hT hk30_ hi dX7_keyOf_30 ?_
        obtain ⟨b31, rfl, h⟩ := h
        obtain ⟨hk33_, h⟩ := h
        refine cs_callr0 (cs_runV hx hb hml hown hK hO hT 4 hk33_ (by decide) rfl (c_X3_find h) rfl rfl klX7_46 ki_X3_find ks_X3_find kn_X3 kc_X3_find 1 ⟨rfl, by decide, by decide, by decide +kernel⟩ ⟨Nat.le_of_ble_eq_true rfl, Nat.le_of_ble_eq_true rfl⟩ rfl hl.1 rfl (hw_cat8 (Nat.le_of_ble_eq_true rfl)) ⟨hu, hv⟩ dX7_keyOf_31) hT (fun r32 S32 H locs h_ hT_ => ?_)
        replace h := h_
        replace hT := hT_
        obtain ⟨b34, rfl, h⟩ := h
        obtain ⟨hk35_, h⟩ := h
        obtain ⟨hi, h⟩ := h
        obtain ⟨he, h⟩ := h
        refine cs_aast (x := r32) hx hb hK hT 26 hk35_ (by decide) (ci := 10) rfl (by decide) rfl (by decide) hi he dX7_keyOf_34 (fun H locs hT_ => ?_)
        replace hT := hT_
        obtain ⟨S36, eS36⟩ : ∃ z, z = cs_uar S32 b34 x2.toNatClampNeg r32 := ⟨_, rfl⟩
        rw [← eS36] at hT
        replace h := h S36 eS36
        refine lv_aload_n (x := x0) hx hb dX7_keyOf_35 rfl (lv_at hl 0 rfl) ?_
        obtain ⟨hk37_, h⟩ := h
        refine cs_get hx hb hK hT hown 8 hk37_ (by decide) rfl 17 (by decide) kfX7_27 (v := va_rf (cs_r S36 817 x0)) rfl dX7_keyOf_36 ?_
        refine hw_topr (fun r38 er38 => ?_)
        replace h := h r38 er38
        refine lv_iload_n hx hb dX7_keyOf_39 rfl (lv_at hl 2 rfl) ?_
        obtain ⟨b39, rfl, h⟩ := h
        obtain ⟨hk40_, h⟩ := h
        obtain ⟨hi, h⟩ := h
        refine cs_aald hx hb hK hT 26 hk40_ (by decide) rfl (by decide) hi dX7_keyOf_40 ?_
        refine hw_topr (fun r41 er41 => ?_)
        replace h := h r41 er41
        refine hw_ifnonnull (tgt := 46) hx hb dX7_keyOf_41 (by decide) (fun b42 hc => ?_) (fun hc => ?_)
        · replace h := h.2 b42 hc
          subst hc
          refine lv_iinc (v := x2 + 1) (lv' := [(2, _), (0, _), (1, _)]) hx hb dX7_keyOf_46 hl (k := 2) rfl rfl (by decide) rfl (fun ls hl_ => ?_)
          replace hl := hl_
          refine lv_goto (tgt := 2) hx hb dX7_keyOf_49 (by decide) ?_
          exact ih S36 u v x0 (some b31) (x2 + 1) _ _ _ h hT (lv_sub hl [1, 2, 0] rfl)
        · replace h := h.1 hc
          subst hc
          refine hw_null hx hb dX7_keyOf_44 ?_
          exact cs_aret (v := none) hC (Or.inl ⟨_, rfl⟩) hT h dX7_keyOf_45 hu hv
end
def wp_X7_keyOf (post : Option Nat → cs_S → Prop) (G : Nat → Nat) (mc ms : Nat) (S : cs_S) (o : Nat) (p1 : Option Nat) : Prop := ∃ n9, w_X7_keyOf_2 post G mc ms n9 S 0 0 o p1 0
set_option maxRecDepth 100000 in
set_option maxHeartbeats 4000000 in
theorem c_X7_keyOf {l : Launch} {P : hw_G} {G : Nat → Nat} {S : cs_S} {sz : Nat} {mc ms : Nat} {o : Nat} {p1 : Option Nat} {post : Option Nat → cs_S → Prop} (h : wp_X7_keyOf post G mc ms S o p1) : Met l yX7_keyOf [Cond.code yX7_keyOf cX7_keyOf 3 (some (.object "WatchHouse$Key"))] (rm_X7_keyOf mc ms) (cs_Pc P G S sz [.ref o, va_rf p1]) (cs_Qr P (cs_A S sz) post) mc ms (cs_A S sz) := by
  refine cs_met (by decide) rfl (by cases p1 <;> exact Nat.le_of_ble_eq_true rfl) ?_
  intro p e s m below meth c ls hC hin hO hT hl
  obtain ⟨hx, hb, hml, hown, hK, -, -⟩ := id hC
  replace hl : lv_has ls 3 [(0, .ref o), (1, va_rf p1)] := by cases p1 <;> exact hl
  refine lv_iconst (v := 0) hx hb dX7_keyOf_0 (by decide) ?_
  refine lv_istore_n (lv' := [(2, _), (0, _), (1, _)]) hx hb dX7_keyOf_1 rfl hl (by decide) (congrArg (List.cons _) ((hw_flt (fun q hq => by simp only [List.mem_cons, List.not_mem_nil, or_false] at hq; rcases hq with rfl | rfl <;> first | exact fun _ => rfl | exact fun _ => va_rf_cat _ | (intro h; simp at h))).trans rfl)) (fun ls hl_ => ?_)
  replace hl := hl_
  obtain ⟨n9, h⟩ := h
  exact t_X7_keyOf_2 hC hin hO n9 S 0 0 o p1 0 _ _ _ h hT (lv_sub hl [1, 2, 0] rfl)
/-! X7_findChain -/
abbrev rm_X7_findChain (mc ms : Nat) : Room := { frames := 1, cells := mc, slots := ms, locals := 24 }
def w_X7_findChain_205 (post : Int32 → cs_S → Prop) (G : Nat → Nat) (mc ms : Nat) (S : cs_S) (u v : Nat) (y0 : Int32) : Prop := u ≤ mc ∧ v ≤ ms ∧ post y0 S
section
variable {p : Program} {l : Launch} {e : Env} {s : State} {m : MethodId} {args : Array Value} {below : List Frame} {meth : Method} {c : Code} {P : hw_G} {G : Nat → Nat} {A : Nat → Prop}
set_option maxRecDepth 100000 in
set_option maxHeartbeats 4000000 in
theorem t_X7_findChain_205 {post : Int32 → cs_S → Prop} {mc ms : Nat} (hC : rf_C P RX7 p s m meth c cX7_findChain 11 (some .int)) (hin : meth.name = yX7_findChain.name) (hO : cs_O G A s s.heap) (S : cs_S) (u v : Nat) (y0 : Int32) (H : Heap) (locs : List Loc) (ls : Array Slot) (h : w_X7_findChain_205 post G mc ms S u v y0) (hT : cs_T P s A S H locs) (hl : lv_has ls 11 []) : W p l e (rm_X7_findChain mc ms) s m args below meth c H locs u v (MQ below (cs_Qi P A post) args s mc ms A) (F0 m 205 ls [.int y0]) := by
  obtain ⟨hx, hb, hml, hown, hK, -, -⟩ := id hC
  obtain ⟨hu, hv, h⟩ := h
  exact cs_iret hC hT h dX7_findChain_205 hu hv
end
def w_X7_findChain_191 (post : Int32 → cs_S → Prop) (G : Nat → Nat) (mc ms : Nat) (S : cs_S) (u v : Nat) (x8 : Option Nat) (x9 : Int32) : Prop := u ≤ mc ∧ v ≤ ms ∧ (x9 = 0 → w_X7_findChain_205 post G mc ms S u v ((-1))) ∧ (¬ x9 = 0 → ∃ b23, x8 = some b23 ∧ cs_k S b23 = 5 ∧ w_X7_findChain_205 post G mc ms S u v (cs_i S 405 b23))
section
variable {p : Program} {l : Launch} {e : Env} {s : State} {m : MethodId} {args : Array Value} {below : List Frame} {meth : Method} {c : Code} {P : hw_G} {G : Nat → Nat} {A : Nat → Prop}
set_option maxRecDepth 100000 in
set_option maxHeartbeats 4000000 in
theorem t_X7_findChain_191 {post : Int32 → cs_S → Prop} {mc ms : Nat} (hC : rf_C P RX7 p s m meth c cX7_findChain 11 (some .int)) (hin : meth.name = yX7_findChain.name) (hO : cs_O G A s s.heap) (S : cs_S) (u v : Nat) (x8 : Option Nat) (x9 : Int32) (H : Heap) (locs : List Loc) (ls : Array Slot) (h : w_X7_findChain_191 post G mc ms S u v x8 x9) (hT : cs_T P s A S H locs) (hl : lv_has ls 11 [(8, va_rf x8), (9, .int x9)]) : W p l e (rm_X7_findChain mc ms) s m args below meth c H locs u v (MQ below (cs_Qi P A post) args s mc ms A) (F0 m 191 ls []) := by
  obtain ⟨hx, hb, hml, hown, hK, -, -⟩ := id hC
  obtain ⟨hu, hv, h⟩ := h
  refine lv_iload hx hb dX7_findChain_191 (lv_at hl 1 rfl) ?_
  refine lv_if_eq (tgt := 204) hx hb dX7_findChain_193 (by decide) (fun hc => ?_) (fun hc => ?_)
  · replace h := h.1 hc
    refine lv_iconst (v := (-1)) hx hb dX7_findChain_204 (by decide) ?_
    exact t_X7_findChain_205 hC hin hO S u v ((-1)) _ _ _ h hT (lv_sub hl [] rfl)
  · replace h := h.2 hc
    refine hw_aload (x := x8) hx hb dX7_findChain_196 (lv_at hl 0 rfl) ?_
    obtain ⟨b23, rfl, h⟩ := h
    obtain ⟨hk24_, h⟩ := h
    refine cs_get hx hb hK hT hown 4 hk24_ (by decide) rfl 5 (by decide) kfX7_150 (v := .int (cs_i S 405 b23)) rfl dX7_findChain_198 ?_
    refine lv_goto (tgt := 205) hx hb dX7_findChain_201 (by decide) ?_
    exact t_X7_findChain_205 hC hin hO S u v (cs_i S 405 b23) _ _ _ h hT (lv_sub hl [] rfl)
end
def w_X7_findChain_181 (post : Int32 → cs_S → Prop) (G : Nat → Nat) (mc ms : Nat) (S : cs_S) (u v : Nat) (x2 : Option Nat) (x6 : Option Nat) (x7 : Int32) (x8 : Option Nat) (x9 : Int32) : Prop := u ≤ mc ∧ v ≤ ms ∧ (x7 = 0 → w_X7_findChain_191 post G mc ms S u v x8 x9) ∧ (¬ x7 = 0 → ∃ b25, x6 = some b25 ∧ cs_k S b25 = 23 ∧ vp_in 0 (cs_n S b25) ∧ (∀ b, x2 = some b → cs_k S b = 5) ∧ ∀ S27, S27 = cs_uar S b25 (0 : Int32).toNatClampNeg x2 → w_X7_findChain_191 post G mc ms S27 u v x8 x9)
section
variable {p : Program} {l : Launch} {e : Env} {s : State} {m : MethodId} {args : Array Value} {below : List Frame} {meth : Method} {c : Code} {P : hw_G} {G : Nat → Nat} {A : Nat → Prop}
set_option maxRecDepth 100000 in
set_option maxHeartbeats 4000000 in
theorem t_X7_findChain_181 {post : Int32 → cs_S → Prop} {mc ms : Nat} (hC : rf_C P RX7 p s m meth c cX7_findChain 11 (some .int)) (hin : meth.name = yX7_findChain.name) (hO : cs_O G A s s.heap) (S : cs_S) (u v : Nat) (x2 : Option Nat) (x6 : Option Nat) (x7 : Int32) (x8 : Option Nat) (x9 : Int32) (H : Heap) (locs : List Loc) (ls : Array Slot) (h : w_X7_findChain_181 post G mc ms S u v x2 x6 x7 x8 x9) (hT : cs_T P s A S H locs) (hl : lv_has ls 11 [(2, va_rf x2), (6, va_rf x6), (7, .int x7), (8, va_rf x8), (9, .int x9)]) : W p l e (rm_X7_findChain mc ms) s m args below meth c H locs u v (MQ below (cs_Qi P A post) args s mc ms A) (F0 m 181 ls []) := by
  obtain ⟨hx, hb, hml, hown, hK, -, -⟩ := id hC
  obtain ⟨hu, hv, h⟩ := h
  refine lv_iload hx hb dX7_findChain_181 (lv_at hl 2 rfl) ?_
  refine lv_if_eq (tgt := 191) hx hb dX7_findChain_183 (by decide) (fun hc => ?_) (fun hc => ?_)
  · replace h := h.1 hc
    exact t_X7_findChain_191 hC hin hO S u v x8 x9 _ _ _ h hT (lv_sub hl [3, 4] rfl)
  · replace h := h.2 hc
    refine hw_aload (x := x6) hx hb dX7_findChain_186 (lv_at hl 1 rfl) ?_
    refine lv_iconst (v := 0) hx hb dX7_findChain_188 (by decide) ?_
    refine hw_aload_n (x := x2) hx hb dX7_findChain_189 rfl (lv_at hl 0 rfl) ?_
    obtain ⟨b25, rfl, h⟩ := h
    obtain ⟨hk26_, h⟩ := h
    obtain ⟨hi, h⟩ := h
    obtain ⟨he, h⟩ := h
    refine cs_aast (x := x2) hx hb hK hT 23 hk26_ (by decide) (ci := 4) rfl (by decide) rfl (by decide) hi he dX7_findChain_190 (fun H locs hT_ => ?_)
    replace hT := hT_
    obtain ⟨S27, eS27⟩ : ∃ z, z = cs_uar S b25 (0 : Int32).toNatClampNeg x2 := ⟨_, rfl⟩
    rw [← eS27] at hT
    replace h := h S27 eS27
    exact t_X7_findChain_191 hC hin hO S27 u v x8 x9 _ _ _ h hT (lv_sub hl [3, 4] rfl)
end
def w_X7_findChain_161 (post : Int32 → cs_S → Prop) (G : Nat → Nat) (mc ms : Nat) : Nat → cs_S → Nat → Nat → Option Nat → Option Nat → Int32 → Option Nat → Int32 → Int32 → Prop
  | 0, _, _, _, _, _, _, _, _, _ => False
  | n + 1, S, u, v, x2, x6, x7, x8, x9, x10 => u ≤ mc ∧ v ≤ ms ∧ ∃ b28, x6 = some b28 ∧ cs_k S b28 = 23 ∧ ((Int32.ofNat (cs_n S b28)) ≤ x10 → w_X7_findChain_181 post G mc ms S u v x2 (some b28) x7 x8 x9) ∧ (¬ (Int32.ofNat (cs_n S b28)) ≤ x10 → vp_in x10 (cs_n S b28) ∧ (∀ b, none = some b → cs_k S b = 5) ∧ ∀ S30, S30 = cs_uar S b28 x10.toNatClampNeg none → w_X7_findChain_161 post G mc ms n S30 u v x2 (some b28) x7 x8 x9 (x10 + 1))
section
variable {p : Program} {l : Launch} {e : Env} {s : State} {m : MethodId} {args : Array Value} {below : List Frame} {meth : Method} {c : Code} {P : hw_G} {G : Nat → Nat} {A : Nat → Prop}
set_option maxRecDepth 100000 in
set_option maxHeartbeats 4000000 in
theorem t_X7_findChain_161 {post : Int32 → cs_S → Prop} {mc ms : Nat} (hC : rf_C P RX7 p s m meth c cX7_findChain 11 (some .int)) (hin : meth.name = yX7_findChain.name) (hO : cs_O G A s s.heap) : ∀ (n : Nat) (S : cs_S) (u v : Nat) (x2 : Option Nat) (x6 : Option Nat) (x7 : Int32) (x8 : Option Nat) (x9 : Int32) (x10 : Int32) (H : Heap) (locs : List Loc) (ls : Array Slot), w_X7_findChain_161 post G mc ms n S u v x2 x6 x7 x8 x9 x10 → cs_T P s A S H locs → lv_has ls 11 [(2, va_rf x2), (6, va_rf x6), (7, .int x7), (8, va_rf x8), (9, .int x9), (10, .int x10)] → W p l e (rm_X7_findChain mc ms) s m args below meth c H locs u v (MQ below (cs_Qi P A post) args s mc ms A) (F0 m 161 ls []) := by
  obtain ⟨hx, hb, hml, hown, hK, -, -⟩ := id hC
  intro n
  induction n with
  | zero => intro S u v x2 x6 x7 x8 x9 x10 H locs ls h; exact False.elim h
  | succ n ih =>
    intro S u v x2 x6 x7 x8 x9 x10 H locs ls h hT hl
    obtain ⟨hu, hv, h⟩ := h
    refine lv_iload hx hb dX7_findChain_161 (lv_at hl 5 rfl) ?_
    refine hw_aload (x := x6) hx hb dX7_findChain_163 (lv_at hl 1 rfl) ?_
    obtain ⟨b28, rfl, h⟩ := h
    obtain ⟨hk29_, h⟩ := h
    refine cs_alen hx hb hK hT 23 hk29_ (by decide) (by decide) dX7_findChain_165 ?_
    refine lv_icmp_ge (tgt := 181) hx hb dX7_findChain_166 (by decide) (fun hc => ?_) (fun hc => ?_)
    · replace h := h.1 hc
      exact t_X7_findChain_181 hC hin hO S u v x2 (some b28) x7 x8 x9 _ _ _ h hT (lv_sub hl [0, 1, 2, 3, 4] rfl)
    · replace h := h.2 hc
      refine lv_aload (x := b28) hx hb dX7_findChain_169 (lv_at hl 1 rfl) ?_
      refine lv_iload hx hb dX7_findChain_171 (lv_at hl 5 rfl) ?_
      refine hw_null hx hb dX7_findChain_173 ?_
      obtain ⟨hi, h⟩ := h
      obtain ⟨he, h⟩ := h
      refine cs_aast (x := none) hx hb hK hT 23 hk29_ (by decide) (ci := 4) rfl (by decide) rfl (by decide) hi he dX7_findChain_174 (fun H locs hT_ => ?_)
      replace hT := hT_
      obtain ⟨S30, eS30⟩ : ∃ z, z = cs_uar S b28 x10.toNatClampNeg none := ⟨_, rfl⟩
      rw [← eS30] at hT
      replace h := h S30 eS30
      refine lv_iinc (v := x10 + 1) (lv' := [(10, _), (2, _), (6, _), (7, _), (8, _), (9, _)]) hx hb dX7_findChain_175 hl (k := 5) rfl rfl (by decide) rfl (fun ls hl_ => ?_)
      replace hl := hl_
      refine lv_goto (tgt := 161) hx hb dX7_findChain_178 (by decide) ?_
      exact ih S30 u v x2 (some b28) x7 x8 x9 (x10 + 1) _ _ _ h hT (lv_sub hl [1, 2, 3, 4, 5, 0] rfl)
end
def w_X7_findChain_151 (post : Int32 → cs_S → Prop) (G : Nat → Nat) (mc ms : Nat) (S : cs_S) (u v : Nat) (x2 : Option Nat) (x4 : Int32) (x6 : Option Nat) (x7 : Int32) (x8 : Option Nat) (y0 : Int32) : Prop := u ≤ mc ∧ v ≤ ms ∧ (x4 = 0 → w_X7_findChain_181 post G mc ms S u v x2 x6 x7 x8 y0) ∧ (¬ x4 = 0 → ∃ n9, w_X7_findChain_161 post G mc ms n9 S u v x2 x6 x7 x8 y0 0)
section
variable {p : Program} {l : Launch} {e : Env} {s : State} {m : MethodId} {args : Array Value} {below : List Frame} {meth : Method} {c : Code} {P : hw_G} {G : Nat → Nat} {A : Nat → Prop}
set_option maxRecDepth 100000 in
set_option maxHeartbeats 4000000 in
theorem t_X7_findChain_151 {post : Int32 → cs_S → Prop} {mc ms : Nat} (hC : rf_C P RX7 p s m meth c cX7_findChain 11 (some .int)) (hin : meth.name = yX7_findChain.name) (hO : cs_O G A s s.heap) (S : cs_S) (u v : Nat) (x2 : Option Nat) (x4 : Int32) (x6 : Option Nat) (x7 : Int32) (x8 : Option Nat) (y0 : Int32) (H : Heap) (locs : List Loc) (ls : Array Slot) (h : w_X7_findChain_151 post G mc ms S u v x2 x4 x6 x7 x8 y0) (hT : cs_T P s A S H locs) (hl : lv_has ls 11 [(2, va_rf x2), (4, .int x4), (6, va_rf x6), (7, .int x7), (8, va_rf x8)]) : W p l e (rm_X7_findChain mc ms) s m args below meth c H locs u v (MQ below (cs_Qi P A post) args s mc ms A) (F0 m 151 ls [.int y0]) := by
  obtain ⟨hx, hb, hml, hown, hK, -, -⟩ := id hC
  obtain ⟨hu, hv, h⟩ := h
  refine lv_istore (lv' := [(9, _), (2, _), (4, _), (6, _), (7, _), (8, _)]) hx hb dX7_findChain_151 hl (by decide) (congrArg (List.cons _) ((hw_flt (fun q hq => by simp only [List.mem_cons, List.not_mem_nil, or_false] at hq; rcases hq with rfl | rfl | rfl | rfl | rfl <;> first | exact fun _ => rfl | exact fun _ => va_rf_cat _ | (intro h; simp at h))).trans rfl)) (fun ls hl_ => ?_)
  replace hl := hl_
  refine lv_iload hx hb dX7_findChain_153 (lv_at hl 2 rfl) ?_
  refine lv_if_eq (tgt := 181) hx hb dX7_findChain_155 (by decide) (fun hc => ?_) (fun hc => ?_)
  · replace h := h.1 hc
    exact t_X7_findChain_181 hC hin hO S u v x2 x6 x7 x8 y0 _ _ _ h hT (lv_sub hl [1, 3, 4, 5, 0] rfl)
  · replace h := h.2 hc
    refine lv_iconst (v := 0) hx hb dX7_findChain_158 (by decide) ?_
    refine lv_istore (lv' := [(10, _), (9, _), (2, _), (4, _), (6, _), (7, _), (8, _)]) hx hb dX7_findChain_159 hl (by decide) rfl (fun ls hl_ => ?_)
    replace hl := hl_
    obtain ⟨n9, h⟩ := h
    exact t_X7_findChain_161 hC hin hO n9 S u v x2 x6 x7 x8 y0 0 _ _ _ h hT (lv_sub hl [2, 4, 5, 6, 1, 0] rfl)
end
def w_X7_findChain_150 (post : Int32 → cs_S → Prop) (G : Nat → Nat) (mc ms : Nat) (S : cs_S) (u v : Nat) (x2 : Option Nat) (x4 : Int32) (x6 : Option Nat) (x7 : Int32) (x8 : Option Nat) : Prop := u ≤ mc ∧ v ≤ ms ∧ w_X7_findChain_151 post G mc ms S u v x2 x4 x6 x7 x8 0
section
variable {p : Program} {l : Launch} {e : Env} {s : State} {m : MethodId} {args : Array Value} {below : List Frame} {meth : Method} {c : Code} {P : hw_G} {G : Nat → Nat} {A : Nat → Prop}
set_option maxRecDepth 100000 in
set_option maxHeartbeats 4000000 in
theorem t_X7_findChain_150 {post : Int32 → cs_S → Prop} {mc ms : Nat} (hC : rf_C P RX7 p s m meth c cX7_findChain 11 (some .int)) (hin : meth.name = yX7_findChain.name) (hO : cs_O G A s s.heap) (S : cs_S) (u v : Nat) (x2 : Option Nat) (x4 : Int32) (x6 : Option Nat) (x7 : Int32) (x8 : Option Nat) (H : Heap) (locs : List Loc) (ls : Array Slot) (h : w_X7_findChain_150 post G mc ms S u v x2 x4 x6 x7 x8) (hT : cs_T P s A S H locs) (hl : lv_has ls 11 [(2, va_rf x2), (4, .int x4), (6, va_rf x6), (7, .int x7), (8, va_rf x8)]) : W p l e (rm_X7_findChain mc ms) s m args below meth c H locs u v (MQ below (cs_Qi P A post) args s mc ms A) (F0 m 150 ls []) := by
  obtain ⟨hx, hb, hml, hown, hK, -, -⟩ := id hC
  obtain ⟨hu, hv, h⟩ := h
  refine lv_iconst (v := 0) hx hb dX7_findChain_150 (by decide) ?_
  exact t_X7_findChain_151 hC hin hO S u v x2 x4 x6 x7 x8 0 _ _ _ h hT (lv_sub hl [0, 1, 2, 3, 4] rfl)
end
def w_X7_findChain_112 (post : Int32 → cs_S → Prop) (G : Nat → Nat) (mc ms : Nat) (S : cs_S) (u v : Nat) (x0 : Nat) (x2 : Option Nat) (x3 : Int32) (x4 : Int32) (x5 : Int32) (x6 : Option Nat) (x7 : Int32) (y0 : Option Nat) : Prop := u ≤ mc ∧ v ≤ ms ∧ (¬ ((x3 >>> (x5 &&& 31)) &&& 1) = 1 → w_X7_findChain_150 post G mc ms S u v x2 x4 x6 x7 y0) ∧ (((x3 >>> (x5 &&& 31)) &&& 1) = 1 → (y0 = none → w_X7_findChain_150 post G mc ms S u v x2 x4 x6 x7 none) ∧ (∀ b31, y0 = some b31 → cs_k S b31 = 5 ∧ ∃ b33, x2 = some b33 ∧ cs_k S b33 = 5 ∧ cs_k S x0 = 9 ∧ ((cs_i S 400 b31) ≤ ((cs_i S 400 b33) - (cs_i S 810 x0)) → w_X7_findChain_150 post G mc ms S u v (some b33) x4 x6 x7 (some b31)) ∧ (¬ (cs_i S 400 b31) ≤ ((cs_i S 400 b33) - (cs_i S 810 x0)) → w_X7_findChain_151 post G mc ms S u v (some b33) x4 x6 x7 (some b31) 1)))
section
variable {p : Program} {l : Launch} {e : Env} {s : State} {m : MethodId} {args : Array Value} {below : List Frame} {meth : Method} {c : Code} {P : hw_G} {G : Nat → Nat} {A : Nat → Prop}
set_option maxRecDepth 100000 in
set_option maxHeartbeats 4000000 in
theorem t_X7_findChain_112 {post : Int32 → cs_S → Prop} {mc ms : Nat} (hC : rf_C P RX7 p s m meth c cX7_findChain 11 (some .int)) (hin : meth.name = yX7_findChain.name) (hO : cs_O G A s s.heap) (S : cs_S) (u v : Nat) (x0 : Nat) (x2 : Option Nat) (x3 : Int32) (x4 : Int32) (x5 : Int32) (x6 : Option Nat) (x7 : Int32) (y0 : Option Nat) (H : Heap) (locs : List Loc) (ls : Array Slot) (h : w_X7_findChain_112 post G mc ms S u v x0 x2 x3 x4 x5 x6 x7 y0) (hT : cs_T P s A S H locs) (hl : lv_has ls 11 [(0, .ref x0), (2, va_rf x2), (3, .int x3), (4, .int x4), (5, .int x5), (6, va_rf x6), (7, .int x7)]) : W p l e (rm_X7_findChain mc ms) s m args below meth c H locs u v (MQ below (cs_Qi P A post) args s mc ms A) (F0 m 112 ls [va_rf y0]) := by
  obtain ⟨hx, hb, hml, hown, hK, -, -⟩ := id hC
  obtain ⟨hu, hv, h⟩ := h
  refine hw_astore (lv' := [(8, _), (0, _), (2, _), (3, _), (4, _), (5, _), (6, _), (7, _)]) (x := y0) hx hb dX7_findChain_112 hl (by decide) rfl (fun ls hl_ => ?_)
  replace hl := hl_
  refine lv_iload_n hx hb dX7_findChain_114 rfl (lv_at hl 3 rfl) ?_
  refine lv_iload hx hb dX7_findChain_115 (lv_at hl 5 rfl) ?_
  refine lv_ishr hx hb dX7_findChain_117 ?_
  refine lv_iconst (v := 1) hx hb dX7_findChain_118 (by decide) ?_
  refine lv_iand hx hb dX7_findChain_119 ?_
  refine lv_iconst (v := 1) hx hb dX7_findChain_120 (by decide) ?_
  refine lv_icmp_ne (tgt := 150) hx hb dX7_findChain_121 (by decide) (fun hc => ?_) (fun hc => ?_)
  · replace h := h.1 hc
    exact t_X7_findChain_150 hC hin hO S u v x2 x4 x6 x7 y0 _ _ _ h hT (lv_sub hl [2, 4, 6, 7, 0] rfl)
  · replace h := h.2 hc
    refine hw_aload (x := y0) hx hb dX7_findChain_124 (lv_at hl 0 rfl) ?_
    refine hw_ifnull (tgt := 150) hx hb dX7_findChain_126 (by decide) (fun hc => ?_) (fun b31 hc => ?_)
    · replace h := h.1 hc
      subst hc
      exact t_X7_findChain_150 hC hin hO S u v x2 x4 x6 x7 none _ _ _ h hT (lv_sub hl [2, 4, 6, 7, 0] rfl)
    · replace h := h.2 b31 hc
      subst hc
      refine lv_aload (x := b31) hx hb dX7_findChain_129 (lv_at hl 0 rfl) ?_
      obtain ⟨hk32_, h⟩ := h
      refine cs_get hx hb hK hT hown 4 hk32_ (by decide) rfl 0 (by decide) kfX7_92 (v := .int (cs_i S 400 b31)) rfl dX7_findChain_131 ?_
      refine hw_aload_n (x := x2) hx hb dX7_findChain_134 rfl (lv_at hl 2 rfl) ?_
      obtain ⟨b33, rfl, h⟩ := h
      obtain ⟨hk34_, h⟩ := h
      refine cs_get hx hb hK hT hown 4 hk34_ (by decide) rfl 0 (by decide) kfX7_92 (v := .int (cs_i S 400 b33)) rfl dX7_findChain_135 ?_
      refine lv_aload_n (x := x0) hx hb dX7_findChain_138 rfl (lv_at hl 1 rfl) ?_
      obtain ⟨hk35_, h⟩ := h
      refine cs_get hx hb hK hT hown 8 hk35_ (by decide) rfl 10 (by decide) kfX7_147 (v := .int (cs_i S 810 x0)) rfl dX7_findChain_139 ?_
      refine lv_isub hx hb dX7_findChain_142 ?_
      refine lv_icmp_le (tgt := 150) hx hb dX7_findChain_143 (by decide) (fun hc => ?_) (fun hc => ?_)
      · replace h := h.1 hc
        exact t_X7_findChain_150 hC hin hO S u v (some b33) x4 x6 x7 (some b31) _ _ _ h hT (lv_sub hl [2, 4, 6, 7, 0] rfl)
      · replace h := h.2 hc
        refine lv_iconst (v := 1) hx hb dX7_findChain_146 (by decide) ?_
        refine lv_goto (tgt := 151) hx hb dX7_findChain_147 (by decide) ?_
        exact t_X7_findChain_151 hC hin hO S u v (some b33) x4 x6 x7 (some b31) 1 _ _ _ h hT (lv_sub hl [2, 4, 6, 7, 0] rfl)
end
def w_X7_findChain_96 (post : Int32 → cs_S → Prop) (G : Nat → Nat) (mc ms : Nat) (S : cs_S) (u v : Nat) (x0 : Nat) (x2 : Option Nat) (x3 : Int32) (x4 : Int32) (x5 : Int32) (x6 : Option Nat) (y0 : Int32) : Prop := u ≤ mc ∧ v ≤ ms ∧ (¬ x5 = 0 → ∃ b36, x6 = some b36 ∧ cs_k S b36 = 23 ∧ vp_in x5 (cs_n S b36) ∧ ∀ r38, r38 = cs_ar S b36 x5.toNatClampNeg → w_X7_findChain_112 post G mc ms S u v x0 x2 x3 x4 x5 (some b36) y0 r38) ∧ (x5 = 0 → w_X7_findChain_112 post G mc ms S u v x0 x2 x3 x4 x5 x6 y0 x2)
section
variable {p : Program} {l : Launch} {e : Env} {s : State} {m : MethodId} {args : Array Value} {below : List Frame} {meth : Method} {c : Code} {P : hw_G} {G : Nat → Nat} {A : Nat → Prop}
set_option maxRecDepth 100000 in
set_option maxHeartbeats 4000000 in
theorem t_X7_findChain_96 {post : Int32 → cs_S → Prop} {mc ms : Nat} (hC : rf_C P RX7 p s m meth c cX7_findChain 11 (some .int)) (hin : meth.name = yX7_findChain.name) (hO : cs_O G A s s.heap) (S : cs_S) (u v : Nat) (x0 : Nat) (x2 : Option Nat) (x3 : Int32) (x4 : Int32) (x5 : Int32) (x6 : Option Nat) (y0 : Int32) (H : Heap) (locs : List Loc) (ls : Array Slot) (h : w_X7_findChain_96 post G mc ms S u v x0 x2 x3 x4 x5 x6 y0) (hT : cs_T P s A S H locs) (hl : lv_has ls 11 [(0, .ref x0), (2, va_rf x2), (3, .int x3), (4, .int x4), (5, .int x5), (6, va_rf x6)]) : W p l e (rm_X7_findChain mc ms) s m args below meth c H locs u v (MQ below (cs_Qi P A post) args s mc ms A) (F0 m 96 ls [.int y0]) := by
  obtain ⟨hx, hb, hml, hown, hK, -, -⟩ := id hC
  obtain ⟨hu, hv, h⟩ := h
  refine lv_istore (lv' := [(7, _), (0, _), (2, _), (3, _), (4, _), (5, _), (6, _)]) hx hb dX7_findChain_96 hl (by decide) (congrArg (List.cons _) ((hw_flt (fun q hq => by simp only [List.mem_cons, List.not_mem_nil, or_false] at hq; rcases hq with rfl | rfl | rfl | rfl | rfl | rfl <;> first | exact fun _ => rfl | exact fun _ => va_rf_cat _ | (intro h; simp at h))).trans rfl)) (fun ls hl_ => ?_)
  replace hl := hl_
  refine lv_iload hx hb dX7_findChain_98 (lv_at hl 5 rfl) ?_
  refine lv_if_ne (tgt := 107) hx hb dX7_findChain_100 (by decide) (fun hc => ?_) (fun hc => ?_)
  · replace h := h.1 hc
    refine hw_aload (x := x6) hx hb dX7_findChain_107 (lv_at hl 6 rfl) ?_
    refine lv_iload hx hb dX7_findChain_109 (lv_at hl 5 rfl) ?_
    obtain ⟨b36, rfl, h⟩ := h
    obtain ⟨hk37_, h⟩ := h
    obtain ⟨hi, h⟩ := h
    refine cs_aald hx hb hK hT 23 hk37_ (by decide) rfl (by decide) hi dX7_findChain_111 ?_
    refine hw_topr (fun r38 er38 => ?_)
    replace h := h r38 er38
    exact t_X7_findChain_112 hC hin hO S u v x0 x2 x3 x4 x5 (some b36) y0 r38 _ _ _ h hT (lv_sub hl [1, 2, 3, 4, 5, 6, 0] rfl)
  · replace h := h.2 hc
    refine hw_aload_n (x := x2) hx hb dX7_findChain_103 rfl (lv_at hl 2 rfl) ?_
    refine lv_goto (tgt := 112) hx hb dX7_findChain_104 (by decide) ?_
    exact t_X7_findChain_112 hC hin hO S u v x0 x2 x3 x4 x5 x6 y0 x2 _ _ _ h hT (lv_sub hl [1, 2, 3, 4, 5, 6, 0] rfl)
end
def w_X7_findChain_78 (post : Int32 → cs_S → Prop) (G : Nat → Nat) (mc ms : Nat) (k51 : cs_S → Nat → Nat → Nat → Option Nat → Int32 → Int32 → Int32 → Option Nat → Int32 → Prop) (S : cs_S) (u v : Nat) (x0 : Nat) (x2 : Option Nat) (x3 : Int32) (x4 : Int32) (x5 : Int32) (x6 : Option Nat) (x7 : Int32) : Prop := u ≤ mc ∧ v ≤ ms ∧ k51 S u v x0 x2 x3 x4 x5 x6 (x7 + (-1))
section
variable {p : Program} {l : Launch} {e : Env} {s : State} {m : MethodId} {args : Array Value} {below : List Frame} {meth : Method} {c : Code} {P : hw_G} {G : Nat → Nat} {A : Nat → Prop}
set_option maxRecDepth 100000 in
set_option maxHeartbeats 4000000 in
theorem t_X7_findChain_78 {post : Int32 → cs_S → Prop} {mc ms : Nat} {k51 : cs_S → Nat → Nat → Nat → Option Nat → Int32 → Int32 → Int32 → Option Nat → Int32 → Prop} (hC : rf_C P RX7 p s m meth c cX7_findChain 11 (some .int)) (hin : meth.name = yX7_findChain.name) (hO : cs_O G A s s.heap) (hk51 : ∀ (S : cs_S) (u v : Nat) (x0 : Nat) (x2 : Option Nat) (x3 : Int32) (x4 : Int32) (x5 : Int32) (x6 : Option Nat) (x7 : Int32) (H : Heap) (locs : List Loc) (ls : Array Slot), k51 S u v x0 x2 x3 x4 x5 x6 x7 → cs_T P s A S H locs → lv_has ls 11 [(0, .ref x0), (2, va_rf x2), (3, .int x3), (4, .int x4), (5, .int x5), (6, va_rf x6), (7, .int x7)] → W p l e (rm_X7_findChain mc ms) s m args below meth c H locs u v (MQ below (cs_Qi P A post) args s mc ms A) (F0 m 51 ls [])) (S : cs_S) (u v : Nat) (x0 : Nat) (x2 : Option Nat) (x3 : Int32) (x4 : Int32) (x5 : Int32) (x6 : Option Nat) (x7 : Int32) (H : Heap) (locs : List Loc) (ls : Array Slot) (h : w_X7_findChain_78 post G mc ms k51 S u v x0 x2 x3 x4 x5 x6 x7) (hT : cs_T P s A S H locs) (hl : lv_has ls 11 [(0, .ref x0), (2, va_rf x2), (3, .int x3), (4, .int x4), (5, .int x5), (6, va_rf x6), (7, .int x7)]) : W p l e (rm_X7_findChain mc ms) s m args below meth c H locs u v (MQ below (cs_Qi P A post) args s mc ms A) (F0 m 78 ls []) := by
  obtain ⟨hx, hb, hml, hown, hK, -, -⟩ := id hC
  obtain ⟨hu, hv, h⟩ := h
  refine lv_iinc (v := x7 + (-1)) (lv' := [(7, _), (0, _), (2, _), (3, _), (4, _), (5, _), (6, _)]) hx hb dX7_findChain_78 hl (k := 6) rfl rfl (by decide) (congrArg (List.cons _) ((hw_flt (fun q hq => by simp only [List.mem_cons, List.not_mem_nil, or_false] at hq; rcases hq with rfl | rfl | rfl | rfl | rfl | rfl | rfl <;> first | exact fun _ => rfl | exact fun _ => va_rf_cat _ | (intro h; simp at h))).trans rfl)) (fun ls hl_ => ?_)
  replace hl := hl_
  refine lv_goto (tgt := 51) hx hb dX7_findChain_81 (by decide) ?_
  exact hk51 S u v x0 x2 x3 x4 x5 x6 (x7 + (-1)) _ _ _ h hT (lv_sub hl [1, 2, 3, 4, 5, 6, 0] rfl)
end
def w_X7_findChain_51 (post : Int32 → cs_S → Prop) (G : Nat → Nat) (mc ms : Nat) : Nat → cs_S → Nat → Nat → Nat → Option Nat → Int32 → Int32 → Int32 → Option Nat → Int32 → Prop
  | 0, _, _, _, _, _, _, _, _, _, _ => False
  | n + 1, S, u, v, x0, x2, x3, x4, x5, x6, x7 => u ≤ mc ∧ v ≤ ms ∧ (x7 ≤ 0 → (¬ (x3 &&& 1) = 1 → w_X7_findChain_96 post G mc ms S u v x0 x2 x3 x4 x5 x6 0) ∧ ((x3 &&& 1) = 1 → w_X7_findChain_96 post G mc ms S u v x0 x2 x3 x4 x5 x6 1)) ∧ (¬ x7 ≤ 0 → (¬ ((x3 >>> (x7 &&& 31)) &&& 1) = 1 → w_X7_findChain_78 post G mc ms (w_X7_findChain_51 post G mc ms n) S u v x0 x2 x3 x4 x5 x6 x7) ∧ (((x3 >>> (x7 &&& 31)) &&& 1) = 1 → ∃ b39, x6 = some b39 ∧ cs_k S b39 = 23 ∧ vp_in (x7 - 1) (cs_n S b39) ∧ ∀ r41, r41 = cs_ar S b39 (x7 - 1).toNatClampNeg → vp_in x7 (cs_n S b39) ∧ (∀ b, r41 = some b → cs_k S b = 5) ∧ ∀ S42, S42 = cs_uar S b39 x7.toNatClampNeg r41 → w_X7_findChain_78 post G mc ms (w_X7_findChain_51 post G mc ms n) S42 u v x0 x2 x3 x4 x5 (some b39) x7))
section
variable {p : Program} {l : Launch} {e : Env} {s : State} {m : MethodId} {args : Array Value} {below : List Frame} {meth : Method} {c : Code} {P : hw_G} {G : Nat → Nat} {A : Nat → Prop}
set_option maxRecDepth 100000 in
set_option maxHeartbeats 4000000 in
theorem t_X7_findChain_51 {post : Int32 → cs_S → Prop} {mc ms : Nat} (hC : rf_C P RX7 p s m meth c cX7_findChain 11 (some .int)) (hin : meth.name = yX7_findChain.name) (hO : cs_O G A s s.heap) : ∀ (n : Nat) (S : cs_S) (u v : Nat) (x0 : Nat) (x2 : Option Nat) (x3 : Int32) (x4 : Int32) (x5 : Int32) (x6 : Option Nat) (x7 : Int32) (H : Heap) (locs : List Loc) (ls : Array Slot), w_X7_findChain_51 post G mc ms n S u v x0 x2 x3 x4 x5 x6 x7 → cs_T P s A S H locs → lv_has ls 11 [(0, .ref x0), (2, va_rf x2), (3, .int x3), (4, .int x4), (5, .int x5), (6, va_rf x6), (7, .int x7)] → W p l e (rm_X7_findChain mc ms) s m args below meth c H locs u v (MQ below (cs_Qi P A post) args s mc ms A) (F0 m 51 ls []) := by
  obtain ⟨hx, hb, hml, hown, hK, -, -⟩ := id hC
  intro n
  induction n with
  | zero => intro S u v x0 x2 x3 x4 x5 x6 x7 H locs ls h; exact False.elim h
  | succ n ih =>
    intro S u v x0 x2 x3 x4 x5 x6 x7 H locs ls h hT hl
    obtain ⟨hu, hv, h⟩ := h
    refine lv_iload hx hb dX7_findChain_51 (lv_at hl 6 rfl) ?_
    refine lv_if_le (tgt := 84) hx hb dX7_findChain_53 (by decide) (fun hc => ?_) (fun hc => ?_)
    · replace h := h.1 hc
      refine lv_iload_n hx hb dX7_findChain_84 rfl (lv_at hl 2 rfl) ?_
      refine lv_iconst (v := 1) hx hb dX7_findChain_85 (by decide) ?_
      refine lv_iand hx hb dX7_findChain_86 ?_
      refine lv_iconst (v := 1) hx hb dX7_findChain_87 (by decide) ?_
      refine lv_icmp_ne (tgt := 95) hx hb dX7_findChain_88 (by decide) (fun hc => ?_) (fun hc => ?_)
      · replace h := h.1 hc
        refine lv_iconst (v := 0) hx hb dX7_findChain_95 (by decide) ?_
        exact t_X7_findChain_96 hC hin hO S u v x0 x2 x3 x4 x5 x6 0 _ _ _ h hT (lv_sub hl [0, 1, 2, 3, 4, 5] rfl)
      · replace h := h.2 hc
        refine lv_iconst (v := 1) hx hb dX7_findChain_91 (by decide) ?_
        refine lv_goto (tgt := 96) hx hb dX7_findChain_92 (by decide) ?_
        exact t_X7_findChain_96 hC hin hO S u v x0 x2 x3 x4 x5 x6 1 _ _ _ h hT (lv_sub hl [0, 1, 2, 3, 4, 5] rfl)
    · replace h := h.2 hc
      refine lv_iload_n hx hb dX7_findChain_56 rfl (lv_at hl 2 rfl) ?_
      refine lv_iload hx hb dX7_findChain_57 (lv_at hl 6 rfl) ?_
      refine lv_ishr hx hb dX7_findChain_59 ?_
      refine lv_iconst (v := 1) hx hb dX7_findChain_60 (by decide) ?_
      refine lv_iand hx hb dX7_findChain_61 ?_
      refine lv_iconst (v := 1) hx hb dX7_findChain_62 (by decide) ?_
      refine lv_icmp_ne (tgt := 78) hx hb dX7_findChain_63 (by decide) (fun hc => ?_) (fun hc => ?_)
      · replace h := h.1 hc
        exact t_X7_findChain_78 hC hin hO ih S u v x0 x2 x3 x4 x5 x6 x7 _ _ _ h hT (lv_sub hl [0, 1, 2, 3, 4, 5, 6] rfl)
      · replace h := h.2 hc
        refine hw_aload (x := x6) hx hb dX7_findChain_66 (lv_at hl 5 rfl) ?_
        refine lv_iload hx hb dX7_findChain_68 (lv_at hl 6 rfl) ?_
        refine hw_aload (x := x6) hx hb dX7_findChain_70 (lv_at hl 5 rfl) ?_
        refine lv_iload hx hb dX7_findChain_72 (lv_at hl 6 rfl) ?_
        refine lv_iconst (v := 1) hx hb dX7_findChain_74 (by decide) ?_
        refine lv_isub hx hb dX7_findChain_75 ?_
        obtain ⟨b39, rfl, h⟩ := h
        obtain ⟨hk40_, h⟩ := h
        obtain ⟨hi, h⟩ := h
        refine cs_aald hx hb hK hT 23 hk40_ (by decide) rfl (by decide) hi dX7_findChain_76 ?_
        refine hw_topr (fun r41 er41 => ?_)
        replace h := h r41 er41
        obtain ⟨hi, h⟩ := h
        obtain ⟨he, h⟩ := h
        refine cs_aast (x := r41) hx hb hK hT 23 hk40_ (by decide) (ci := 4) rfl (by decide) rfl (by decide) hi he dX7_findChain_77 (fun H locs hT_ => ?_)
        replace hT := hT_
        obtain ⟨S42, eS42⟩ : ∃ z, z = cs_uar S b39 x7.toNatClampNeg r41 := ⟨_, rfl⟩
        rw [← eS42] at hT
        replace h := h S42 eS42
        exact t_X7_findChain_78 hC hin hO ih S42 u v x0 x2 x3 x4 x5 (some b39) x7 _ _ _ h hT (lv_sub hl [0, 1, 2, 3, 4, 5, 6] rfl)
end
def w_X7_findChain_33 (post : Int32 → cs_S → Prop) (G : Nat → Nat) (mc ms : Nat) (S : cs_S) (u v : Nat) (x0 : Nat) (x1 : Option Nat) (x2 : Option Nat) (x3 : Int32) (x4 : Int32) (x5 : Int32) : Prop := u ≤ mc ∧ v ≤ ms ∧ ∃ b43, x1 = some b43 ∧ cs_k S b43 = 6 ∧ ∀ r45, r45 = cs_r S 512 b43 → ∃ b46, r45 = some b46 ∧ cs_k S b46 = 23 ∧ ∃ n9, w_X7_findChain_51 post G mc ms n9 S u v x0 x2 x3 x4 x5 (some b46) (if (Int32.ofNat (cs_n S b46)) - 1 < x5 then (Int32.ofNat (cs_n S b46)) - 1 else x5)
section
variable {p : Program} {l : Launch} {e : Env} {s : State} {m : MethodId} {args : Array Value} {below : List Frame} {meth : Method} {c : Code} {P : hw_G} {G : Nat → Nat} {A : Nat → Prop}
set_option maxRecDepth 100000 in
set_option maxHeartbeats 4000000 in
theorem t_X7_findChain_33 {post : Int32 → cs_S → Prop} {mc ms : Nat} (hC : rf_C P RX7 p s m meth c cX7_findChain 11 (some .int)) (hin : meth.name = yX7_findChain.name) (hO : cs_O G A s s.heap) (S : cs_S) (u v : Nat) (x0 : Nat) (x1 : Option Nat) (x2 : Option Nat) (x3 : Int32) (x4 : Int32) (x5 : Int32) (H : Heap) (locs : List Loc) (ls : Array Slot) (h : w_X7_findChain_33 post G mc ms S u v x0 x1 x2 x3 x4 x5) (hT : cs_T P s A S H locs) (hl : lv_has ls 11 [(0, .ref x0), (1, va_rf x1), (2, va_rf x2), (3, .int x3), (4, .int x4), (5, .int x5)]) : W p l e (rm_X7_findChain mc ms) s m args below meth c H locs u v (MQ below (cs_Qi P A post) args s mc ms A) (F0 m 33 ls []) := by
  obtain ⟨hx, hb, hml, hown, hK, -, -⟩ := id hC
  obtain ⟨hu, hv, h⟩ := h
  refine hw_aload_n (x := x1) hx hb dX7_findChain_33 rfl (lv_at hl 1 rfl) ?_
  obtain ⟨b43, rfl, h⟩ := h
  obtain ⟨hk44_, h⟩ := h
  refine cs_get hx hb hK hT hown 5 hk44_ (by decide) rfl 12 (by decide) kfX7_187 (v := va_rf (cs_r S 512 b43)) rfl dX7_findChain_34 ?_
  refine hw_topr (fun r45 er45 => ?_)
  replace h := h r45 er45
  refine hw_astore (lv' := [(6, _), (0, _), (1, _), (2, _), (3, _), (4, _), (5, _)]) (x := r45) hx hb dX7_findChain_37 hl (by decide) rfl (fun ls hl_ => ?_)
  replace hl := hl_
  refine lv_iload hx hb dX7_findChain_39 (lv_at hl 6 rfl) ?_
  refine hw_aload (x := r45) hx hb dX7_findChain_41 (lv_at hl 0 rfl) ?_
  obtain ⟨b46, rfl, h⟩ := h
  obtain ⟨hk47_, h⟩ := h
  refine cs_alen hx hb hK hT 23 hk47_ (by decide) (by decide) dX7_findChain_43 ?_
  refine lv_iconst (v := 1) hx hb dX7_findChain_44 (by decide) ?_
  refine lv_isub hx hb dX7_findChain_45 ?_
  refine va_mmin hx hb (hml.trans hl.1.symm) hown (hK.word klX7_111m rfl) (hK.word ki_mmin rfl) (hK.word kn_J9 rfl) (hK.word kc_mmin rfl) (Nat.le_of_ble_eq_true rfl) (hw_catN (Nat.le_of_ble_eq_true rfl) (Nat.le_of_ble_eq_true rfl)) hu hv dX7_findChain_46 ?_
  refine lv_istore (lv' := [(7, _), (6, _), (0, _), (1, _), (2, _), (3, _), (4, _), (5, _)]) hx hb dX7_findChain_49 hl (by decide) rfl (fun ls hl_ => ?_)
  replace hl := hl_
  obtain ⟨n9, h⟩ := h
  exact t_X7_findChain_51 hC hin hO n9 S u v x0 x2 x3 x4 x5 (some b46) (if (Int32.ofNat (cs_n S b46)) - 1 < x5 then (Int32.ofNat (cs_n S b46)) - 1 else x5) _ _ _ h hT (lv_sub hl [2, 4, 5, 6, 7, 1, 0] rfl)
end
def wp_X7_findChain (post : Int32 → cs_S → Prop) (G : Nat → Nat) (mc ms : Nat) (S : cs_S) (o : Nat) (p1 : Option Nat) (p2 : Option Nat) (p3 : Int32) (p4 : Int32) : Prop := cs_k S o = 9 ∧ (0 ≤ ((cs_i S 806 o) - 1) → ∃ b49, p1 = some b49 ∧ cs_k S b49 = 6 ∧ ∀ r51, r51 = cs_r S 512 b49 → (r51 = none → ¬ (cs_i S 806 o) < 0 ∧ (cs_i S 806 o).toNatClampNeg * 4 ≤ 536870912 ∧ 0 + 1 ≤ mc ∧ 0 + (cs_i S 806 o).toNatClampNeg ≤ ms ∧ ∀ q53, cs_k S q53 = 0 → ∀ S54, S54 = cs_newA S q53 23 (cs_i S 806 o).toNatClampNeg → cs_k S54 b49 = 6 ∧ ∀ S56, S56 = cs_ur S54 512 b49 (some q53) → w_X7_findChain_33 post G mc ms S56 (0 + 1) (0 + (cs_i S 806 o).toNatClampNeg) o (some b49) p2 p3 p4 ((cs_i S 806 o) - 1)) ∧ (∀ b52, r51 = some b52 → w_X7_findChain_33 post G mc ms S 0 0 o (some b49) p2 p3 p4 ((cs_i S 806 o) - 1))) ∧ (¬ 0 ≤ ((cs_i S 806 o) - 1) → post ((-1)) S)
set_option maxRecDepth 100000 in
set_option maxHeartbeats 4000000 in
theorem c_X7_findChain {l : Launch} {P : hw_G} {G : Nat → Nat} {S : cs_S} {sz : Nat} {mc ms : Nat} {o : Nat} {p1 : Option Nat} {p2 : Option Nat} {p3 : Int32} {p4 : Int32} {post : Int32 → cs_S → Prop} (h : wp_X7_findChain post G mc ms S o p1 p2 p3 p4) : Met l yX7_findChain [Cond.code yX7_findChain cX7_findChain 11 (some .int)] (rm_X7_findChain mc ms) (cs_Pc P G S sz [.ref o, va_rf p1, va_rf p2, .int p3, .int p4]) (cs_Qi P (cs_A S sz) post) mc ms (cs_A S sz) := by
  refine cs_met (by decide) rfl (by cases p1 <;> cases p2 <;> exact Nat.le_of_ble_eq_true rfl) ?_
  intro p e s m below meth c ls hC hin hO hT hl
  obtain ⟨hx, hb, hml, hown, hK, -, -⟩ := id hC
  replace hl : lv_has ls 11 [(0, .ref o), (1, va_rf p1), (2, va_rf p2), (3, .int p3), (4, .int p4)] := by cases p1 <;> cases p2 <;> exact hl
  refine lv_aload_n (x := o) hx hb dX7_findChain_0 rfl (lv_at hl 0 rfl) ?_
  obtain ⟨hk48_, h⟩ := h
  refine cs_get hx hb hK hT hown 8 hk48_ (by decide) rfl 6 (by decide) kfX7_40 (v := .int (cs_i S 806 o)) rfl dX7_findChain_1 ?_
  refine lv_iconst (v := 1) hx hb dX7_findChain_4 (by decide) ?_
  refine lv_isub hx hb dX7_findChain_5 ?_
  refine lv_istore (lv' := [(5, _), (0, _), (1, _), (2, _), (3, _), (4, _)]) hx hb dX7_findChain_6 hl (by decide) rfl (fun ls hl_ => ?_)
  replace hl := hl_
  refine lv_iload hx hb dX7_findChain_8 (lv_at hl 0 rfl) ?_
  refine lv_if_ge (tgt := 15) hx hb dX7_findChain_10 (by decide) (fun hc => ?_) (fun hc => ?_)
  · replace h := h.1 hc
    refine hw_aload_n (x := p1) hx hb dX7_findChain_15 rfl (lv_at hl 2 rfl) ?_
    obtain ⟨b49, rfl, h⟩ := h
    obtain ⟨hk50_, h⟩ := h
    refine cs_get hx hb hK hT hown 5 hk50_ (by decide) rfl 12 (by decide) kfX7_187 (v := va_rf (cs_r S 512 b49)) rfl dX7_findChain_16 ?_
    refine hw_topr (fun r51 er51 => ?_)
    replace h := h r51 er51
    refine hw_ifnonnull (tgt := 33) hx hb dX7_findChain_19 (by decide) (fun b52 hc => ?_) (fun hc => ?_)
    · replace h := h.2 b52 hc
      subst hc
      exact t_X7_findChain_33 hC hin hO S 0 0 o (some b49) p2 p3 p4 ((cs_i S 806 o) - 1) _ _ _ h hT (lv_sub hl [1, 2, 3, 4, 5, 0] rfl)
    · replace h := h.1 hc
      subst hc
      refine lv_aload_n (x := b49) hx hb dX7_findChain_22 rfl (lv_at hl 2 rfl) ?_
      refine lv_aload_n (x := o) hx hb dX7_findChain_23 rfl (lv_at hl 1 rfl) ?_
      refine cs_get hx hb hK hT hown 8 hk48_ (by decide) rfl 6 (by decide) kfX7_40 (v := .int (cs_i S 806 o)) rfl dX7_findChain_24 ?_
      obtain ⟨hn1, hn2, hu53, hv53, h⟩ := h
      refine cs_anew hx hb hK hT hown 23 rfl kxX7_47 (by decide) (by decide) (by decide) hn1 hn2 hu53 hv53 dX7_findChain_27 (fun q53 H hq53 hT_ => ?_)
      replace h := h q53 hq53
      replace hT := hT_
      obtain ⟨S54, eS54⟩ : ∃ z, z = cs_newA S q53 23 (cs_i S 806 o).toNatClampNeg := ⟨_, rfl⟩
      rw [← eS54] at hT
      replace h := h S54 eS54
      obtain ⟨hk55_, h⟩ := h
      refine cs_putr (x := (some q53)) hx hb hK hT hown 5 hk55_ (by decide) rfl 12 (by decide) kfX7_187 rfl (tyX4_ok 12 (by decide)) rfl 512 rfl dX7_findChain_30 (fun H locs hT_ => ?_)
      replace hT := hT_
      obtain ⟨S56, eS56⟩ : ∃ z, z = cs_ur S54 512 b49 (some q53) := ⟨_, rfl⟩
      rw [← eS56] at hT
      replace h := h S56 eS56
      exact t_X7_findChain_33 hC hin hO S56 (0 + 1) (0 + (cs_i S 806 o).toNatClampNeg) o (some b49) p2 p3 p4 ((cs_i S 806 o) - 1) _ _ _ h hT (lv_sub hl [1, 2, 3, 4, 5, 0] rfl)
  · replace h := h.2 hc
    refine lv_iconst (v := (-1)) hx hb dX7_findChain_13 (by decide) ?_
    exact cs_iret hC hT h dX7_findChain_14 (Nat.zero_le _) (Nat.zero_le _)
/-! X7_append -/
abbrev rm_X7_append : Room := { frames := 0, cells := 0, slots := 0, locals := 0 }
def w_X7_append_30 (post : cs_S → Prop) (G : Nat → Nat) (S : cs_S) (x0 : Nat) (x1 : Option Nat) : Prop := cs_k S x0 = 9 ∧ ∀ S12, S12 = cs_ur S 815 x0 x1 → post S12
section
variable {p : Program} {l : Launch} {e : Env} {s : State} {m : MethodId} {args : Array Value} {below : List Frame} {meth : Method} {c : Code} {P : hw_G} {G : Nat → Nat} {A : Nat → Prop}
set_option maxRecDepth 100000 in
set_option maxHeartbeats 4000000 in
theorem t_X7_append_30 {post : cs_S → Prop} (hC : rf_C P RX7 p s m meth c cX7_append 2 none) (hin : meth.name = yX7_append.name) (hO : cs_O G A s s.heap) (S : cs_S) (x0 : Nat) (x1 : Option Nat) (H : Heap) (locs : List Loc) (ls : Array Slot) (h : w_X7_append_30 post G S x0 x1) (hT : cs_T P s A S H locs) (hl : lv_has ls 2 [(0, .ref x0), (1, va_rf x1)]) : W p l e rm_X7_append s m args below meth c H locs 0 0 (MQ below (cs_Qv P A post) args s 0 0 A) (F0 m 30 ls []) := by
  obtain ⟨hx, hb, hml, hown, hK, -, -⟩ := id hC
  refine lv_aload_n (x := x0) hx hb dX7_append_30 rfl (lv_at hl 0 rfl) ?_
  refine hw_aload_n (x := x1) hx hb dX7_append_31 rfl (lv_at hl 1 rfl) ?_
  obtain ⟨hk11_, h⟩ := h
  refine cs_putr (x := x1) hx hb hK hT hown 8 hk11_ (by decide) rfl 15 (by decide) kfX7_176 rfl (tyX7_ok 15 (by decide)) rfl 815 rfl dX7_append_32 (fun H locs hT_ => ?_)
  replace hT := hT_
  obtain ⟨S12, eS12⟩ : ∃ z, z = cs_ur S 815 x0 x1 := ⟨_, rfl⟩
  rw [← eS12] at hT
  replace h := h S12 eS12
  exact cs_vret hC hT h dX7_append_35 (Nat.le_refl _) (Nat.le_refl _)
end
def w_X7_append_14 (post : cs_S → Prop) (G : Nat → Nat) (S : cs_S) (x0 : Nat) (x1 : Option Nat) : Prop := cs_k S x0 = 9 ∧ ∀ S14, S14 = cs_ur S 814 x0 x1 → w_X7_append_30 post G S14 x0 x1
section
variable {p : Program} {l : Launch} {e : Env} {s : State} {m : MethodId} {args : Array Value} {below : List Frame} {meth : Method} {c : Code} {P : hw_G} {G : Nat → Nat} {A : Nat → Prop}
set_option maxRecDepth 100000 in
set_option maxHeartbeats 4000000 in
theorem t_X7_append_14 {post : cs_S → Prop} (hC : rf_C P RX7 p s m meth c cX7_append 2 none) (hin : meth.name = yX7_append.name) (hO : cs_O G A s s.heap) (S : cs_S) (x0 : Nat) (x1 : Option Nat) (H : Heap) (locs : List Loc) (ls : Array Slot) (h : w_X7_append_14 post G S x0 x1) (hT : cs_T P s A S H locs) (hl : lv_has ls 2 [(0, .ref x0), (1, va_rf x1)]) : W p l e rm_X7_append s m args below meth c H locs 0 0 (MQ below (cs_Qv P A post) args s 0 0 A) (F0 m 14 ls []) := by
  obtain ⟨hx, hb, hml, hown, hK, -, -⟩ := id hC
  refine lv_aload_n (x := x0) hx hb dX7_append_14 rfl (lv_at hl 0 rfl) ?_
  refine hw_aload_n (x := x1) hx hb dX7_append_15 rfl (lv_at hl 1 rfl) ?_
  obtain ⟨hk13_, h⟩ := h
  refine cs_putr (x := x1) hx hb hK hT hown 8 hk13_ (by decide) rfl 14 (by decide) kfX7_177 rfl (tyX7_ok 14 (by decide)) rfl 814 rfl dX7_append_16 (fun H locs hT_ => ?_)
  replace hT := hT_
  obtain ⟨S14, eS14⟩ : ∃ z, z = cs_ur S 814 x0 x1 := ⟨_, rfl⟩
  rw [← eS14] at hT
  replace h := h S14 eS14
  refine lv_goto (tgt := 30) hx hb dX7_append_19 (by decide) ?_
  exact t_X7_append_30 hC hin hO S14 x0 x1 _ _ _ h hT (lv_sub hl [0, 1] rfl)
end
def wp_X7_append (post : cs_S → Prop) (G : Nat → Nat) (S : cs_S) (o : Nat) (p1 : Option Nat) : Prop := cs_k S o = 9 ∧ ∀ r16, r16 = cs_r S 815 o → (r16 = none → w_X7_append_14 post G S o p1) ∧ (∀ b17, r16 = some b17 → ∀ r18, r18 = cs_r S 814 o → (r18 = none → w_X7_append_14 post G S o p1) ∧ (∀ b19, r18 = some b19 → ∀ r20, r20 = cs_r S 815 o → ∃ b21, r20 = some b21 ∧ cs_k S b21 = 4 ∧ ∀ S23, S23 = cs_ur S 304 b21 p1 → w_X7_append_30 post G S23 o p1))
set_option maxRecDepth 100000 in
set_option maxHeartbeats 4000000 in
theorem c_X7_append {l : Launch} {P : hw_G} {G : Nat → Nat} {S : cs_S} {sz : Nat} {o : Nat} {p1 : Option Nat} {post : cs_S → Prop} (h : wp_X7_append post G S o p1) : Met l yX7_append [Cond.code yX7_append cX7_append 2 none] rm_X7_append (cs_Pc P G S sz [.ref o, va_rf p1]) (cs_Qv P (cs_A S sz) post) 0 0 (cs_A S sz) := by
  refine cs_met (by decide) rfl (by cases p1 <;> exact Nat.le_of_ble_eq_true rfl) ?_
  intro p e s m below meth c ls hC hin hO hT hl
  obtain ⟨hx, hb, hml, hown, hK, -, -⟩ := id hC
  replace hl : lv_has ls 2 [(0, .ref o), (1, va_rf p1)] := by cases p1 <;> exact hl
  refine lv_aload_n (x := o) hx hb dX7_append_0 rfl (lv_at hl 0 rfl) ?_
  obtain ⟨hk15_, h⟩ := h
  refine cs_get hx hb hK hT hown 8 hk15_ (by decide) rfl 15 (by decide) kfX7_176 (v := va_rf (cs_r S 815 o)) rfl dX7_append_1 ?_
  refine hw_topr (fun r16 er16 => ?_)
  replace h := h r16 er16
  refine hw_ifnull (tgt := 14) hx hb dX7_append_4 (by decide) (fun hc => ?_) (fun b17 hc => ?_)
  · replace h := h.1 hc
    subst hc
    exact t_X7_append_14 hC hin hO S o p1 _ _ _ h hT (lv_sub hl [0, 1] rfl)
  · replace h := h.2 b17 hc
    subst hc
    refine lv_aload_n (x := o) hx hb dX7_append_7 rfl (lv_at hl 0 rfl) ?_
    refine cs_get hx hb hK hT hown 8 hk15_ (by decide) rfl 14 (by decide) kfX7_177 (v := va_rf (cs_r S 814 o)) rfl dX7_append_8 ?_
    refine hw_topr (fun r18 er18 => ?_)
    replace h := h r18 er18
    refine hw_ifnonnull (tgt := 22) hx hb dX7_append_11 (by decide) (fun b19 hc => ?_) (fun hc => ?_)
    · replace h := h.2 b19 hc
      subst hc
      refine lv_aload_n (x := o) hx hb dX7_append_22 rfl (lv_at hl 0 rfl) ?_
      refine cs_get hx hb hK hT hown 8 hk15_ (by decide) rfl 15 (by decide) kfX7_176 (v := va_rf (cs_r S 815 o)) rfl dX7_append_23 ?_
      refine hw_topr (fun r20 er20 => ?_)
      replace h := h r20 er20
      refine hw_aload_n (x := p1) hx hb dX7_append_26 rfl (lv_at hl 1 rfl) ?_
      obtain ⟨b21, rfl, h⟩ := h
      obtain ⟨hk22_, h⟩ := h
      refine cs_putr (x := p1) hx hb hK hT hown 3 hk22_ (by decide) rfl 4 (by decide) kfX7_178 rfl (tyX2_ok 4 (by decide)) rfl 304 rfl dX7_append_27 (fun H locs hT_ => ?_)
      replace hT := hT_
      obtain ⟨S23, eS23⟩ : ∃ z, z = cs_ur S 304 b21 p1 := ⟨_, rfl⟩
      rw [← eS23] at hT
      replace h := h S23 eS23
      exact t_X7_append_30 hC hin hO S23 o p1 _ _ _ h hT (lv_sub hl [0, 1] rfl)
    · replace h := h.1 hc
      subst hc
      exact t_X7_append_14 hC hin hO S o p1 _ _ _ h hT (lv_sub hl [0, 1] rfl)
/-! X7_waitForSecond -/
abbrev rm_X7_waitForSecond (mc ms : Nat) : Room := { frames := 2, cells := mc, slots := ms, locals := 48 }
def w_X7_waitForSecond_73 (post : cs_S → Prop) (G : Nat → Nat) (mc ms : Nat) (S : cs_S) (u v : Nat)  : Prop := u ≤ mc ∧ v ≤ ms ∧ post S
section
variable {p : Program} {l : Launch} {e : Env} {s : State} {m : MethodId} {args : Array Value} {below : List Frame} {meth : Method} {c : Code} {P : hw_G} {G : Nat → Nat} {A : Nat → Prop}
set_option maxRecDepth 100000 in
set_option maxHeartbeats 4000000 in
theorem t_X7_waitForSecond_73 {post : cs_S → Prop} {mc ms : Nat} (hC : rf_C P RX7 p s m meth c cX7_waitForSecond 4 none) (hin : meth.name = yX7_waitForSecond.name) (hO : cs_O G A s s.heap) (S : cs_S) (u v : Nat)  (H : Heap) (locs : List Loc) (ls : Array Slot) (h : w_X7_waitForSecond_73 post G mc ms S u v ) (hT : cs_T P s A S H locs) (hl : lv_has ls 4 []) : W p l e (rm_X7_waitForSecond mc ms) s m args below meth c H locs u v (MQ below (cs_Qv P A post) args s mc ms A) (F0 m 73 ls []) := by
  obtain ⟨hx, hb, hml, hown, hK, -, -⟩ := id hC
  obtain ⟨hu, hv, h⟩ := h
  exact cs_vret hC hT h dX7_waitForSecond_73 hu hv
end
def w_X7_waitForSecond_32 (post : cs_S → Prop) (G : Nat → Nat) (mc ms : Nat) (S : cs_S) (u v : Nat) (x0 : Nat) (x1 : Option Nat) (x2 : Option Nat) (x3 : Int32) : Prop := u ≤ mc ∧ v ≤ ms ∧ ((x3 &&& 1) = 0 → w_X7_waitForSecond_73 post G mc ms S u v) ∧ (¬ (x3 &&& 1) = 0 → u + 1 ≤ mc ∧ v + 6 ≤ ms ∧ ∀ q21, cs_k S q21 = 0 → ∀ S22, S22 = cs_new S q21 3 → wp_X2_init (fun S23 => cs_k S23 x0 = 9 ∧ wp_X7_append (fun S24 => ∃ b26, x1 = some b26 ∧ cs_k S24 b26 = 6 ∧ ∀ S28, S28 = cs_ui S24 513 b26 ((cs_i S24 513 b26) + 1) → cs_k S28 x0 = 9 ∧ ∀ S30, S30 = cs_ui S28 813 x0 ((cs_i S28 813 x0) + 1) → w_X7_waitForSecond_73 post G mc ms S30 (u + 1) (v + 6)) G S23 x0 (some q21)) G S22 q21 x2 x1 0 none)
section
variable {p : Program} {l : Launch} {e : Env} {s : State} {m : MethodId} {args : Array Value} {below : List Frame} {meth : Method} {c : Code} {P : hw_G} {G : Nat → Nat} {A : Nat → Prop}
set_option maxRecDepth 100000 in
set_option maxHeartbeats 4000000 in
theorem t_X7_waitForSecond_32 {post : cs_S → Prop} {mc ms : Nat} (hC : rf_C P RX7 p s m meth c cX7_waitForSecond 4 none) (hin : meth.name = yX7_waitForSecond.name) (hO : cs_O G A s s.heap) (S : cs_S) (u v : Nat) (x0 : Nat) (x1 : Option Nat) (x2 : Option Nat) (x3 : Int32) (H : Heap) (locs : List Loc) (ls : Array Slot) (h : w_X7_waitForSecond_32 post G mc ms S u v x0 x1 x2 x3) (hT : cs_T P s A S H locs) (hl : lv_has ls 4 [(0, .ref x0), (1, va_rf x1), (2, va_rf x2), (3, .int x3)]) : W p l e (rm_X7_waitForSecond mc ms) s m args below meth c H locs u v (MQ below (cs_Qv P A post) args s mc ms A) (F0 m 32 ls []) := by
  obtain ⟨hx, hb, hml, hown, hK, -, -⟩ := id hC
  obtain ⟨hu, hv, h⟩ := h
  refine lv_iload_n hx hb dX7_waitForSecond_32 rfl (lv_at hl 3 rfl) ?_
  refine lv_iconst (v := 1) hx hb dX7_waitForSecond_33 (by decide) ?_
  refine lv_iand hx hb dX7_waitForSecond_34 ?_
  refine lv_if_eq (tgt := 73) hx hb dX7_waitForSecond_35 (by decide) (fun hc => ?_) (fun hc => ?_)
  · replace h := h.1 hc
    exact t_X7_waitForSecond_73 hC hin hO S u v _ _ _ h hT (lv_sub hl [] rfl)
  · replace h := h.2 hc
    refine lv_aload_n (x := x0) hx hb dX7_waitForSecond_38 rfl (lv_at hl 0 rfl) ?_
    obtain ⟨hu21, hv21, h⟩ := h
    refine cs_newo hx hb hK hT hown 3 (by decide) rfl tyX2_ok cs_df3 kxX7_118 kj_X2 kn_X2 hu21 hv21 dX7_waitForSecond_39 (fun q21 H hq21 hT_ => ?_)
    replace h := h q21 hq21
    replace hT := hT_
    obtain ⟨S22, eS22⟩ : ∃ z, z = cs_new S q21 3 := ⟨_, rfl⟩
    rw [← eS22] at hT
    replace h := h S22 eS22
    refine lv_dup hx hb dX7_waitForSecond_42 rfl ?_
    refine hw_aload_n (x := x2) hx hb dX7_waitForSecond_43 rfl (lv_at hl 2 rfl) ?_
    refine hw_aload_n (x := x1) hx hb dX7_waitForSecond_44 rfl (lv_at hl 1 rfl) ?_
    refine lv_iconst (v := 0) hx hb dX7_waitForSecond_45 (by decide) ?_
    refine hw_null hx hb dX7_waitForSecond_46 ?_
    refine cs_callv0 (cs_runI hx hb hml hown hK hO hT (c_X2_init h) rfl rfl klX7_120 ki_X2_init kn_X2 kc_X2_init rfl 4 ⟨by decide, by decide, by decide +kernel⟩ ⟨Nat.le_of_ble_eq_true rfl, Nat.le_of_ble_eq_true rfl⟩ rfl hl.1 rfl (hw_cat8 (Nat.le_of_ble_eq_true rfl)) ⟨hu21, hv21⟩ dX7_waitForSecond_47) hT (fun S23 H locs h_ hT_ => ?_)
    replace h := h_
    replace hT := hT_
    obtain ⟨hk25_, h⟩ := h
    refine cs_callv0 (cs_runV hx hb hml hown hK hO hT 8 hk25_ (by decide) rfl (c_X7_append h) rfl rfl klX7_170 ki_X7_append ks_X7_append kn_X7 kc_X7_append 1 ⟨rfl, by decide, by decide, by decide +kernel⟩ ⟨Nat.le_of_ble_eq_true rfl, Nat.le_of_ble_eq_true rfl⟩ rfl hl.1 rfl (hw_cat8 (Nat.le_of_ble_eq_true rfl)) ⟨hu21, hv21⟩ dX7_waitForSecond_50) hT (fun S24 H locs h_ hT_ => ?_)
    replace h := h_
    replace hT := hT_
    refine hw_aload_n (x := x1) hx hb dX7_waitForSecond_53 rfl (lv_at hl 1 rfl) ?_
    refine lv_dup hx hb dX7_waitForSecond_54 (va_rf_cat _) ?_
    obtain ⟨b26, rfl, h⟩ := h
    obtain ⟨hk27_, h⟩ := h
    refine cs_get hx hb hK hT hown 5 hk27_ (by decide) rfl 13 (by decide) kfX7_194 (v := .int (cs_i S24 513 b26)) rfl dX7_waitForSecond_55 ?_
    refine lv_iconst (v := 1) hx hb dX7_waitForSecond_58 (by decide) ?_
    refine lv_iadd hx hb dX7_waitForSecond_59 ?_
    refine cs_puti (x := ((cs_i S24 513 b26) + 1)) hx hb hK hT hown 5 hk27_ (by decide) rfl 13 (by decide) kfX7_194 rfl (tyX4_ok 13 (by decide)) rfl 513 rfl dX7_waitForSecond_60 (fun H locs hT_ => ?_)
    replace hT := hT_
    obtain ⟨S28, eS28⟩ : ∃ z, z = cs_ui S24 513 b26 ((cs_i S24 513 b26) + 1) := ⟨_, rfl⟩
    rw [← eS28] at hT
    replace h := h S28 eS28
    refine lv_aload_n (x := x0) hx hb dX7_waitForSecond_63 rfl (lv_at hl 0 rfl) ?_
    refine lv_dup hx hb dX7_waitForSecond_64 rfl ?_
    obtain ⟨hk29_, h⟩ := h
    refine cs_get hx hb hK hT hown 8 hk29_ (by decide) rfl 13 (by decide) kfX7_173 (v := .int (cs_i S28 813 x0)) rfl dX7_waitForSecond_65 ?_
    refine lv_iconst (v := 1) hx hb dX7_waitForSecond_68 (by decide) ?_
    refine lv_iadd hx hb dX7_waitForSecond_69 ?_
    refine cs_puti (x := ((cs_i S28 813 x0) + 1)) hx hb hK hT hown 8 hk29_ (by decide) rfl 13 (by decide) kfX7_173 rfl (tyX7_ok 13 (by decide)) rfl 813 rfl dX7_waitForSecond_70 (fun H locs hT_ => ?_)
    replace hT := hT_
    obtain ⟨S30, eS30⟩ : ∃ z, z = cs_ui S28 813 x0 ((cs_i S28 813 x0) + 1) := ⟨_, rfl⟩
    rw [← eS30] at hT
    replace h := h S30 eS30
    exact t_X7_waitForSecond_73 hC hin hO S30 (u + 1) (v + 6) _ _ _ h hT (lv_sub hl [] rfl)
end
def wp_X7_waitForSecond (post : cs_S → Prop) (G : Nat → Nat) (mc ms : Nat) (S : cs_S) (o : Nat) (p1 : Option Nat) (p2 : Option Nat) (p3 : Int32) : Prop := ((p3 &&& 2) = 0 → w_X7_waitForSecond_32 post G mc ms S 0 0 o p1 p2 p3) ∧ (¬ (p3 &&& 2) = 0 → ∃ b31, p2 = some b31 ∧ cs_k S b31 = 5 ∧ ∃ b33, p1 = some b33 ∧ cs_k S b33 = 6 ∧ ∀ S35, S35 = cs_ui S 514 b33 (cs_i S 405 b31) → cs_k S35 o = 9 ∧ cs_k S35 b33 = 6 ∧ ∀ S38, S38 = cs_ui S35 813 o ((cs_i S35 813 o) - (cs_i S35 513 b33)) → cs_k S38 b33 = 6 ∧ ∀ S40, S40 = cs_ui S38 513 b33 0 → w_X7_waitForSecond_32 post G mc ms S40 0 0 o (some b33) (some b31) p3)
set_option maxRecDepth 100000 in
set_option maxHeartbeats 4000000 in
theorem c_X7_waitForSecond {l : Launch} {P : hw_G} {G : Nat → Nat} {S : cs_S} {sz : Nat} {mc ms : Nat} {o : Nat} {p1 : Option Nat} {p2 : Option Nat} {p3 : Int32} {post : cs_S → Prop} (h : wp_X7_waitForSecond post G mc ms S o p1 p2 p3) : Met l yX7_waitForSecond [Cond.code yX7_waitForSecond cX7_waitForSecond 4 none] (rm_X7_waitForSecond mc ms) (cs_Pc P G S sz [.ref o, va_rf p1, va_rf p2, .int p3]) (cs_Qv P (cs_A S sz) post) mc ms (cs_A S sz) := by
  refine cs_met (by decide) rfl (by cases p1 <;> cases p2 <;> exact Nat.le_of_ble_eq_true rfl) ?_
  intro p e s m below meth c ls hC hin hO hT hl
  obtain ⟨hx, hb, hml, hown, hK, -, -⟩ := id hC
  replace hl : lv_has ls 4 [(0, .ref o), (1, va_rf p1), (2, va_rf p2), (3, .int p3)] := by cases p1 <;> cases p2 <;> exact hl
  refine lv_iload_n hx hb dX7_waitForSecond_0 rfl (lv_at hl 3 rfl) ?_
  refine lv_iconst (v := 2) hx hb dX7_waitForSecond_1 (by decide) ?_
  refine lv_iand hx hb dX7_waitForSecond_2 ?_
  refine lv_if_eq (tgt := 32) hx hb dX7_waitForSecond_3 (by decide) (fun hc => ?_) (fun hc => ?_)
  · replace h := h.1 hc
    exact t_X7_waitForSecond_32 hC hin hO S 0 0 o p1 p2 p3 _ _ _ h hT (lv_sub hl [0, 1, 2, 3] rfl)
  · replace h := h.2 hc
    refine hw_aload_n (x := p1) hx hb dX7_waitForSecond_6 rfl (lv_at hl 1 rfl) ?_
    refine hw_aload_n (x := p2) hx hb dX7_waitForSecond_7 rfl (lv_at hl 2 rfl) ?_
    obtain ⟨b31, rfl, h⟩ := h
    obtain ⟨hk32_, h⟩ := h
    refine cs_get hx hb hK hT hown 4 hk32_ (by decide) rfl 5 (by decide) kfX7_150 (v := .int (cs_i S 405 b31)) rfl dX7_waitForSecond_8 ?_
    obtain ⟨b33, rfl, h⟩ := h
    obtain ⟨hk34_, h⟩ := h
    refine cs_puti (x := (cs_i S 405 b31)) hx hb hK hT hown 5 hk34_ (by decide) rfl 14 (by decide) kfX7_191 rfl (tyX4_ok 14 (by decide)) rfl 514 rfl dX7_waitForSecond_11 (fun H locs hT_ => ?_)
    replace hT := hT_
    obtain ⟨S35, eS35⟩ : ∃ z, z = cs_ui S 514 b33 (cs_i S 405 b31) := ⟨_, rfl⟩
    rw [← eS35] at hT
    replace h := h S35 eS35
    refine lv_aload_n (x := o) hx hb dX7_waitForSecond_14 rfl (lv_at hl 0 rfl) ?_
    refine lv_dup hx hb dX7_waitForSecond_15 rfl ?_
    obtain ⟨hk36_, h⟩ := h
    refine cs_get hx hb hK hT hown 8 hk36_ (by decide) rfl 13 (by decide) kfX7_173 (v := .int (cs_i S35 813 o)) rfl dX7_waitForSecond_16 ?_
    refine lv_aload_n (x := b33) hx hb dX7_waitForSecond_19 rfl (lv_at hl 1 rfl) ?_
    obtain ⟨hk37_, h⟩ := h
    refine cs_get hx hb hK hT hown 5 hk37_ (by decide) rfl 13 (by decide) kfX7_194 (v := .int (cs_i S35 513 b33)) rfl dX7_waitForSecond_20 ?_
    refine lv_isub hx hb dX7_waitForSecond_23 ?_
    refine cs_puti (x := ((cs_i S35 813 o) - (cs_i S35 513 b33))) hx hb hK hT hown 8 hk36_ (by decide) rfl 13 (by decide) kfX7_173 rfl (tyX7_ok 13 (by decide)) rfl 813 rfl dX7_waitForSecond_24 (fun H locs hT_ => ?_)
    replace hT := hT_
    obtain ⟨S38, eS38⟩ : ∃ z, z = cs_ui S35 813 o ((cs_i S35 813 o) - (cs_i S35 513 b33)) := ⟨_, rfl⟩
    rw [← eS38] at hT
    replace h := h S38 eS38
    refine lv_aload_n (x := b33) hx hb dX7_waitForSecond_27 rfl (lv_at hl 1 rfl) ?_
    refine lv_iconst (v := 0) hx hb dX7_waitForSecond_28 (by decide) ?_
    obtain ⟨hk39_, h⟩ := h
    refine cs_puti (x := 0) hx hb hK hT hown 5 hk39_ (by decide) rfl 13 (by decide) kfX7_194 rfl (tyX4_ok 13 (by decide)) rfl 513 rfl dX7_waitForSecond_29 (fun H locs hT_ => ?_)
    replace hT := hT_
    obtain ⟨S40, eS40⟩ : ∃ z, z = cs_ui S38 513 b33 0 := ⟨_, rfl⟩
    rw [← eS40] at hT
    replace h := h S40 eS40
    exact t_X7_waitForSecond_32 hC hin hO S40 0 0 o (some b33) (some b31) p3 _ _ _ h hT (lv_sub hl [0, 1, 2, 3] rfl)
/-! X7_forget -/
abbrev rm_X7_forget : Room := { frames := 0, cells := 0, slots := 0, locals := 0 }
def w_X7_forget_123 (post : cs_S → Prop) (G : Nat → Nat) (S : cs_S)  : Prop := post S
section
variable {p : Program} {l : Launch} {e : Env} {s : State} {m : MethodId} {args : Array Value} {below : List Frame} {meth : Method} {c : Code} {P : hw_G} {G : Nat → Nat} {A : Nat → Prop}
set_option maxRecDepth 100000 in
set_option maxHeartbeats 4000000 in
theorem t_X7_forget_123 {post : cs_S → Prop} (hC : rf_C P RX7 p s m meth c cX7_forget 3 none) (hin : meth.name = yX7_forget.name) (hO : cs_O G A s s.heap) (S : cs_S)  (H : Heap) (locs : List Loc) (ls : Array Slot) (h : w_X7_forget_123 post G S ) (hT : cs_T P s A S H locs) (hl : lv_has ls 3 []) : W p l e rm_X7_forget s m args below meth c H locs 0 0 (MQ below (cs_Qv P A post) args s 0 0 A) (F0 m 123 ls []) := by
  obtain ⟨hx, hb, hml, hown, hK, -, -⟩ := id hC
  exact cs_vret hC hT h dX7_forget_123 (Nat.le_refl _) (Nat.le_refl _)
end
def w_X7_forget_120 (post : cs_S → Prop) (G : Nat → Nat) (k0 : cs_S → Nat → Int32 → Prop) (S : cs_S) (x0 : Nat) (x1 : Int32) : Prop := k0 S x0 x1
section
variable {p : Program} {l : Launch} {e : Env} {s : State} {m : MethodId} {args : Array Value} {below : List Frame} {meth : Method} {c : Code} {P : hw_G} {G : Nat → Nat} {A : Nat → Prop}
set_option maxRecDepth 100000 in
set_option maxHeartbeats 4000000 in
theorem t_X7_forget_120 {post : cs_S → Prop} {k0 : cs_S → Nat → Int32 → Prop} (hC : rf_C P RX7 p s m meth c cX7_forget 3 none) (hin : meth.name = yX7_forget.name) (hO : cs_O G A s s.heap) (hk0 : ∀ (S : cs_S) (x0 : Nat) (x1 : Int32) (H : Heap) (locs : List Loc) (ls : Array Slot), k0 S x0 x1 → cs_T P s A S H locs → lv_has ls 3 [(0, .ref x0), (1, .int x1)] → W p l e rm_X7_forget s m args below meth c H locs 0 0 (MQ below (cs_Qv P A post) args s 0 0 A) (F0 m 0 ls [])) (S : cs_S) (x0 : Nat) (x1 : Int32) (H : Heap) (locs : List Loc) (ls : Array Slot) (h : w_X7_forget_120 post G k0 S x0 x1) (hT : cs_T P s A S H locs) (hl : lv_has ls 3 [(0, .ref x0), (1, .int x1)]) : W p l e rm_X7_forget s m args below meth c H locs 0 0 (MQ below (cs_Qv P A post) args s 0 0 A) (F0 m 120 ls []) := by
  obtain ⟨hx, hb, hml, hown, hK, -, -⟩ := id hC
  refine lv_goto (tgt := 0) hx hb dX7_forget_120 (by decide) ?_
  exact hk0 S x0 x1 _ _ _ h hT (lv_sub hl [0, 1] rfl)
end
def w_X7_forget_0 (post : cs_S → Prop) (G : Nat → Nat) : Nat → cs_S → Nat → Int32 → Prop
  | 0, _, _, _ => False
  | n + 1, S, x0, x1 => cs_k S x0 = 9 ∧ ∀ r42, r42 = cs_r S 814 x0 → (r42 = none → w_X7_forget_123 post G S) ∧ (∀ b43, r42 = some b43 → ∀ r44, r44 = cs_r S 814 x0 → ∃ b45, r44 = some b45 ∧ cs_k S b45 = 4 ∧ ∀ r47, r47 = cs_r S 300 b45 → ∃ b48, r47 = some b48 ∧ cs_k S b48 = 5 ∧ ((x1 - (cs_i S 810 x0)) < (cs_i S 400 b48) → w_X7_forget_123 post G S) ∧ (¬ (x1 - (cs_i S 810 x0)) < (cs_i S 400 b48) → ∀ r50, r50 = cs_r S 814 x0 → ∃ b51, r50 = some b51 ∧ cs_k S b51 = 4 ∧ ∀ r53, r53 = cs_r S 304 b51 → ∀ S54, S54 = cs_ur S 814 x0 r53 → cs_k S54 x0 = 9 ∧ ∀ S56, S56 = cs_ui S54 813 x0 ((cs_i S54 813 x0) - 1) → cs_k S56 b51 = 4 ∧ ∀ r58, r58 = cs_r S56 301 b51 → ∀ r59, r59 = cs_r S56 305 b51 → ∃ b60, r58 = some b60 ∧ cs_k S56 b60 = 6 ∧ ∀ S62, S62 = cs_ur S56 505 b60 r59 → cs_k S62 b51 = 4 ∧ ∀ r64, r64 = cs_r S62 301 b51 → ∃ b65, r64 = some b65 ∧ cs_k S62 b65 = 6 ∧ ∀ S67, S67 = cs_ul S62 509 b65 ((cs_l S62 509 b65) - ((cs_i S62 302 b51).toInt64)) → cs_k S67 b51 = 4 ∧ ∀ r69, r69 = cs_r S67 303 b51 → (r69 = none → w_X7_forget_120 post G (w_X7_forget_0 post G n) S67 x0 x1) ∧ (∀ b70, r69 = some b70 → ∀ r71, r71 = cs_r S67 303 b51 → ∃ b72, r71 = some b72 ∧ cs_k S67 b72 = 6 ∧ ∀ S74, S74 = cs_ui S67 511 b72 ((cs_i S67 511 b72) - 1) → cs_k S74 b51 = 4 ∧ ∀ r76, r76 = cs_r S74 303 b51 → ∃ b77, r76 = some b77 ∧ cs_k S74 b77 = 6 ∧ (¬ (cs_i S74 511 b77) = 0 → w_X7_forget_120 post G (w_X7_forget_0 post G n) S74 x0 x1) ∧ ((cs_i S74 511 b77) = 0 → ∀ r79, r79 = cs_r S74 301 b51 → ∃ b80, r79 = some b80 ∧ cs_k S74 b80 = 6 ∧ ∀ S82, S82 = cs_ui S74 510 b80 ((cs_i S74 510 b80) - 1) → w_X7_forget_120 post G (w_X7_forget_0 post G n) S82 x0 x1))))
section
variable {p : Program} {l : Launch} {e : Env} {s : State} {m : MethodId} {args : Array Value} {below : List Frame} {meth : Method} {c : Code} {P : hw_G} {G : Nat → Nat} {A : Nat → Prop}
set_option maxRecDepth 100000 in
set_option maxHeartbeats 4000000 in
theorem t_X7_forget_0 {post : cs_S → Prop} (hC : rf_C P RX7 p s m meth c cX7_forget 3 none) (hin : meth.name = yX7_forget.name) (hO : cs_O G A s s.heap) : ∀ (n : Nat) (S : cs_S) (x0 : Nat) (x1 : Int32) (H : Heap) (locs : List Loc) (ls : Array Slot), w_X7_forget_0 post G n S x0 x1 → cs_T P s A S H locs → lv_has ls 3 [(0, .ref x0), (1, .int x1)] → W p l e rm_X7_forget s m args below meth c H locs 0 0 (MQ below (cs_Qv P A post) args s 0 0 A) (F0 m 0 ls []) := by
  obtain ⟨hx, hb, hml, hown, hK, -, -⟩ := id hC
  intro n
  induction n with
  | zero => intro S x0 x1 H locs ls h; exact False.elim h
  | succ n ih =>
    intro S x0 x1 H locs ls h hT hl
    refine lv_aload_n (x := x0) hx hb dX7_forget_0 rfl (lv_at hl 0 rfl) ?_
    obtain ⟨hk41_, h⟩ := h
    refine cs_get hx hb hK hT hown 8 hk41_ (by decide) rfl 14 (by decide) kfX7_177 (v := va_rf (cs_r S 814 x0)) rfl dX7_forget_1 ?_
    refine hw_topr (fun r42 er42 => ?_)
    replace h := h r42 er42
    refine hw_ifnull (tgt := 123) hx hb dX7_forget_4 (by decide) (fun hc => ?_) (fun b43 hc => ?_)
    · replace h := h.1 hc
      subst hc
      exact t_X7_forget_123 hC hin hO S _ _ _ h hT (lv_sub hl [] rfl)
    · replace h := h.2 b43 hc
      subst hc
      refine lv_aload_n (x := x0) hx hb dX7_forget_7 rfl (lv_at hl 0 rfl) ?_
      refine cs_get hx hb hK hT hown 8 hk41_ (by decide) rfl 14 (by decide) kfX7_177 (v := va_rf (cs_r S 814 x0)) rfl dX7_forget_8 ?_
      refine hw_topr (fun r44 er44 => ?_)
      replace h := h r44 er44
      obtain ⟨b45, rfl, h⟩ := h
      obtain ⟨hk46_, h⟩ := h
      refine cs_get hx hb hK hT hown 3 hk46_ (by decide) rfl 0 (by decide) kfX7_143 (v := va_rf (cs_r S 300 b45)) rfl dX7_forget_11 ?_
      refine hw_topr (fun r47 er47 => ?_)
      replace h := h r47 er47
      obtain ⟨b48, rfl, h⟩ := h
      obtain ⟨hk49_, h⟩ := h
      refine cs_get hx hb hK hT hown 4 hk49_ (by decide) rfl 0 (by decide) kfX7_92 (v := .int (cs_i S 400 b48)) rfl dX7_forget_14 ?_
      refine lv_iload_n hx hb dX7_forget_17 rfl (lv_at hl 1 rfl) ?_
      refine lv_aload_n (x := x0) hx hb dX7_forget_18 rfl (lv_at hl 0 rfl) ?_
      refine cs_get hx hb hK hT hown 8 hk41_ (by decide) rfl 10 (by decide) kfX7_147 (v := .int (cs_i S 810 x0)) rfl dX7_forget_19 ?_
      refine lv_isub hx hb dX7_forget_22 ?_
      refine lv_icmp_gt (tgt := 123) hx hb dX7_forget_23 (by decide) (fun hc => ?_) (fun hc => ?_)
      · replace h := h.1 hc
        exact t_X7_forget_123 hC hin hO S _ _ _ h hT (lv_sub hl [] rfl)
      · replace h := h.2 hc
        refine lv_aload_n (x := x0) hx hb dX7_forget_26 rfl (lv_at hl 0 rfl) ?_
        refine cs_get hx hb hK hT hown 8 hk41_ (by decide) rfl 14 (by decide) kfX7_177 (v := va_rf (cs_r S 814 x0)) rfl dX7_forget_27 ?_
        refine hw_topr (fun r50 er50 => ?_)
        replace h := h r50 er50
        refine hw_astore_n (lv' := [(2, _), (0, _), (1, _)]) (x := r50) hx hb dX7_forget_30 rfl hl (by decide) rfl (fun ls hl_ => ?_)
        replace hl := hl_
        refine lv_aload_n (x := x0) hx hb dX7_forget_31 rfl (lv_at hl 1 rfl) ?_
        refine hw_aload_n (x := r50) hx hb dX7_forget_32 rfl (lv_at hl 0 rfl) ?_
        obtain ⟨b51, rfl, h⟩ := h
        obtain ⟨hk52_, h⟩ := h
        refine cs_get hx hb hK hT hown 3 hk52_ (by decide) rfl 4 (by decide) kfX7_178 (v := va_rf (cs_r S 304 b51)) rfl dX7_forget_33 ?_
        refine hw_topr (fun r53 er53 => ?_)
        replace h := h r53 er53
        refine cs_putr (x := r53) hx hb hK hT hown 8 hk41_ (by decide) rfl 14 (by decide) kfX7_177 rfl (tyX7_ok 14 (by decide)) rfl 814 rfl dX7_forget_36 (fun H locs hT_ => ?_)
        replace hT := hT_
        obtain ⟨S54, eS54⟩ : ∃ z, z = cs_ur S 814 x0 r53 := ⟨_, rfl⟩
        rw [← eS54] at hT
        replace h := h S54 eS54
        refine lv_aload_n (x := x0) hx hb dX7_forget_39 rfl (lv_at hl 1 rfl) ?_
        refine lv_dup hx hb dX7_forget_40 rfl ?_
        obtain ⟨hk55_, h⟩ := h
        refine cs_get hx hb hK hT hown 8 hk55_ (by decide) rfl 13 (by decide) kfX7_173 (v := .int (cs_i S54 813 x0)) rfl dX7_forget_41 ?_
        refine lv_iconst (v := 1) hx hb dX7_forget_44 (by decide) ?_
        refine lv_isub hx hb dX7_forget_45 ?_
        refine cs_puti (x := ((cs_i S54 813 x0) - 1)) hx hb hK hT hown 8 hk55_ (by decide) rfl 13 (by decide) kfX7_173 rfl (tyX7_ok 13 (by decide)) rfl 813 rfl dX7_forget_46 (fun H locs hT_ => ?_)
        replace hT := hT_
        obtain ⟨S56, eS56⟩ : ∃ z, z = cs_ui S54 813 x0 ((cs_i S54 813 x0) - 1) := ⟨_, rfl⟩
        rw [← eS56] at hT
        replace h := h S56 eS56
        refine lv_aload_n (x := b51) hx hb dX7_forget_49 rfl (lv_at hl 0 rfl) ?_
        obtain ⟨hk57_, h⟩ := h
        refine cs_get hx hb hK hT hown 3 hk57_ (by decide) rfl 1 (by decide) kfX7_167 (v := va_rf (cs_r S56 301 b51)) rfl dX7_forget_50 ?_
        refine hw_topr (fun r58 er58 => ?_)
        replace h := h r58 er58
        refine lv_aload_n (x := b51) hx hb dX7_forget_53 rfl (lv_at hl 0 rfl) ?_
        refine cs_get hx hb hK hT hown 3 hk57_ (by decide) rfl 5 (by decide) kfX7_140 (v := va_rf (cs_r S56 305 b51)) rfl dX7_forget_54 ?_
        refine hw_topr (fun r59 er59 => ?_)
        replace h := h r59 er59
        obtain ⟨b60, rfl, h⟩ := h
        obtain ⟨hk61_, h⟩ := h
        refine cs_putr (x := r59) hx hb hK hT hown 5 hk61_ (by decide) rfl 5 (by decide) kfX7_158 rfl (tyX4_ok 5 (by decide)) rfl 505 rfl dX7_forget_57 (fun H locs hT_ => ?_)
        replace hT := hT_
        obtain ⟨S62, eS62⟩ : ∃ z, z = cs_ur S56 505 b60 r59 := ⟨_, rfl⟩
        rw [← eS62] at hT
        replace h := h S62 eS62
        refine lv_aload_n (x := b51) hx hb dX7_forget_60 rfl (lv_at hl 0 rfl) ?_
        obtain ⟨hk63_, h⟩ := h
        refine cs_get hx hb hK hT hown 3 hk63_ (by decide) rfl 1 (by decide) kfX7_167 (v := va_rf (cs_r S62 301 b51)) rfl dX7_forget_61 ?_
        refine hw_topr (fun r64 er64 => ?_)
        replace h := h r64 er64
        refine lv_dup hx hb dX7_forget_64 (va_rf_cat _) ?_
        obtain ⟨b65, rfl, h⟩ := h
        obtain ⟨hk66_, h⟩ := h
        refine cs_get hx hb hK hT hown 5 hk66_ (by decide) rfl 9 (by decide) kfX7_155 (v := .long (cs_l S62 509 b65)) rfl dX7_forget_65 ?_
        refine lv_aload_n (x := b51) hx hb dX7_forget_68 rfl (lv_at hl 0 rfl) ?_
        refine cs_get hx hb hK hT hown 3 hk63_ (by decide) rfl 2 (by decide) kfX7_181 (v := .int (cs_i S62 302 b51)) rfl dX7_forget_69 ?_
        refine lv_i2l (v := (cs_i S62 302 b51).toInt64) hx hb dX7_forget_72 rfl ?_
        refine lv_lsub hx hb dX7_forget_73 ?_
        refine cs_putl (x := ((cs_l S62 509 b65) - ((cs_i S62 302 b51).toInt64))) hx hb hK hT hown 5 hk66_ (by decide) rfl 9 (by decide) kfX7_155 rfl (tyX4_ok 9 (by decide)) rfl 509 rfl dX7_forget_74 (fun H locs hT_ => ?_)
        replace hT := hT_
        obtain ⟨S67, eS67⟩ : ∃ z, z = cs_ul S62 509 b65 ((cs_l S62 509 b65) - ((cs_i S62 302 b51).toInt64)) := ⟨_, rfl⟩
        rw [← eS67] at hT
        replace h := h S67 eS67
        refine lv_aload_n (x := b51) hx hb dX7_forget_77 rfl (lv_at hl 0 rfl) ?_
        obtain ⟨hk68_, h⟩ := h
        refine cs_get hx hb hK hT hown 3 hk68_ (by decide) rfl 3 (by decide) kfX7_184 (v := va_rf (cs_r S67 303 b51)) rfl dX7_forget_78 ?_
        refine hw_topr (fun r69 er69 => ?_)
        replace h := h r69 er69
        refine hw_ifnull (tgt := 120) hx hb dX7_forget_81 (by decide) (fun hc => ?_) (fun b70 hc => ?_)
        · replace h := h.1 hc
          subst hc
          exact t_X7_forget_120 hC hin hO ih S67 x0 x1 _ _ _ h hT (lv_sub hl [1, 2] rfl)
        · replace h := h.2 b70 hc
          subst hc
          refine lv_aload_n (x := b51) hx hb dX7_forget_84 rfl (lv_at hl 0 rfl) ?_
          refine cs_get hx hb hK hT hown 3 hk68_ (by decide) rfl 3 (by decide) kfX7_184 (v := va_rf (cs_r S67 303 b51)) rfl dX7_forget_85 ?_
          refine hw_topr (fun r71 er71 => ?_)
          replace h := h r71 er71
          refine lv_dup hx hb dX7_forget_88 (va_rf_cat _) ?_
          obtain ⟨b72, rfl, h⟩ := h
          obtain ⟨hk73_, h⟩ := h
          refine cs_get hx hb hK hT hown 5 hk73_ (by decide) rfl 11 (by decide) kfX7_161 (v := .int (cs_i S67 511 b72)) rfl dX7_forget_89 ?_
          refine lv_iconst (v := 1) hx hb dX7_forget_92 (by decide) ?_
          refine lv_isub hx hb dX7_forget_93 ?_
          refine cs_puti (x := ((cs_i S67 511 b72) - 1)) hx hb hK hT hown 5 hk73_ (by decide) rfl 11 (by decide) kfX7_161 rfl (tyX4_ok 11 (by decide)) rfl 511 rfl dX7_forget_94 (fun H locs hT_ => ?_)
          replace hT := hT_
          obtain ⟨S74, eS74⟩ : ∃ z, z = cs_ui S67 511 b72 ((cs_i S67 511 b72) - 1) := ⟨_, rfl⟩
          rw [← eS74] at hT
          replace h := h S74 eS74
          refine lv_aload_n (x := b51) hx hb dX7_forget_97 rfl (lv_at hl 0 rfl) ?_
          obtain ⟨hk75_, h⟩ := h
          refine cs_get hx hb hK hT hown 3 hk75_ (by decide) rfl 3 (by decide) kfX7_184 (v := va_rf (cs_r S74 303 b51)) rfl dX7_forget_98 ?_
          refine hw_topr (fun r76 er76 => ?_)
          replace h := h r76 er76
          obtain ⟨b77, rfl, h⟩ := h
          obtain ⟨hk78_, h⟩ := h
          refine cs_get hx hb hK hT hown 5 hk78_ (by decide) rfl 11 (by decide) kfX7_161 (v := .int (cs_i S74 511 b77)) rfl dX7_forget_101 ?_
          refine lv_if_ne (tgt := 120) hx hb dX7_forget_104 (by decide) (fun hc => ?_) (fun hc => ?_)
          · replace h := h.1 hc
            exact t_X7_forget_120 hC hin hO ih S74 x0 x1 _ _ _ h hT (lv_sub hl [1, 2] rfl)
          · replace h := h.2 hc
            refine lv_aload_n (x := b51) hx hb dX7_forget_107 rfl (lv_at hl 0 rfl) ?_
            refine cs_get hx hb hK hT hown 3 hk75_ (by decide) rfl 1 (by decide) kfX7_167 (v := va_rf (cs_r S74 301 b51)) rfl dX7_forget_108 ?_
            refine hw_topr (fun r79 er79 => ?_)
            replace h := h r79 er79
            refine lv_dup hx hb dX7_forget_111 (va_rf_cat _) ?_
            obtain ⟨b80, rfl, h⟩ := h
            obtain ⟨hk81_, h⟩ := h
            refine cs_get hx hb hK hT hown 5 hk81_ (by decide) rfl 10 (by decide) kfX7_164 (v := .int (cs_i S74 510 b80)) rfl dX7_forget_112 ?_
            refine lv_iconst (v := 1) hx hb dX7_forget_115 (by decide) ?_
            refine lv_isub hx hb dX7_forget_116 ?_
            refine cs_puti (x := ((cs_i S74 510 b80) - 1)) hx hb hK hT hown 5 hk81_ (by decide) rfl 10 (by decide) kfX7_164 rfl (tyX4_ok 10 (by decide)) rfl 510 rfl dX7_forget_117 (fun H locs hT_ => ?_)
            replace hT := hT_
            obtain ⟨S82, eS82⟩ : ∃ z, z = cs_ui S74 510 b80 ((cs_i S74 510 b80) - 1) := ⟨_, rfl⟩
            rw [← eS82] at hT
            replace h := h S82 eS82
            exact t_X7_forget_120 hC hin hO ih S82 x0 x1 _ _ _ h hT (lv_sub hl [1, 2] rfl)
end
def wp_X7_forget (post : cs_S → Prop) (G : Nat → Nat) (S : cs_S) (o : Nat) (p1 : Int32) : Prop := ∃ n9, w_X7_forget_0 post G n9 S o p1
set_option maxRecDepth 100000 in
set_option maxHeartbeats 4000000 in
theorem c_X7_forget {l : Launch} {P : hw_G} {G : Nat → Nat} {S : cs_S} {sz : Nat} {o : Nat} {p1 : Int32} {post : cs_S → Prop} (h : wp_X7_forget post G S o p1) : Met l yX7_forget [Cond.code yX7_forget cX7_forget 3 none] rm_X7_forget (cs_Pc P G S sz [.ref o, .int p1]) (cs_Qv P (cs_A S sz) post) 0 0 (cs_A S sz) := by
  refine cs_met (by decide) rfl (Nat.le_of_ble_eq_true rfl) ?_
  intro p e s m below meth c ls hC hin hO hT hl
  obtain ⟨hx, hb, hml, hown, hK, -, -⟩ := id hC
  replace hl : lv_has ls 3 [(0, .ref o), (1, .int p1)] := hl
  obtain ⟨n9, h⟩ := h
  exact t_X7_forget_0 hC hin hO n9 S o p1 _ _ _ h hT (lv_sub hl [0, 1] rfl)
/-! X7_keep -/
abbrev rm_X7_keep : Room := { frames := 1, cells := 0, slots := 0, locals := 21 }
def w_X7_keep_32 (post : cs_S → Prop) (G : Nat → Nat) (S : cs_S) (x0 : Nat) (x1 : Option Nat) (x2 : Option Nat) : Prop := ∃ b18, x2 = some b18 ∧ cs_k S b18 = 6 ∧ ∀ S20, S20 = cs_ur S 506 b18 x1 → cs_k S20 x0 = 9 ∧ wp_X7_append (fun S21 => cs_k S21 x0 = 9 ∧ ∀ S24, S24 = cs_ui S21 813 x0 ((cs_i S21 813 x0) + 1) → post S24) G S20 x0 x1
section
variable {p : Program} {l : Launch} {e : Env} {s : State} {m : MethodId} {args : Array Value} {below : List Frame} {meth : Method} {c : Code} {P : hw_G} {G : Nat → Nat} {A : Nat → Prop}
set_option maxRecDepth 100000 in
set_option maxHeartbeats 4000000 in
theorem t_X7_keep_32 {post : cs_S → Prop} (hC : rf_C P RX7 p s m meth c cX7_keep 3 none) (hin : meth.name = yX7_keep.name) (hO : cs_O G A s s.heap) (S : cs_S) (x0 : Nat) (x1 : Option Nat) (x2 : Option Nat) (H : Heap) (locs : List Loc) (ls : Array Slot) (h : w_X7_keep_32 post G S x0 x1 x2) (hT : cs_T P s A S H locs) (hl : lv_has ls 3 [(0, .ref x0), (1, va_rf x1), (2, va_rf x2)]) : W p l e rm_X7_keep s m args below meth c H locs 0 0 (MQ below (cs_Qv P A post) args s 0 0 A) (F0 m 32 ls []) := by
  obtain ⟨hx, hb, hml, hown, hK, -, -⟩ := id hC
  refine hw_aload_n (x := x2) hx hb dX7_keep_32 rfl (lv_at hl 2 rfl) ?_
  refine hw_aload_n (x := x1) hx hb dX7_keep_33 rfl (lv_at hl 1 rfl) ?_
  obtain ⟨b18, rfl, h⟩ := h
  obtain ⟨hk19_, h⟩ := h
  refine cs_putr (x := x1) hx hb hK hT hown 5 hk19_ (by decide) rfl 6 (by decide) kfX7_130 rfl (tyX4_ok 6 (by decide)) rfl 506 rfl dX7_keep_34 (fun H locs hT_ => ?_)
  replace hT := hT_
  obtain ⟨S20, eS20⟩ : ∃ z, z = cs_ur S 506 b18 x1 := ⟨_, rfl⟩
  rw [← eS20] at hT
  replace h := h S20 eS20
  refine lv_aload_n (x := x0) hx hb dX7_keep_37 rfl (lv_at hl 0 rfl) ?_
  refine hw_aload_n (x := x1) hx hb dX7_keep_38 rfl (lv_at hl 1 rfl) ?_
  obtain ⟨hk22_, h⟩ := h
  refine cs_callv0 (cs_runV hx hb hml hown hK hO hT 8 hk22_ (by decide) rfl (c_X7_append h) rfl rfl klX7_170 ki_X7_append ks_X7_append kn_X7 kc_X7_append 1 ⟨rfl, by decide, by decide, by decide +kernel⟩ ⟨by decide, by decide⟩ rfl hl.1 rfl (hw_cat8 (Nat.le_of_ble_eq_true rfl)) ⟨(Nat.le_refl _), (Nat.le_refl _)⟩ dX7_keep_39) hT (fun S21 H locs h_ hT_ => ?_)
  replace h := h_
  replace hT := hT_
  refine lv_aload_n (x := x0) hx hb dX7_keep_42 rfl (lv_at hl 0 rfl) ?_
  refine lv_dup hx hb dX7_keep_43 rfl ?_
  obtain ⟨hk23_, h⟩ := h
  refine cs_get hx hb hK hT hown 8 hk23_ (by decide) rfl 13 (by decide) kfX7_173 (v := .int (cs_i S21 813 x0)) rfl dX7_keep_44 ?_
  refine lv_iconst (v := 1) hx hb dX7_keep_47 (by decide) ?_
  refine lv_iadd hx hb dX7_keep_48 ?_
  refine cs_puti (x := ((cs_i S21 813 x0) + 1)) hx hb hK hT hown 8 hk23_ (by decide) rfl 13 (by decide) kfX7_173 rfl (tyX7_ok 13 (by decide)) rfl 813 rfl dX7_keep_49 (fun H locs hT_ => ?_)
  replace hT := hT_
  obtain ⟨S24, eS24⟩ : ∃ z, z = cs_ui S21 813 x0 ((cs_i S21 813 x0) + 1) := ⟨_, rfl⟩
  rw [← eS24] at hT
  replace h := h S24 eS24
  exact cs_vret hC hT h dX7_keep_52 (Nat.le_refl _) (Nat.le_refl _)
end
def w_X7_keep_17 (post : cs_S → Prop) (G : Nat → Nat) (S : cs_S) (x0 : Nat) (x1 : Option Nat) (x2 : Option Nat) : Prop := ∃ b25, x2 = some b25 ∧ cs_k S b25 = 6 ∧ ∀ r27, r27 = cs_r S 506 b25 → (r27 = none → w_X7_keep_32 post G S x0 x1 (some b25)) ∧ (∀ b28, r27 = some b28 → ∀ r29, r29 = cs_r S 506 b25 → ∃ b30, r29 = some b30 ∧ cs_k S b30 = 4 ∧ ∀ S32, S32 = cs_ur S 305 b30 x1 → w_X7_keep_32 post G S32 x0 x1 (some b25))
section
variable {p : Program} {l : Launch} {e : Env} {s : State} {m : MethodId} {args : Array Value} {below : List Frame} {meth : Method} {c : Code} {P : hw_G} {G : Nat → Nat} {A : Nat → Prop}
set_option maxRecDepth 100000 in
set_option maxHeartbeats 4000000 in
theorem t_X7_keep_17 {post : cs_S → Prop} (hC : rf_C P RX7 p s m meth c cX7_keep 3 none) (hin : meth.name = yX7_keep.name) (hO : cs_O G A s s.heap) (S : cs_S) (x0 : Nat) (x1 : Option Nat) (x2 : Option Nat) (H : Heap) (locs : List Loc) (ls : Array Slot) (h : w_X7_keep_17 post G S x0 x1 x2) (hT : cs_T P s A S H locs) (hl : lv_has ls 3 [(0, .ref x0), (1, va_rf x1), (2, va_rf x2)]) : W p l e rm_X7_keep s m args below meth c H locs 0 0 (MQ below (cs_Qv P A post) args s 0 0 A) (F0 m 17 ls []) := by
  obtain ⟨hx, hb, hml, hown, hK, -, -⟩ := id hC
  refine hw_aload_n (x := x2) hx hb dX7_keep_17 rfl (lv_at hl 2 rfl) ?_
  obtain ⟨b25, rfl, h⟩ := h
  obtain ⟨hk26_, h⟩ := h
  refine cs_get hx hb hK hT hown 5 hk26_ (by decide) rfl 6 (by decide) kfX7_130 (v := va_rf (cs_r S 506 b25)) rfl dX7_keep_18 ?_
  refine hw_topr (fun r27 er27 => ?_)
  replace h := h r27 er27
  refine hw_ifnull (tgt := 32) hx hb dX7_keep_21 (by decide) (fun hc => ?_) (fun b28 hc => ?_)
  · replace h := h.1 hc
    subst hc
    exact t_X7_keep_32 hC hin hO S x0 x1 (some b25) _ _ _ h hT (lv_sub hl [0, 1, 2] rfl)
  · replace h := h.2 b28 hc
    subst hc
    refine lv_aload_n (x := b25) hx hb dX7_keep_24 rfl (lv_at hl 2 rfl) ?_
    refine cs_get hx hb hK hT hown 5 hk26_ (by decide) rfl 6 (by decide) kfX7_130 (v := va_rf (cs_r S 506 b25)) rfl dX7_keep_25 ?_
    refine hw_topr (fun r29 er29 => ?_)
    replace h := h r29 er29
    refine hw_aload_n (x := x1) hx hb dX7_keep_28 rfl (lv_at hl 1 rfl) ?_
    obtain ⟨b30, rfl, h⟩ := h
    obtain ⟨hk31_, h⟩ := h
    refine cs_putr (x := x1) hx hb hK hT hown 3 hk31_ (by decide) rfl 5 (by decide) kfX7_140 rfl (tyX2_ok 5 (by decide)) rfl 305 rfl dX7_keep_29 (fun H locs hT_ => ?_)
    replace hT := hT_
    obtain ⟨S32, eS32⟩ : ∃ z, z = cs_ur S 305 b30 x1 := ⟨_, rfl⟩
    rw [← eS32] at hT
    replace h := h S32 eS32
    exact t_X7_keep_32 hC hin hO S32 x0 x1 (some b25) _ _ _ h hT (lv_sub hl [0, 1, 2] rfl)
end
def wp_X7_keep (post : cs_S → Prop) (G : Nat → Nat) (S : cs_S) (o : Nat) (p1 : Option Nat) : Prop := ∃ b33, p1 = some b33 ∧ cs_k S b33 = 4 ∧ ∀ r35, r35 = cs_r S 301 b33 → ∃ b36, r35 = some b36 ∧ cs_k S b36 = 6 ∧ ∀ r38, r38 = cs_r S 505 b36 → (r38 = none → ∀ S40, S40 = cs_ur S 505 b36 (some b33) → w_X7_keep_17 post G S40 o (some b33) (some b36)) ∧ (∀ b39, r38 = some b39 → w_X7_keep_17 post G S o (some b33) (some b36))
set_option maxRecDepth 100000 in
set_option maxHeartbeats 4000000 in
theorem c_X7_keep {l : Launch} {P : hw_G} {G : Nat → Nat} {S : cs_S} {sz : Nat} {o : Nat} {p1 : Option Nat} {post : cs_S → Prop} (h : wp_X7_keep post G S o p1) : Met l yX7_keep [Cond.code yX7_keep cX7_keep 3 none] rm_X7_keep (cs_Pc P G S sz [.ref o, va_rf p1]) (cs_Qv P (cs_A S sz) post) 0 0 (cs_A S sz) := by
  refine cs_met (by decide) rfl (by cases p1 <;> exact Nat.le_of_ble_eq_true rfl) ?_
  intro p e s m below meth c ls hC hin hO hT hl
  obtain ⟨hx, hb, hml, hown, hK, -, -⟩ := id hC
  replace hl : lv_has ls 3 [(0, .ref o), (1, va_rf p1)] := by cases p1 <;> exact hl
  refine hw_aload_n (x := p1) hx hb dX7_keep_0 rfl (lv_at hl 1 rfl) ?_
  obtain ⟨b33, rfl, h⟩ := h
  obtain ⟨hk34_, h⟩ := h
  refine cs_get hx hb hK hT hown 3 hk34_ (by decide) rfl 1 (by decide) kfX7_167 (v := va_rf (cs_r S 301 b33)) rfl dX7_keep_1 ?_
  refine hw_topr (fun r35 er35 => ?_)
  replace h := h r35 er35
  refine hw_astore_n (lv' := [(2, _), (0, _), (1, _)]) (x := r35) hx hb dX7_keep_4 rfl hl (by decide) rfl (fun ls hl_ => ?_)
  replace hl := hl_
  refine hw_aload_n (x := r35) hx hb dX7_keep_5 rfl (lv_at hl 0 rfl) ?_
  obtain ⟨b36, rfl, h⟩ := h
  obtain ⟨hk37_, h⟩ := h
  refine cs_get hx hb hK hT hown 5 hk37_ (by decide) rfl 5 (by decide) kfX7_158 (v := va_rf (cs_r S 505 b36)) rfl dX7_keep_6 ?_
  refine hw_topr (fun r38 er38 => ?_)
  replace h := h r38 er38
  refine hw_ifnonnull (tgt := 17) hx hb dX7_keep_9 (by decide) (fun b39 hc => ?_) (fun hc => ?_)
  · replace h := h.2 b39 hc
    subst hc
    exact t_X7_keep_17 hC hin hO S o (some b33) (some b36) _ _ _ h hT (lv_sub hl [1, 2, 0] rfl)
  · replace h := h.1 hc
    subst hc
    refine lv_aload_n (x := b36) hx hb dX7_keep_12 rfl (lv_at hl 0 rfl) ?_
    refine lv_aload_n (x := b33) hx hb dX7_keep_13 rfl (lv_at hl 2 rfl) ?_
    refine cs_putr (x := (some b33)) hx hb hK hT hown 5 hk37_ (by decide) rfl 5 (by decide) kfX7_158 rfl (tyX4_ok 5 (by decide)) rfl 505 rfl dX7_keep_14 (fun H locs hT_ => ?_)
    replace hT := hT_
    obtain ⟨S40, eS40⟩ : ∃ z, z = cs_ur S 505 b36 (some b33) := ⟨_, rfl⟩
    rw [← eS40] at hT
    replace h := h S40 eS40
    exact t_X7_keep_17 hC hin hO S40 o (some b33) (some b36) _ _ _ h hT (lv_sub hl [1, 2, 0] rfl)
