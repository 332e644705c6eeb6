/-! X8_init -/
abbrev rm_X8_init (mc ms : Nat) : Room := { frames := 4, cells := mc, slots := ms, locals := 85 }
def w_X8_init_117 (post : cs_S → Prop) (G : Nat → Nat) (mc ms : Nat) (S : cs_S) (u v : Nat)  : Prop := u ≤ mc ∧ v ≤ ms ∧ post S
section
variable {p : Program} {l : Launch} {e : Env} {s : State} {m : MethodId} {args : Array Value} {below : List Frame} {meth : Method} {c : Code} {P : hw_G} {G : Nat → Nat} {A : Nat → Prop}
set_option maxRecDepth 100000 in
set_option maxHeartbeats 4000000 in
theorem t_X8_init_117 {post : cs_S → Prop} {mc ms : Nat} (hC : rf_C P RX8 p s m meth c cX8_init 4 none) (hin : meth.name = yX8_init.name) (hO : cs_O G A s s.heap) (S : cs_S) (u v : Nat)  (H : Heap) (locs : List Loc) (ls : Array Slot) (h : w_X8_init_117 post G mc ms S u v ) (hT : cs_T P s A S H locs) (hl : lv_has ls 4 []) : W p l e (rm_X8_init mc ms) s m args below meth c H locs u v (MQ below (cs_Qv P A post) args s mc ms A) (F0 m 117 ls []) := by
  obtain ⟨hx, hb, hml, hown, hK, -, -⟩ := id hC
  obtain ⟨hu, hv, h⟩ := h
  exact cs_vret hC hT h dX8_init_117 hu hv
end
def w_X8_init_111 (post : cs_S → Prop) (G : Nat → Nat) (mc ms : Nat) (k52 : cs_S → Nat → Nat → Nat → Int32 → Int32 → Int32 → Prop) (S : cs_S) (u v : Nat) (x0 : Nat) (x1 : Int32) (x2 : Int32) (x3 : Int32) : Prop := u ≤ mc ∧ v ≤ ms ∧ k52 S u v x0 x1 x2 (x3 + 1)
section
variable {p : Program} {l : Launch} {e : Env} {s : State} {m : MethodId} {args : Array Value} {below : List Frame} {meth : Method} {c : Code} {P : hw_G} {G : Nat → Nat} {A : Nat → Prop}
set_option maxRecDepth 100000 in
set_option maxHeartbeats 4000000 in
theorem t_X8_init_111 {post : cs_S → Prop} {mc ms : Nat} {k52 : cs_S → Nat → Nat → Nat → Int32 → Int32 → Int32 → Prop} (hC : rf_C P RX8 p s m meth c cX8_init 4 none) (hin : meth.name = yX8_init.name) (hO : cs_O G A s s.heap) (hk52 : ∀ (S : cs_S) (u v : Nat) (x0 : Nat) (x1 : Int32) (x2 : Int32) (x3 : Int32) (H : Heap) (locs : List Loc) (ls : Array Slot), k52 S u v x0 x1 x2 x3 → cs_T P s A S H locs → lv_has ls 4 [(0, .ref x0), (1, .int x1), (2, .int x2), (3, .int x3)] → W p l e (rm_X8_init mc ms) s m args below meth c H locs u v (MQ below (cs_Qv P A post) args s mc ms A) (F0 m 52 ls [])) (S : cs_S) (u v : Nat) (x0 : Nat) (x1 : Int32) (x2 : Int32) (x3 : Int32) (H : Heap) (locs : List Loc) (ls : Array Slot) (h : w_X8_init_111 post G mc ms k52 S u v x0 x1 x2 x3) (hT : cs_T P s A S H locs) (hl : lv_has ls 4 [(0, .ref x0), (1, .int x1), (2, .int x2), (3, .int x3)]) : W p l e (rm_X8_init mc ms) s m args below meth c H locs u v (MQ below (cs_Qv P A post) args s mc ms A) (F0 m 111 ls []) := by
  obtain ⟨hx, hb, hml, hown, hK, -, -⟩ := id hC
  obtain ⟨hu, hv, h⟩ := h
  refine lv_iinc (v := x3 + 1) (lv' := [(3, _), (0, _), (1, _), (2, _)]) hx hb dX8_init_111 hl (k := 3) rfl rfl (by decide) rfl (fun ls hl_ => ?_)
  replace hl := hl_
  refine lv_goto (tgt := 52) hx hb dX8_init_114 (by decide) ?_
  exact hk52 S u v x0 x1 x2 (x3 + 1) _ _ _ h hT (lv_sub hl [1, 2, 3, 0] rfl)
end
def w_X8_init_52 (post : cs_S → Prop) (G : Nat → Nat) (mc ms : Nat) : Nat → cs_S → Nat → Nat → Nat → Int32 → Int32 → Int32 → Prop
  | 0, _, _, _, _, _, _, _ => False
  | n + 1, S, u, v, x0, x1, x2, x3 => u ≤ mc ∧ v ≤ ms ∧ wp_J0_length_8abf5 (fun r31 S31 => (r31 ≤ x3 → w_X8_init_117 post G mc ms S31 u v) ∧ (¬ r31 ≤ x3 → (20 ≤ x1 → w_X8_init_117 post G mc ms S31 u v) ∧ (¬ 20 ≤ x1 → wp_J0_charAt_5068e (fun r32 S32 => (¬ r32 = 32 → cs_k S32 x0 = 10 ∧ ∀ r34, r34 = cs_r S32 903 x0 → ∀ r35, r35 = cs_r S32 903 x0 → ∃ b36, r35 = some b36 ∧ cs_k S32 b36 = 21 ∧ vp_in x1 (cs_n S32 b36) ∧ wp_J0_charAt_5068e (fun r38 S38 => wp_X11_withLetter (fun r39 S39 => ∃ b40, r34 = some b40 ∧ cs_k S39 b40 = 21 ∧ vp_in x1 (cs_n S39 b40) ∧ ∀ S42, S42 = cs_ual S39 b40 x1.toNatClampNeg r39 → w_X8_init_111 post G mc ms (w_X8_init_52 post G mc ms n) S42 u v x0 x1 (x2 + 1) x3) G S38 (cs_al S32 b36 x1.toNatClampNeg) x2 r38) G S32 (G 10) x3) ∧ (r32 = 32 → w_X8_init_111 post G mc ms (w_X8_init_52 post G mc ms n) S32 u v x0 (x1 + 1) 0 x3)) G S31 (G 10) x3))) G S (G 10)
section
variable {p : Program} {l : Launch} {e : Env} {s : State} {m : MethodId} {args : Array Value} {below : List Frame} {meth : Method} {c : Code} {P : hw_G} {G : Nat → Nat} {A : Nat → Prop}
set_option maxRecDepth 100000 in
set_option maxHeartbeats 4000000 in
theorem t_X8_init_52 {post : cs_S → Prop} {mc ms : Nat} (hC : rf_C P RX8 p s m meth c cX8_init 4 none) (hin : meth.name = yX8_init.name) (hO : cs_O G A s s.heap) : ∀ (n : Nat) (S : cs_S) (u v : Nat) (x0 : Nat) (x1 : Int32) (x2 : Int32) (x3 : Int32) (H : Heap) (locs : List Loc) (ls : Array Slot), w_X8_init_52 post G mc ms n S u v x0 x1 x2 x3 → cs_T P s A S H locs → lv_has ls 4 [(0, .ref x0), (1, .int x1), (2, .int x2), (3, .int x3)] → W p l e (rm_X8_init mc ms) s m args below meth c H locs u v (MQ below (cs_Qv P A post) args s mc ms A) (F0 m 52 ls []) := by
  obtain ⟨hx, hb, hml, hown, hK, -, -⟩ := id hC
  intro n
  induction n with
  | zero => intro S u v x0 x1 x2 x3 H locs ls h; exact False.elim h
  | succ n ih =>
    intro S u v x0 x1 x2 x3 H locs ls h hT hl
    obtain ⟨hu, hv, h⟩ := h
    refine lv_iload_n hx hb dX8_init_52 rfl (lv_at hl 3 rfl) ?_
    refine va_ldcS hx hb hown (hO.2.2.2.2.2.1 0 _ rfl) dX8_init_53 ?_
    refine cs_calli0 (cs_runVs hx hb hml hown hK hO hT (vk_recv hO.2.2.2.2.1 (by decide : 0 < 11) hT.1) (c_J0_length_8abf5 h) rfl rfl klX8_33 ki_J0_length_8abf5 ks_J0_length_8abf5 kn_J0 kc_J0_length_8abf5 0 ⟨rfl, by decide, by decide, by decide +kernel⟩ ⟨Nat.le_of_ble_eq_true rfl, Nat.le_of_ble_eq_true rfl⟩ rfl hl.1 rfl (hw_cat8 (Nat.le_of_ble_eq_true rfl)) ⟨hu, hv⟩ dX8_init_55) hT (fun r31 S31 H locs h_ hT_ => ?_)
    replace h := h_
    replace hT := hT_
    refine lv_icmp_ge (tgt := 117) hx hb dX8_init_58 (by decide) (fun hc => ?_) (fun hc => ?_)
    · replace h := h.1 hc
      exact t_X8_init_117 hC hin hO S31 u v _ _ _ h hT (lv_sub hl [] rfl)
    · replace h := h.2 hc
      refine lv_iload_n hx hb dX8_init_61 rfl (lv_at hl 1 rfl) ?_
      refine lv_bipush (v := 20) hx hb dX8_init_62 (by decide) ?_
      refine lv_icmp_ge (tgt := 117) hx hb dX8_init_64 (by decide) (fun hc => ?_) (fun hc => ?_)
      · replace h := h.1 hc
        exact t_X8_init_117 hC hin hO S31 u v _ _ _ h hT (lv_sub hl [] rfl)
      · replace h := h.2 hc
        refine va_ldcS hx hb hown (hO.2.2.2.2.2.1 0 _ rfl) dX8_init_67 ?_
        refine lv_iload_n hx hb dX8_init_69 rfl (lv_at hl 3 rfl) ?_
        refine cs_calli0 (cs_runVs hx hb hml hown hK hO hT (vk_recv hO.2.2.2.2.1 (by decide : 0 < 11) hT.1) (c_J0_charAt_5068e h) rfl rfl klX8_39 ki_J0_charAt_5068e ks_J0_charAt_5068e kn_J0 kc_J0_charAt_5068e 1 ⟨rfl, by decide, by decide, by decide +kernel⟩ ⟨Nat.le_of_ble_eq_true rfl, Nat.le_of_ble_eq_true rfl⟩ rfl hl.1 rfl (hw_cat8 (Nat.le_of_ble_eq_true rfl)) ⟨hu, hv⟩ dX8_init_70) hT (fun r32 S32 H locs h_ hT_ => ?_)
        replace h := h_
        replace hT := hT_
        refine lv_bipush (v := 32) hx hb dX8_init_73 (by decide) ?_
        refine lv_icmp_ne (tgt := 86) hx hb dX8_init_75 (by decide) (fun hc => ?_) (fun hc => ?_)
        · replace h := h.1 hc
          refine lv_aload_n (x := x0) hx hb dX8_init_86 rfl (lv_at hl 0 rfl) ?_
          obtain ⟨hk33_, h⟩ := h
          refine cs_get hx hb hK hT hown 9 hk33_ (by decide) rfl 3 (by decide) kfX8_22 (v := va_rf (cs_r S32 903 x0)) rfl dX8_init_87 ?_
          refine hw_topr (fun r34 er34 => ?_)
          replace h := h r34 er34
          refine lv_iload_n hx hb dX8_init_90 rfl (lv_at hl 1 rfl) ?_
          refine lv_aload_n (x := x0) hx hb dX8_init_91 rfl (lv_at hl 0 rfl) ?_
          refine cs_get hx hb hK hT hown 9 hk33_ (by decide) rfl 3 (by decide) kfX8_22 (v := va_rf (cs_r S32 903 x0)) rfl dX8_init_92 ?_
          refine hw_topr (fun r35 er35 => ?_)
          replace h := h r35 er35
          refine lv_iload_n hx hb dX8_init_95 rfl (lv_at hl 1 rfl) ?_
          obtain ⟨b36, rfl, h⟩ := h
          obtain ⟨hk37_, h⟩ := h
          obtain ⟨hi, h⟩ := h
          refine cs_lald hx hb hK hT hk37_ hi dX8_init_96 ?_
          refine lv_iload_n hx hb dX8_init_97 rfl (lv_at hl 2 rfl) ?_
          refine va_ldcS hx hb hown (hO.2.2.2.2.2.1 0 _ rfl) dX8_init_98 ?_
          refine lv_iload_n hx hb dX8_init_100 rfl (lv_at hl 3 rfl) ?_
          refine cs_calli0 (cs_runVs hx hb hml hown hK hO hT (vk_recv hO.2.2.2.2.1 (by decide : 0 < 11) hT.1) (c_J0_charAt_5068e h) rfl rfl klX8_39 ki_J0_charAt_5068e ks_J0_charAt_5068e kn_J0 kc_J0_charAt_5068e 1 ⟨rfl, by decide, by decide, by decide +kernel⟩ ⟨Nat.le_of_ble_eq_true rfl, Nat.le_of_ble_eq_true rfl⟩ rfl hl.1 rfl (hw_cat8 (Nat.le_of_ble_eq_true rfl)) ⟨hu, hv⟩ dX8_init_101) hT (fun r38 S38 H locs h_ hT_ => ?_)
          replace h := h_
          replace hT := hT_
          refine cs_calll0 (cs_runSN hx hb hml hown hK hO hT (c_X11_withLetter h) rfl rfl klnX8_43 ki_X11_withLetter kn_X11 kc_X11_withLetter 3 ⟨by decide, by decide, by decide +kernel⟩ ⟨Nat.le_of_ble_eq_true rfl, Nat.le_of_ble_eq_true rfl⟩ rfl hl.1 rfl (hw_cat8 (Nat.le_of_ble_eq_true rfl)) ⟨hu, hv⟩ dX8_init_104) hT (fun r39 S39 H locs h_ hT_ => ?_)
          replace h := h_
          replace hT := hT_
          obtain ⟨b40, rfl, h⟩ := h
          obtain ⟨hk41_, h⟩ := h
          obtain ⟨hi, h⟩ := h
          refine cs_last hx hb hK hT hk41_ hi dX8_init_107 (fun H locs hT_ => ?_)
          replace hT := hT_
          obtain ⟨S42, eS42⟩ : ∃ z, z = cs_ual S39 b40 x1.toNatClampNeg r39 := ⟨_, rfl⟩
          rw [← eS42] at hT
          replace h := h S42 eS42
          refine lv_iinc (v := x2 + 1) (lv' := [(2, _), (0, _), (1, _), (3, _)]) hx hb dX8_init_108 hl (k := 2) rfl rfl (by decide) rfl (fun ls hl_ => ?_)
          replace hl := hl_
          exact t_X8_init_111 hC hin hO ih S42 u v x0 x1 (x2 + 1) x3 _ _ _ h hT (lv_sub hl [1, 2, 0, 3] rfl)
        · replace h := h.2 hc
          refine lv_iinc (v := x1 + 1) (lv' := [(1, _), (0, _), (2, _), (3, _)]) hx hb dX8_init_78 hl (k := 1) rfl rfl (by decide) rfl (fun ls hl_ => ?_)
          replace hl := hl_
          refine lv_iconst (v := 0) hx hb dX8_init_81 (by decide) ?_
          refine lv_istore_n (lv' := [(2, _), (1, _), (0, _), (3, _)]) hx hb dX8_init_82 rfl hl (by decide) rfl (fun ls hl_ => ?_)
          replace hl := hl_
          refine lv_goto (tgt := 111) hx hb dX8_init_83 (by decide) ?_
          exact t_X8_init_111 hC hin hO ih S32 u v x0 (x1 + 1) 0 x3 _ _ _ h hT (lv_sub hl [2, 1, 0, 3] rfl)
end
def wp_X8_init (post : cs_S → Prop) (G : Nat → Nat) (mc ms : Nat) (S : cs_S) (o : Nat) : Prop := ¬ (2001 : Int32) < 0 ∧ (2001 : Int32).toNatClampNeg * componentBytes (cs_aty 20) ≤ 536870912 ∧ 0 + 1 ≤ mc ∧ 0 + (2001 : Int32).toNatClampNeg ≤ ms ∧ ∀ q43, cs_k S q43 = 0 → ∀ S44, S44 = cs_newA S q43 20 (2001 : Int32).toNatClampNeg → cs_k S44 o = 10 ∧ ∀ S46, S46 = cs_ur S44 900 o (some q43) → ¬ (2001 : Int32) < 0 ∧ (2001 : Int32).toNatClampNeg * componentBytes (cs_aty 20) ≤ 536870912 ∧ 0 + 1 + 1 ≤ mc ∧ 0 + (2001 : Int32).toNatClampNeg + (2001 : Int32).toNatClampNeg ≤ ms ∧ ∀ q47, cs_k S46 q47 = 0 → ∀ S48, S48 = cs_newA S46 q47 20 (2001 : Int32).toNatClampNeg → cs_k S48 o = 10 ∧ ∀ S50, S50 = cs_ur S48 901 o (some q47) → ¬ (2001 : Int32) < 0 ∧ (2001 : Int32).toNatClampNeg * componentBytes (cs_aty 21) ≤ 536870912 ∧ 0 + 1 + 1 + 1 ≤ mc ∧ 0 + (2001 : Int32).toNatClampNeg + (2001 : Int32).toNatClampNeg + (2001 : Int32).toNatClampNeg ≤ ms ∧ ∀ q51, cs_k S50 q51 = 0 → ∀ S52, S52 = cs_newA S50 q51 21 (2001 : Int32).toNatClampNeg → cs_k S52 o = 10 ∧ ∀ S54, S54 = cs_ur S52 902 o (some q51) → ¬ (20 : Int32) < 0 ∧ (20 : Int32).toNatClampNeg * componentBytes (cs_aty 21) ≤ 536870912 ∧ 0 + 1 + 1 + 1 + 1 ≤ mc ∧ 0 + (2001 : Int32).toNatClampNeg + (2001 : Int32).toNatClampNeg + (2001 : Int32).toNatClampNeg + (20 : Int32).toNatClampNeg ≤ ms ∧ ∀ q55, cs_k S54 q55 = 0 → ∀ S56, S56 = cs_newA S54 q55 21 (20 : Int32).toNatClampNeg → cs_k S56 o = 10 ∧ ∀ S58, S58 = cs_ur S56 903 o (some q55) → cs_k S58 o = 10 ∧ ∀ S60, S60 = cs_ur S58 904 o (some (G 0)) → ∃ n9, w_X8_init_52 post G mc ms n9 S60 (0 + 1 + 1 + 1 + 1) (0 + (2001 : Int32).toNatClampNeg + (2001 : Int32).toNatClampNeg + (2001 : Int32).toNatClampNeg + (20 : Int32).toNatClampNeg) o 0 0 0
set_option maxRecDepth 100000 in
set_option maxHeartbeats 4000000 in
theorem c_X8_init {l : Launch} {P : hw_G} {G : Nat → Nat} {S : cs_S} {sz : Nat} {mc ms : Nat} {o : Nat} {post : cs_S → Prop} (h : wp_X8_init post G mc ms S o) : Met l yX8_init [Cond.code yX8_init cX8_init 4 none] (rm_X8_init mc ms) (cs_Pc P G S sz [.ref o]) (cs_Qv P (cs_A S sz) post) mc ms (cs_A S sz) := by
  refine cs_met (by decide) rfl (Nat.le_of_ble_eq_true rfl) ?_
  intro p e s m below meth c ls hC hin hO hT hl
  obtain ⟨hx, hb, hml, hown, hK, -, -⟩ := id hC
  replace hl : lv_has ls 4 [(0, .ref o)] := hl
  refine lv_aload_n (x := o) hx hb dX8_init_0 rfl (lv_at hl 0 rfl) ?_
  refine cs_objInit hx hb hml hown hK hl.1 klX8_3 ki_obj kc_obj dX8_init_1 (Nat.le_of_ble_eq_true rfl) (hw_catN (Nat.le_of_ble_eq_true rfl) (Nat.le_of_ble_eq_true rfl)) ?_
  refine lv_aload_n (x := o) hx hb dX8_init_4 rfl (lv_at hl 0 rfl) ?_
  refine lv_sipush (v := 2001) hx hb dX8_init_5 (by decide) ?_
  obtain ⟨hn1, hn2, hu43, hv43, h⟩ := h
  refine cs_newa hx hb hK hT 20 rfl ka_int (by decide) (by decide) rfl hn1 hn2 hu43 hv43 dX8_init_8 (fun q43 H hq43 hT_ => ?_)
  replace h := h q43 hq43
  replace hT := hT_
  obtain ⟨S44, eS44⟩ : ∃ z, z = cs_newA S q43 20 (2001 : Int32).toNatClampNeg := ⟨_, rfl⟩
  rw [← eS44] at hT
  replace h := h S44 eS44
  obtain ⟨hk45_, h⟩ := h
  refine cs_putFr (x := (some q43)) hx hb hK hT hown hin 9 hk45_ (by decide) rfl 0 (by decide) kfX8_9 rfl rfl (tyX8_ok 0 (by decide)) rfl 900 rfl dX8_init_10 (fun H locs hT_ => ?_)
  replace hT := hT_
  obtain ⟨S46, eS46⟩ : ∃ z, z = cs_ur S44 900 o (some q43) := ⟨_, rfl⟩
  rw [← eS46] at hT
  replace h := h S46 eS46
  refine lv_aload_n (x := o) hx hb dX8_init_13 rfl (lv_at hl 0 rfl) ?_
  refine lv_sipush (v := 2001) hx hb dX8_init_14 (by decide) ?_
  obtain ⟨hn1, hn2, hu47, hv47, h⟩ := h
  refine cs_newa hx hb hK hT 20 rfl ka_int (by decide) (by decide) rfl hn1 hn2 hu47 hv47 dX8_init_17 (fun q47 H hq47 hT_ => ?_)
  replace h := h q47 hq47
  replace hT := hT_
  obtain ⟨S48, eS48⟩ : ∃ z, z = cs_newA S46 q47 20 (2001 : Int32).toNatClampNeg := ⟨_, rfl⟩
  rw [← eS48] at hT
  replace h := h S48 eS48
  obtain ⟨hk49_, h⟩ := h
  refine cs_putFr (x := (some q47)) hx hb hK hT hown hin 9 hk49_ (by decide) rfl 1 (by decide) kfX8_15 rfl rfl (tyX8_ok 1 (by decide)) rfl 901 rfl dX8_init_19 (fun H locs hT_ => ?_)
  replace hT := hT_
  obtain ⟨S50, eS50⟩ : ∃ z, z = cs_ur S48 901 o (some q47) := ⟨_, rfl⟩
  rw [← eS50] at hT
  replace h := h S50 eS50
  refine lv_aload_n (x := o) hx hb dX8_init_22 rfl (lv_at hl 0 rfl) ?_
  refine lv_sipush (v := 2001) hx hb dX8_init_23 (by decide) ?_
  obtain ⟨hn1, hn2, hu51, hv51, h⟩ := h
  refine cs_newa hx hb hK hT 21 rfl ka_long (by decide) (by decide) rfl hn1 hn2 hu51 hv51 dX8_init_26 (fun q51 H hq51 hT_ => ?_)
  replace h := h q51 hq51
  replace hT := hT_
  obtain ⟨S52, eS52⟩ : ∃ z, z = cs_newA S50 q51 21 (2001 : Int32).toNatClampNeg := ⟨_, rfl⟩
  rw [← eS52] at hT
  replace h := h S52 eS52
  obtain ⟨hk53_, h⟩ := h
  refine cs_putFr (x := (some q51)) hx hb hK hT hown hin 9 hk53_ (by decide) rfl 2 (by decide) kfX8_18 rfl rfl (tyX8_ok 2 (by decide)) rfl 902 rfl dX8_init_28 (fun H locs hT_ => ?_)
  replace hT := hT_
  obtain ⟨S54, eS54⟩ : ∃ z, z = cs_ur S52 902 o (some q51) := ⟨_, rfl⟩
  rw [← eS54] at hT
  replace h := h S54 eS54
  refine lv_aload_n (x := o) hx hb dX8_init_31 rfl (lv_at hl 0 rfl) ?_
  refine lv_bipush (v := 20) hx hb dX8_init_32 (by decide) ?_
  obtain ⟨hn1, hn2, hu55, hv55, h⟩ := h
  refine cs_newa hx hb hK hT 21 rfl ka_long (by decide) (by decide) rfl hn1 hn2 hu55 hv55 dX8_init_34 (fun q55 H hq55 hT_ => ?_)
  replace h := h q55 hq55
  replace hT := hT_
  obtain ⟨S56, eS56⟩ : ∃ z, z = cs_newA S54 q55 21 (20 : Int32).toNatClampNeg := ⟨_, rfl⟩
  rw [← eS56] at hT
  replace h := h S56 eS56
  obtain ⟨hk57_, h⟩ := h
  refine cs_putFr (x := (some q55)) hx hb hK hT hown hin 9 hk57_ (by decide) rfl 3 (by decide) kfX8_22 rfl rfl (tyX8_ok 3 (by decide)) rfl 903 rfl dX8_init_36 (fun H locs hT_ => ?_)
  replace hT := hT_
  obtain ⟨S58, eS58⟩ : ∃ z, z = cs_ur S56 903 o (some q55) := ⟨_, rfl⟩
  rw [← eS58] at hT
  replace h := h S58 eS58
  refine lv_aload_n (x := o) hx hb dX8_init_39 rfl (lv_at hl 0 rfl) ?_
  refine cs_getsN hx hb hO hT hown kfnX8_25 dX8_init_40 ?_
  obtain ⟨hk59_, h⟩ := h
  refine cs_putr (x := (some (G 0))) hx hb hK hT hown 9 hk59_ (by decide) rfl 4 (by decide) kfX8_28 rfl (tyX8_ok 4 (by decide)) rfl 904 rfl dX8_init_43 (fun H locs hT_ => ?_)
  replace hT := hT_
  obtain ⟨S60, eS60⟩ : ∃ z, z = cs_ur S58 904 o (some (G 0)) := ⟨_, rfl⟩
  rw [← eS60] at hT
  replace h := h S60 eS60
  refine lv_iconst (v := 0) hx hb dX8_init_46 (by decide) ?_
  refine lv_istore_n (lv' := [(1, _), (0, _)]) hx hb dX8_init_47 rfl hl (by decide) rfl (fun ls hl_ => ?_)
  replace hl := hl_
  refine lv_iconst (v := 0) hx hb dX8_init_48 (by decide) ?_
  refine lv_istore_n (lv' := [(2, _), (1, _), (0, _)]) hx hb dX8_init_49 rfl hl (by decide) rfl (fun ls hl_ => ?_)
  replace hl := hl_
  refine lv_iconst (v := 0) hx hb dX8_init_50 (by decide) ?_
  refine lv_istore_n (lv' := [(3, _), (2, _), (1, _), (0, _)]) hx hb dX8_init_51 rfl hl (by decide) rfl (fun ls hl_ => ?_)
  replace hl := hl_
  obtain ⟨n9, h⟩ := h
  exact t_X8_init_52 hC hin hO n9 S60 (0 + 1 + 1 + 1 + 1) (0 + (2001 : Int32).toNatClampNeg + (2001 : Int32).toNatClampNeg + (2001 : Int32).toNatClampNeg + (20 : Int32).toNatClampNeg) o 0 0 0 _ _ _ h hT (lv_sub hl [3, 2, 1, 0] rfl)
/-! X11_init -/
abbrev rm_X11_init (mc ms : Nat) : Room := { frames := 5, cells := mc, slots := ms, locals := 108 }
def wp_X11_init (post : cs_S → Prop) (G : Nat → Nat) (mc ms : Nat) (S : cs_S) (o : Nat) : Prop := ¬ (2100 : Int32) < 0 ∧ (2100 : Int32).toNatClampNeg * componentBytes (cs_aty 20) ≤ 536870912 ∧ 0 + 1 ≤ mc ∧ 0 + (2100 : Int32).toNatClampNeg ≤ ms ∧ ∀ q24, cs_k S q24 = 0 → ∀ S25, S25 = cs_newA S q24 20 (2100 : Int32).toNatClampNeg → cs_k S25 o = 13 ∧ ∀ S27, S27 = cs_ur S25 1200 o (some q24) → cs_k S27 o = 13 ∧ ∀ S29, S29 = cs_ui S27 1203 o ((-1)) → 0 + 1 + 1 ≤ mc ∧ 0 + (2100 : Int32).toNatClampNeg + 7 ≤ ms ∧ ∀ q30, cs_k S29 q30 = 0 → ∀ S31, S31 = cs_new S29 q30 9 → ∃ m32 n32, 0 + 1 + 1 + m32 ≤ mc ∧ 0 + (2100 : Int32).toNatClampNeg + 7 + n32 ≤ ms ∧ wp_X8_init (fun S32 => cs_k S32 o = 13 ∧ ∀ S34, S34 = cs_ur S32 1204 o (some q30) → 0 + 1 + 1 + m32 + 1 ≤ mc ∧ 0 + (2100 : Int32).toNatClampNeg + 7 + n32 + 7 ≤ ms ∧ ∀ q35, cs_k S34 q35 = 0 → ∀ S36, S36 = cs_new S34 q35 7 → ∃ m37 n37, 0 + 1 + 1 + m32 + 1 + m37 ≤ mc ∧ 0 + (2100 : Int32).toNatClampNeg + 7 + n32 + 7 + n37 ≤ ms ∧ wp_X6_init (fun S37 => cs_k S37 o = 13 ∧ ∀ S39, S39 = cs_ur S37 1205 o (some q35) → 0 + 1 + 1 + m32 + 1 + m37 + 1 ≤ mc ∧ 0 + (2100 : Int32).toNatClampNeg + 7 + n32 + 7 + n37 + 12 ≤ ms ∧ ∀ q40, cs_k S39 q40 = 0 → ∀ S41, S41 = cs_new S39 q40 11 → ¬ (0 : Int32) < 0 ∧ (0 : Int32).toNatClampNeg * 4 ≤ 536870912 ∧ 0 + 1 + 1 + m32 + 1 + m37 + 1 + 1 ≤ mc ∧ 0 + (2100 : Int32).toNatClampNeg + 7 + n32 + 7 + n37 + 12 + (0 : Int32).toNatClampNeg ≤ ms ∧ ∀ q42, cs_k S41 q42 = 0 → ∀ S43, S43 = cs_newA S41 q42 22 (0 : Int32).toNatClampNeg → ∃ m44 n44, 0 + 1 + 1 + m32 + 1 + m37 + 1 + 1 + m44 ≤ mc ∧ 0 + (2100 : Int32).toNatClampNeg + 7 + n32 + 7 + n37 + 12 + (0 : Int32).toNatClampNeg + n44 ≤ ms ∧ wp_X10_init (fun S44 => cs_k S44 o = 13 ∧ ∀ S46, S46 = cs_ur S44 1206 o (some q40) → post S46) G m44 n44 S43 q40 (some q42) 0) G m37 n37 S36 q35) G m32 n32 S31 q30
set_option maxRecDepth 100000 in
set_option maxHeartbeats 4000000 in
theorem c_X11_init {l : Launch} {P : hw_G} {G : Nat → Nat} {S : cs_S} {sz : Nat} {mc ms : Nat} {o : Nat} {post : cs_S → Prop} (h : wp_X11_init post G mc ms S o) : Met l yX11_init [Cond.code yX11_init cX11_init 1 none] (rm_X11_init mc ms) (cs_Pc P G S sz [.ref o]) (cs_Qv P (cs_A S sz) post) mc ms (cs_A S sz) := by
  refine cs_met (by decide) rfl (Nat.le_of_ble_eq_true rfl) ?_
  intro p e s m below meth c ls hC hin hO hT hl
  obtain ⟨hx, hb, hml, hown, hK, -, -⟩ := id hC
  replace hl : lv_has ls 1 [(0, .ref o)] := hl
  refine lv_aload_n (x := o) hx hb dX11_init_0 rfl (lv_at hl 0 rfl) ?_
  refine cs_objInit hx hb hml hown hK hl.1 klX11_1 ki_obj kc_obj dX11_init_1 (Nat.le_of_ble_eq_true rfl) (hw_catN (Nat.le_of_ble_eq_true rfl) (Nat.le_of_ble_eq_true rfl)) ?_
  refine lv_aload_n (x := o) hx hb dX11_init_4 rfl (lv_at hl 0 rfl) ?_
  refine lv_sipush (v := 2100) hx hb dX11_init_5 (by decide) ?_
  obtain ⟨hn1, hn2, hu24, hv24, h⟩ := h
  refine cs_newa hx hb hK hT 20 rfl ka_int (by decide) (by decide) rfl hn1 hn2 hu24 hv24 dX11_init_8 (fun q24 H hq24 hT_ => ?_)
  replace h := h q24 hq24
  replace hT := hT_
  obtain ⟨S25, eS25⟩ : ∃ z, z = cs_newA S q24 20 (2100 : Int32).toNatClampNeg := ⟨_, rfl⟩
  rw [← eS25] at hT
  replace h := h S25 eS25
  obtain ⟨hk26_, h⟩ := h
  refine cs_putFr (x := (some q24)) hx hb hK hT hown hin 12 hk26_ (by decide) rfl 0 (by decide) kfX11_9 rfl rfl (tyX11_ok 0 (by decide)) rfl 1200 rfl dX11_init_10 (fun H locs hT_ => ?_)
  replace hT := hT_
  obtain ⟨S27, eS27⟩ : ∃ z, z = cs_ur S25 1200 o (some q24) := ⟨_, rfl⟩
  rw [← eS27] at hT
  replace h := h S27 eS27
  refine lv_aload_n (x := o) hx hb dX11_init_13 rfl (lv_at hl 0 rfl) ?_
  refine lv_iconst (v := (-1)) hx hb dX11_init_14 (by decide) ?_
  obtain ⟨hk28_, h⟩ := h
  refine cs_puti (x := ((-1))) hx hb hK hT hown 12 hk28_ (by decide) rfl 3 (by decide) kfX11_13 rfl (tyX11_ok 3 (by decide)) rfl 1203 rfl dX11_init_15 (fun H locs hT_ => ?_)
  replace hT := hT_
  obtain ⟨S29, eS29⟩ : ∃ z, z = cs_ui S27 1203 o ((-1)) := ⟨_, rfl⟩
  rw [← eS29] at hT
  replace h := h S29 eS29
  refine lv_aload_n (x := o) hx hb dX11_init_18 rfl (lv_at hl 0 rfl) ?_
  obtain ⟨hu30, hv30, h⟩ := h
  refine cs_newo hx hb hK hT hown 9 (by decide) rfl tyX8_ok cs_df9 kxX11_17 kj_X8 kn_X8 hu30 hv30 dX11_init_19 (fun q30 H hq30 hT_ => ?_)
  replace h := h q30 hq30
  replace hT := hT_
  obtain ⟨S31, eS31⟩ : ∃ z, z = cs_new S29 q30 9 := ⟨_, rfl⟩
  rw [← eS31] at hT
  replace h := h S31 eS31
  refine lv_dup hx hb dX11_init_22 rfl ?_
  obtain ⟨m32, n32, hu32, hv32, h⟩ := h
  refine cs_callv (cs_runI hx hb hml hown hK hO hT (c_X8_init h) rfl rfl klX11_19 ki_X8_init kn_X8 kc_X8_init rfl 0 ⟨by decide, by decide, by decide +kernel⟩ ⟨Nat.le_of_ble_eq_true rfl, Nat.le_of_ble_eq_true rfl⟩ rfl hl.1 rfl (hw_cat8 (Nat.le_of_ble_eq_true rfl)) ⟨hu32, hv32⟩ dX11_init_23) hT (fun S32 H locs h_ hT_ => ?_)
  replace h := h_
  replace hT := hT_
  obtain ⟨hk33_, h⟩ := h
  refine cs_putFr (x := (some q30)) hx hb hK hT hown hin 12 hk33_ (by decide) rfl 4 (by decide) kfX11_20 rfl rfl (tyX11_ok 4 (by decide)) rfl 1204 rfl dX11_init_26 (fun H locs hT_ => ?_)
  replace hT := hT_
  obtain ⟨S34, eS34⟩ : ∃ z, z = cs_ur S32 1204 o (some q30) := ⟨_, rfl⟩
  rw [← eS34] at hT
  replace h := h S34 eS34
  refine lv_aload_n (x := o) hx hb dX11_init_29 rfl (lv_at hl 0 rfl) ?_
  obtain ⟨hu35, hv35, h⟩ := h
  refine cs_newo hx hb hK hT hown 7 (by decide) rfl tyX6_ok cs_df7 kxX11_24 kj_X6 kn_X6 hu35 hv35 dX11_init_30 (fun q35 H hq35 hT_ => ?_)
  replace h := h q35 hq35
  replace hT := hT_
  obtain ⟨S36, eS36⟩ : ∃ z, z = cs_new S34 q35 7 := ⟨_, rfl⟩
  rw [← eS36] at hT
  replace h := h S36 eS36
  refine lv_dup hx hb dX11_init_33 rfl ?_
  obtain ⟨m37, n37, hu37, hv37, h⟩ := h
  refine cs_callv (cs_runI hx hb hml hown hK hO hT (c_X6_init h) rfl rfl klX11_26 ki_X6_init kn_X6 kc_X6_init rfl 0 ⟨by decide, by decide, by decide +kernel⟩ ⟨Nat.le_of_ble_eq_true rfl, Nat.le_of_ble_eq_true rfl⟩ rfl hl.1 rfl (hw_cat8 (Nat.le_of_ble_eq_true rfl)) ⟨hu37, hv37⟩ dX11_init_34) hT (fun S37 H locs h_ hT_ => ?_)
  replace h := h_
  replace hT := hT_
  obtain ⟨hk38_, h⟩ := h
  refine cs_putFr (x := (some q35)) hx hb hK hT hown hin 12 hk38_ (by decide) rfl 5 (by decide) kfX11_27 rfl rfl (tyX11_ok 5 (by decide)) rfl 1205 rfl dX11_init_37 (fun H locs hT_ => ?_)
  replace hT := hT_
  obtain ⟨S39, eS39⟩ : ∃ z, z = cs_ur S37 1205 o (some q35) := ⟨_, rfl⟩
  rw [← eS39] at hT
  replace h := h S39 eS39
  refine lv_aload_n (x := o) hx hb dX11_init_40 rfl (lv_at hl 0 rfl) ?_
  obtain ⟨hu40, hv40, h⟩ := h
  refine cs_newo hx hb hK hT hown 11 (by decide) rfl tyX10_ok cs_df11 kxX11_31 kj_X10 kn_X10 hu40 hv40 dX11_init_41 (fun q40 H hq40 hT_ => ?_)
  replace h := h q40 hq40
  replace hT := hT_
  obtain ⟨S41, eS41⟩ : ∃ z, z = cs_new S39 q40 11 := ⟨_, rfl⟩
  rw [← eS41] at hT
  replace h := h S41 eS41
  refine lv_dup hx hb dX11_init_44 rfl ?_
  refine lv_iconst (v := 0) hx hb dX11_init_45 (by decide) ?_
  obtain ⟨hn1, hn2, hu42, hv42, h⟩ := h
  refine cs_anew hx hb hK hT hown 22 rfl kxX11_33 (by decide) (by decide) (by decide) hn1 hn2 hu42 hv42 dX11_init_46 (fun q42 H hq42 hT_ => ?_)
  replace h := h q42 hq42
  replace hT := hT_
  obtain ⟨S43, eS43⟩ : ∃ z, z = cs_newA S41 q42 22 (0 : Int32).toNatClampNeg := ⟨_, rfl⟩
  rw [← eS43] at hT
  replace h := h S43 eS43
  refine lv_iconst (v := 0) hx hb dX11_init_49 (by decide) ?_
  obtain ⟨m44, n44, hu44, hv44, h⟩ := h
  refine cs_callv (cs_runI hx hb hml hown hK hO hT (c_X10_init h) rfl rfl klX11_35 ki_X10_init kn_X10 kc_X10_init rfl 2 ⟨by decide, by decide, by decide +kernel⟩ ⟨Nat.le_of_ble_eq_true rfl, Nat.le_of_ble_eq_true rfl⟩ rfl hl.1 rfl (hw_cat8 (Nat.le_of_ble_eq_true rfl)) ⟨hu44, hv44⟩ dX11_init_50) hT (fun S44 H locs h_ hT_ => ?_)
  replace h := h_
  replace hT := hT_
  obtain ⟨hk45_, h⟩ := h
  refine cs_putr (x := (some q40)) hx hb hK hT hown 12 hk45_ (by decide) rfl 6 (by decide) kfX11_38 rfl (tyX11_ok 6 (by decide)) rfl 1206 rfl dX11_init_53 (fun H locs hT_ => ?_)
  replace hT := hT_
  obtain ⟨S46, eS46⟩ : ∃ z, z = cs_ur S44 1206 o (some q40) := ⟨_, rfl⟩
  rw [← eS46] at hT
  replace h := h S46 eS46
  exact cs_vret hC hT h dX11_init_56 hu44 hv44
/-! X11_alert -/
abbrev rm_X11_alert (mc ms : Nat) : Room := { frames := 6, cells := mc, slots := ms, locals := 85 }
def wp_X11_alert (post : Int32 → cs_S → Prop) (postx : cs_S → Prop) (G : Nat → Nat) (mc ms : Nat) (S : cs_S) (o : Nat) (p1 : Int32) (p2 : Int32) : Prop := cs_k S o = 13 ∧ ∀ r17, r17 = cs_r S 1206 o → ∃ b18, r17 = some b18 ∧ cs_k S b18 = 12 ∧ wp_X10_toldAt (fun r19 S19 => (r19 = none → 0 + 1 ≤ mc ∧ 0 + 6 ≤ ms ∧ postx S19) ∧ (∀ b21, r19 = some b21 → (p2.toInt < 0 ∨ 4 < p2.toInt → 0 + 1 ≤ mc ∧ 0 + 6 ≤ ms ∧ postx S19) ∧ (p2.toInt = 0 → cs_k S19 b21 = 2 ∧ post (cs_i S19 100 b21) S19) ∧ (p2.toInt = 1 → cs_k S19 b21 = 2 ∧ post (cs_i S19 101 b21) S19) ∧ (p2.toInt = 2 → cs_k S19 b21 = 2 ∧ post (cs_i S19 102 b21) S19) ∧ (p2.toInt = 3 → cs_k S19 b21 = 2 ∧ post (cs_i S19 103 b21) S19) ∧ (p2.toInt = 4 → cs_k S19 b21 = 2 ∧ post (cs_i S19 104 b21) S19))) G S b18 p1
set_option maxRecDepth 100000 in
set_option maxHeartbeats 4000000 in
theorem c_X11_alert {l : Launch} {P : hw_G} {G : Nat → Nat} {S : cs_S} {sz : Nat} {mc ms : Nat} {o : Nat} {p1 : Int32} {p2 : Int32} {post : Int32 → cs_S → Prop} {postx : cs_S → Prop} (hlx : l.stackTraces = false) (h : wp_X11_alert post postx G mc ms S o p1 p2) : vx_Met l yX11_alert [Cond.code yX11_alert cX11_alert 4 (some .int)] (rm_X11_alert mc ms) (cs_Pc P G S sz [.ref o, .int p1, .int p2]) (cs_Qi P (cs_A S sz) post) (cs_X P (cs_A S sz) postx) mc ms (cs_A S sz) := by
  refine cs_metx (by decide) rfl (Nat.le_of_ble_eq_true rfl) ?_
  intro p e s m below meth c ls hC hin hO htb hT hl
  obtain ⟨hx, hb, hml, hown, hK, -, -⟩ := id hC
  replace hl : lv_has ls 4 [(0, .ref o), (1, .int p1), (2, .int p2)] := hl
  refine lv_aload_n (x := o) hx hb dX11_alert_0 rfl (lv_at hl 0 rfl) ?_
  obtain ⟨hk16_, h⟩ := h
  refine cs_get hx hb hK hT hown 12 hk16_ (by decide) rfl 6 (by decide) kfX11_38 (v := va_rf (cs_r S 1206 o)) rfl dX11_alert_1 ?_
  refine hw_topr (fun r17 er17 => ?_)
  replace h := h r17 er17
  refine lv_iload_n hx hb dX11_alert_4 rfl (lv_at hl 1 rfl) ?_
  obtain ⟨b18, rfl, h⟩ := h
  obtain ⟨hk20_, h⟩ := h
  refine cs_callr0 (cs_runV hx hb hml hown hK hO hT 11 hk20_ (by decide) rfl (c_X10_toldAt h) rfl rfl klX11_126 ki_X10_toldAt ks_X10_toldAt kn_X10 kc_X10_toldAt 1 ⟨rfl, by decide, by decide, by decide +kernel⟩ ⟨Nat.le_of_ble_eq_true rfl, Nat.le_of_ble_eq_true rfl⟩ rfl hl.1 rfl (hw_cat8 (Nat.le_of_ble_eq_true rfl)) ⟨(Nat.zero_le _), (Nat.zero_le _)⟩ dX11_alert_5) hT (fun r19 S19 H locs h_ hT_ => ?_)
  replace h := h_
  replace hT := hT_
  refine hw_astore_n (lv' := [(3, _), (0, _), (1, _), (2, _)]) (x := r19) hx hb dX11_alert_8 rfl hl (by decide) rfl (fun ls hl_ => ?_)
  replace hl := hl_
  refine hw_aload_n (x := r19) hx hb dX11_alert_9 rfl (lv_at hl 0 rfl) ?_
  refine hw_ifnonnull (tgt := 23) hx hb dX11_alert_10 (by decide) (fun b21 hc => ?_) (fun hc => ?_)
  · replace h := h.2 b21 hc
    subst hc
    refine lv_iload_n hx hb dX11_alert_23 rfl (lv_at hl 3 rfl) ?_
    by_cases hz : p2.toInt < 0 ∨ 4 < p2.toInt
    · replace h := h.1 hz
      refine lv_tableOut (tgt := 85) hx hb dX11_alert_24 hz (by decide) ?_
      exact cs_throw hC hO hT hl.1 hlx htb 3 rfl dX11_alert_85 dX11_alert_88 dX11_alert_89 dX11_alert_91 dX11_alert_94 (Nat.le_of_ble_eq_true rfl) (Nat.le_of_ble_eq_true rfl) h.1 h.2.1 h.1 h.2.1 h.2.2
    have hz : p2.toInt = 0 ∨ p2.toInt = 1 ∨ p2.toInt = 2 ∨ p2.toInt = 3 ∨ p2.toInt = 4 := by omega
    rcases hz with hz | hz | hz | hz | hz
    · replace h := h.2.1 hz
      refine hw_tab (tgt := 60) hx hb hz dX11_alert_24 (by decide) (by decide) (off := 36) rfl (by decide) ?_
      refine lv_aload_n (x := b21) hx hb dX11_alert_60 rfl (lv_at hl 0 rfl) ?_
      obtain ⟨hk22_, h⟩ := h
      refine cs_get hx hb hK hT hown 1 hk22_ (by decide) rfl 0 (by decide) kfX11_137 (v := .int (cs_i S19 100 b21)) rfl dX11_alert_61 ?_
      exact vx_ret (cs_iret hC hT h dX11_alert_64 (Nat.zero_le _) (Nat.zero_le _))
    · replace h := h.2.2.1 hz
      refine hw_tab (tgt := 65) hx hb hz dX11_alert_24 (by decide) (by decide) (off := 41) rfl (by decide) ?_
      refine lv_aload_n (x := b21) hx hb dX11_alert_65 rfl (lv_at hl 0 rfl) ?_
      obtain ⟨hk23_, h⟩ := h
      refine cs_get hx hb hK hT hown 1 hk23_ (by decide) rfl 1 (by decide) kfX11_142 (v := .int (cs_i S19 101 b21)) rfl dX11_alert_66 ?_
      exact vx_ret (cs_iret hC hT h dX11_alert_69 (Nat.zero_le _) (Nat.zero_le _))
    · replace h := h.2.2.2.1 hz
      refine hw_tab (tgt := 70) hx hb hz dX11_alert_24 (by decide) (by decide) (off := 46) rfl (by decide) ?_
      refine lv_aload_n (x := b21) hx hb dX11_alert_70 rfl (lv_at hl 0 rfl) ?_
      obtain ⟨hk24_, h⟩ := h
      refine cs_get hx hb hK hT hown 1 hk24_ (by decide) rfl 2 (by decide) kfX11_143 (v := .int (cs_i S19 102 b21)) rfl dX11_alert_71 ?_
      exact vx_ret (cs_iret hC hT h dX11_alert_74 (Nat.zero_le _) (Nat.zero_le _))
    · replace h := h.2.2.2.2.1 hz
      refine hw_tab (tgt := 75) hx hb hz dX11_alert_24 (by decide) (by decide) (off := 51) rfl (by decide) ?_
      refine lv_aload_n (x := b21) hx hb dX11_alert_75 rfl (lv_at hl 0 rfl) ?_
      obtain ⟨hk25_, h⟩ := h
      refine cs_get hx hb hK hT hown 1 hk25_ (by decide) rfl 3 (by decide) kfX11_146 (v := .int (cs_i S19 103 b21)) rfl dX11_alert_76 ?_
      exact vx_ret (cs_iret hC hT h dX11_alert_79 (Nat.zero_le _) (Nat.zero_le _))
    · replace h := h.2.2.2.2.2 hz
      refine hw_tab (tgt := 80) hx hb hz dX11_alert_24 (by decide) (by decide) (off := 56) rfl (by decide) ?_
      refine lv_aload_n (x := b21) hx hb dX11_alert_80 rfl (lv_at hl 0 rfl) ?_
      obtain ⟨hk26_, h⟩ := h
      refine cs_get hx hb hK hT hown 1 hk26_ (by decide) rfl 4 (by decide) kfX11_149 (v := .int (cs_i S19 104 b21)) rfl dX11_alert_81 ?_
      exact vx_ret (cs_iret hC hT h dX11_alert_84 (Nat.zero_le _) (Nat.zero_le _))
  · replace h := h.1 hc
    subst hc
    exact cs_throw hC hO hT hl.1 hlx htb 2 rfl dX11_alert_13 dX11_alert_16 dX11_alert_17 dX11_alert_19 dX11_alert_22 (Nat.le_of_ble_eq_true rfl) (Nat.le_of_ble_eq_true rfl) h.1 h.2.1 h.1 h.2.1 h.2.2
/-! X11_key -/
abbrev rm_X11_key (mc ms : Nat) : Room := { frames := 6, cells := mc, slots := ms, locals := 85 }
def w_X11_key_87 (post : Int32 → cs_S → Prop) (postx : cs_S → Prop) (G : Nat → Nat) (mc ms : Nat) (S : cs_S) (u v : Nat)  : Prop := u ≤ mc ∧ v ≤ ms ∧ u + 1 ≤ mc ∧ v + 6 ≤ ms ∧ postx S
section
variable {p : Program} {l : Launch} {e : Env} {s : State} {m : MethodId} {args : Array Value} {below : List Frame} {meth : Method} {c : Code} {P : hw_G} {G : Nat → Nat} {A : Nat → Prop}
set_option maxRecDepth 100000 in
set_option maxHeartbeats 4000000 in
theorem t_X11_key_87 {post : Int32 → cs_S → Prop} {postx : cs_S → Prop} {mc ms : Nat} (hC : rf_C P RX11 p s m meth c cX11_key 7 (some .int)) (hin : meth.name = yX11_key.name) (hO : cs_O G A s s.heap) (hlx : l.stackTraces = false) (htb : ∀ x ∈ c.exceptionTable.toList, False) (S : cs_S) (u v : Nat)  (H : Heap) (locs : List Loc) (ls : Array Slot) (h : w_X11_key_87 post postx G mc ms S u v ) (hT : cs_T P s A S H locs) (hl : lv_has ls 7 []) : W p l e (rm_X11_key mc ms) s m args below meth c H locs u v (vx_MQ below (cs_Qi P A post) (cs_X P A postx) args s mc ms A) (F0 m 87 ls []) := by
  obtain ⟨hx, hb, hml, hown, hK, -, -⟩ := id hC
  obtain ⟨hu, hv, h⟩ := h
  exact cs_throw hC hO hT hl.1 hlx htb 5 rfl dX11_key_87 dX11_key_90 dX11_key_91 dX11_key_93 dX11_key_96 (Nat.le_of_ble_eq_true rfl) (Nat.le_of_ble_eq_true rfl) h.1 h.2.1 h.1 h.2.1 h.2.2
end
def w_X11_key_28 (post : Int32 → cs_S → Prop) (postx : cs_S → Prop) (G : Nat → Nat) (mc ms : Nat) (S : cs_S) (u v : Nat) (x3 : Int32) (y0 : Option Nat) : Prop := u ≤ mc ∧ v ≤ ms ∧ (y0 = none → u + 1 ≤ mc ∧ v + 6 ≤ ms ∧ postx S) ∧ (∀ b24, y0 = some b24 → (¬ x3 = 0 → (¬ x3 = 1 → (x3 < 2 → w_X11_key_87 post postx G mc ms S u v) ∧ (¬ x3 < 2 → cs_k S b24 = 11 ∧ ∀ r26, r26 = cs_r S 1002 b24 → ∃ b27, r26 = some b27 ∧ cs_k S b27 = 20 ∧ ((x3 - 2) < (Int32.ofNat (cs_n S b27)) → ∀ r29, r29 = cs_r S 1002 b24 → ∃ b30, r29 = some b30 ∧ cs_k S b30 = 20 ∧ vp_in (x3 - 2) (cs_n S b30) ∧ post (cs_ai S b30 (x3 - 2).toNatClampNeg) S) ∧ (¬ (x3 - 2) < (Int32.ofNat (cs_n S b27)) → w_X11_key_87 post postx G mc ms S u v))) ∧ (x3 = 1 → cs_k S b24 = 11 ∧ post (cs_i S 1001 b24) S)) ∧ (x3 = 0 → cs_k S b24 = 11 ∧ post (cs_i S 1000 b24) S))
section
variable {p : Program} {l : Launch} {e : Env} {s : State} {m : MethodId} {args : Array Value} {below : List Frame} {meth : Method} {c : Code} {P : hw_G} {G : Nat → Nat} {A : Nat → Prop}
set_option maxRecDepth 100000 in
set_option maxHeartbeats 4000000 in
theorem t_X11_key_28 {post : Int32 → cs_S → Prop} {postx : cs_S → Prop} {mc ms : Nat} (hC : rf_C P RX11 p s m meth c cX11_key 7 (some .int)) (hin : meth.name = yX11_key.name) (hO : cs_O G A s s.heap) (hlx : l.stackTraces = false) (htb : ∀ x ∈ c.exceptionTable.toList, False) (S : cs_S) (u v : Nat) (x3 : Int32) (y0 : Option Nat) (H : Heap) (locs : List Loc) (ls : Array Slot) (h : w_X11_key_28 post postx G mc ms S u v x3 y0) (hT : cs_T P s A S H locs) (hl : lv_has ls 7 [(3, .int x3)]) : W p l e (rm_X11_key mc ms) s m args below meth c H locs u v (vx_MQ below (cs_Qi P A post) (cs_X P A postx) args s mc ms A) (F0 m 28 ls [va_rf y0]) := by
  obtain ⟨hx, hb, hml, hown, hK, -, -⟩ := id hC
  obtain ⟨hu, hv, h⟩ := h
  refine hw_astore (lv' := [(5, _), (3, _)]) (x := y0) hx hb dX11_key_28 hl (by decide) rfl (fun ls hl_ => ?_)
  replace hl := hl_
  refine hw_aload (x := y0) hx hb dX11_key_30 (lv_at hl 0 rfl) ?_
  refine hw_ifnonnull (tgt := 45) hx hb dX11_key_32 (by decide) (fun b24 hc => ?_) (fun hc => ?_)
  · replace h := h.2 b24 hc
    subst hc
    refine lv_iload_n hx hb dX11_key_45 rfl (lv_at hl 1 rfl) ?_
    refine lv_if_ne (tgt := 55) hx hb dX11_key_46 (by decide) (fun hc => ?_) (fun hc => ?_)
    · replace h := h.1 hc
      refine lv_iload_n hx hb dX11_key_55 rfl (lv_at hl 1 rfl) ?_
      refine lv_iconst (v := 1) hx hb dX11_key_56 (by decide) ?_
      refine lv_icmp_ne (tgt := 66) hx hb dX11_key_57 (by decide) (fun hc => ?_) (fun hc => ?_)
      · replace h := h.1 hc
        refine lv_iload_n hx hb dX11_key_66 rfl (lv_at hl 1 rfl) ?_
        refine lv_iconst (v := 2) hx hb dX11_key_67 (by decide) ?_
        refine lv_isub hx hb dX11_key_68 ?_
        refine lv_istore (lv' := [(6, _), (5, _), (3, _)]) hx hb dX11_key_69 hl (by decide) rfl (fun ls hl_ => ?_)
        replace hl := hl_
        refine lv_iload_n hx hb dX11_key_71 rfl (lv_at hl 2 rfl) ?_
        refine lv_iconst (v := 2) hx hb dX11_key_72 (by decide) ?_
        refine lv_icmp_lt (tgt := 87) hx hb dX11_key_73 (by decide) (fun hc => ?_) (fun hc => ?_)
        · replace h := h.1 hc
          exact t_X11_key_87 hC hin hO hlx htb S u v _ _ _ h hT (lv_sub hl [] rfl)
        · replace h := h.2 hc
          refine lv_iload hx hb dX11_key_76 (lv_at hl 0 rfl) ?_
          refine lv_aload (x := b24) hx hb dX11_key_78 (lv_at hl 1 rfl) ?_
          obtain ⟨hk25_, h⟩ := h
          refine cs_get hx hb hK hT hown 10 hk25_ (by decide) rfl 2 (by decide) kfX11_172 (v := va_rf (cs_r S 1002 b24)) rfl dX11_key_80 ?_
          refine hw_topr (fun r26 er26 => ?_)
          replace h := h r26 er26
          obtain ⟨b27, rfl, h⟩ := h
          obtain ⟨hk28_, h⟩ := h
          refine cs_alen hx hb hK hT 20 hk28_ (by decide) (by decide) dX11_key_83 ?_
          refine lv_icmp_lt (tgt := 97) hx hb dX11_key_84 (by decide) (fun hc => ?_) (fun hc => ?_)
          · replace h := h.1 hc
            refine lv_aload (x := b24) hx hb dX11_key_97 (lv_at hl 1 rfl) ?_
            refine cs_get hx hb hK hT hown 10 hk25_ (by decide) rfl 2 (by decide) kfX11_172 (v := va_rf (cs_r S 1002 b24)) rfl dX11_key_99 ?_
            refine hw_topr (fun r29 er29 => ?_)
            replace h := h r29 er29
            refine lv_iload hx hb dX11_key_102 (lv_at hl 0 rfl) ?_
            obtain ⟨b30, rfl, h⟩ := h
            obtain ⟨hk31_, h⟩ := h
            obtain ⟨hi, h⟩ := h
            refine cs_iald hx hb hK hT hk31_ hi dX11_key_104 ?_
            exact vx_ret (cs_iret hC hT h dX11_key_105 hu hv)
          · replace h := h.2 hc
            exact t_X11_key_87 hC hin hO hlx htb S u v _ _ _ h hT (lv_sub hl [] rfl)
      · replace h := h.2 hc
        refine lv_aload (x := b24) hx hb dX11_key_60 (lv_at hl 0 rfl) ?_
        obtain ⟨hk32_, h⟩ := h
        refine cs_get hx hb hK hT hown 10 hk32_ (by decide) rfl 1 (by decide) kfX11_169 (v := .int (cs_i S 1001 b24)) rfl dX11_key_62 ?_
        exact vx_ret (cs_iret hC hT h dX11_key_65 hu hv)
    · replace h := h.2 hc
      refine lv_aload (x := b24) hx hb dX11_key_49 (lv_at hl 0 rfl) ?_
      obtain ⟨hk33_, h⟩ := h
      refine cs_get hx hb hK hT hown 10 hk33_ (by decide) rfl 0 (by decide) kfX11_164 (v := .int (cs_i S 1000 b24)) rfl dX11_key_51 ?_
      exact vx_ret (cs_iret hC hT h dX11_key_54 hu hv)
  · replace h := h.1 hc
    subst hc
    exact cs_throw hC hO hT hl.1 hlx htb 4 rfl dX11_key_35 dX11_key_38 dX11_key_39 dX11_key_41 dX11_key_44 (Nat.le_of_ble_eq_true rfl) (Nat.le_of_ble_eq_true rfl) h.1 h.2.1 h.1 h.2.1 h.2.2
end
def wp_X11_key (post : Int32 → cs_S → Prop) (postx : cs_S → Prop) (G : Nat → Nat) (mc ms : Nat) (S : cs_S) (o : Nat) (p1 : Int32) (p2 : Int32) (p3 : Int32) : Prop := cs_k S o = 13 ∧ ∀ r35, r35 = cs_r S 1206 o → ∃ b36, r35 = some b36 ∧ cs_k S b36 = 12 ∧ wp_X10_toldAt (fun r37 S37 => (r37 = none → w_X11_key_28 post postx G mc ms S37 0 0 p3 none) ∧ (∀ b39, r37 = some b39 → cs_k S37 b39 = 2 ∧ ∀ r41, r41 = cs_r S37 105 b39 → ∃ b42, r41 = some b42 ∧ cs_k S37 b42 = 6 ∧ wp_X4_valueAt (fun r43 S43 => w_X11_key_28 post postx G mc ms S43 0 0 p3 r43) G S37 b42 p2)) G S b36 p1
set_option maxRecDepth 100000 in
set_option maxHeartbeats 4000000 in
theorem c_X11_key {l : Launch} {P : hw_G} {G : Nat → Nat} {S : cs_S} {sz : Nat} {mc ms : Nat} {o : Nat} {p1 : Int32} {p2 : Int32} {p3 : Int32} {post : Int32 → cs_S → Prop} {postx : cs_S → Prop} (hlx : l.stackTraces = false) (h : wp_X11_key post postx G mc ms S o p1 p2 p3) : vx_Met l yX11_key [Cond.code yX11_key cX11_key 7 (some .int)] (rm_X11_key mc ms) (cs_Pc P G S sz [.ref o, .int p1, .int p2, .int p3]) (cs_Qi P (cs_A S sz) post) (cs_X P (cs_A S sz) postx) mc ms (cs_A S sz) := by
  refine cs_metx (by decide) rfl (Nat.le_of_ble_eq_true rfl) ?_
  intro p e s m below meth c ls hC hin hO htb hT hl
  obtain ⟨hx, hb, hml, hown, hK, -, -⟩ := id hC
  replace hl : lv_has ls 7 [(0, .ref o), (1, .int p1), (2, .int p2), (3, .int p3)] := hl
  refine lv_aload_n (x := o) hx hb dX11_key_0 rfl (lv_at hl 0 rfl) ?_
  obtain ⟨hk34_, h⟩ := h
  refine cs_get hx hb hK hT hown 12 hk34_ (by decide) rfl 6 (by decide) kfX11_38 (v := va_rf (cs_r S 1206 o)) rfl dX11_key_1 ?_
  refine hw_topr (fun r35 er35 => ?_)
  replace h := h r35 er35
  refine lv_iload_n hx hb dX11_key_4 rfl (lv_at hl 1 rfl) ?_
  obtain ⟨b36, rfl, h⟩ := h
  obtain ⟨hk38_, h⟩ := h
  refine cs_callr0 (cs_runV hx hb hml hown hK hO hT 11 hk38_ (by decide) rfl (c_X10_toldAt h) rfl rfl klX11_126 ki_X10_toldAt ks_X10_toldAt kn_X10 kc_X10_toldAt 1 ⟨rfl, by decide, by decide, by decide +kernel⟩ ⟨Nat.le_of_ble_eq_true rfl, Nat.le_of_ble_eq_true rfl⟩ rfl hl.1 rfl (hw_cat8 (Nat.le_of_ble_eq_true rfl)) ⟨(Nat.zero_le _), (Nat.zero_le _)⟩ dX11_key_5) hT (fun r37 S37 H locs h_ hT_ => ?_)
  replace h := h_
  replace hT := hT_
  refine hw_astore (lv' := [(4, _), (0, _), (1, _), (2, _), (3, _)]) (x := r37) hx hb dX11_key_8 hl (by decide) rfl (fun ls hl_ => ?_)
  replace hl := hl_
  refine hw_aload (x := r37) hx hb dX11_key_10 (lv_at hl 0 rfl) ?_
  refine hw_ifnonnull (tgt := 19) hx hb dX11_key_12 (by decide) (fun b39 hc => ?_) (fun hc => ?_)
  · replace h := h.2 b39 hc
    subst hc
    refine lv_aload (x := b39) hx hb dX11_key_19 (lv_at hl 0 rfl) ?_
    obtain ⟨hk40_, h⟩ := h
    refine cs_get hx hb hK hT hown 1 hk40_ (by decide) rfl 5 (by decide) kfX11_152 (v := va_rf (cs_r S37 105 b39)) rfl dX11_key_21 ?_
    refine hw_topr (fun r41 er41 => ?_)
    replace h := h r41 er41
    refine lv_iload_n hx hb dX11_key_24 rfl (lv_at hl 3 rfl) ?_
    obtain ⟨b42, rfl, h⟩ := h
    obtain ⟨hk44_, h⟩ := h
    refine cs_callr0 (cs_runV hx hb hml hown hK hO hT 5 hk44_ (by decide) rfl (c_X4_valueAt h) rfl rfl klX11_156 ki_X4_valueAt ks_X4_valueAt kn_X4 kc_X4_valueAt 1 ⟨rfl, by decide, by decide, by decide +kernel⟩ ⟨Nat.le_of_ble_eq_true rfl, Nat.le_of_ble_eq_true rfl⟩ rfl hl.1 rfl (hw_cat8 (Nat.le_of_ble_eq_true rfl)) ⟨(Nat.zero_le _), (Nat.zero_le _)⟩ dX11_key_25) hT (fun r43 S43 H locs h_ hT_ => ?_)
    replace h := h_
    replace hT := hT_
    exact t_X11_key_28 hC hin hO hlx htb S43 0 0 p3 r43 _ _ _ h hT (lv_sub hl [4] rfl)
  · replace h := h.1 hc
    subst hc
    refine hw_null hx hb dX11_key_15 ?_
    refine lv_goto (tgt := 28) hx hb dX11_key_16 (by decide) ?_
    exact t_X11_key_28 hC hin hO hlx htb S37 0 0 p3 none _ _ _ h hT (lv_sub hl [4] rfl)
/-! X11_rule -/
abbrev rm_X11_rule (mc ms : Nat) : Room := { frames := 6, cells := mc, slots := ms, locals := 82 }
def w_X11_rule_24 (post : Int32 → cs_S → Prop) (postx : cs_S → Prop) (G : Nat → Nat) (mc ms : Nat) (S : cs_S) (u v : Nat)  : Prop := u ≤ mc ∧ v ≤ ms ∧ u + 1 ≤ mc ∧ v + 6 ≤ ms ∧ postx S
section
variable {p : Program} {l : Launch} {e : Env} {s : State} {m : MethodId} {args : Array Value} {below : List Frame} {meth : Method} {c : Code} {P : hw_G} {G : Nat → Nat} {A : Nat → Prop}
set_option maxRecDepth 100000 in
set_option maxHeartbeats 4000000 in
theorem t_X11_rule_24 {post : Int32 → cs_S → Prop} {postx : cs_S → Prop} {mc ms : Nat} (hC : rf_C P RX11 p s m meth c cX11_rule 4 (some .int)) (hin : meth.name = yX11_rule.name) (hO : cs_O G A s s.heap) (hlx : l.stackTraces = false) (htb : ∀ x ∈ c.exceptionTable.toList, False) (S : cs_S) (u v : Nat)  (H : Heap) (locs : List Loc) (ls : Array Slot) (h : w_X11_rule_24 post postx G mc ms S u v ) (hT : cs_T P s A S H locs) (hl : lv_has ls 4 []) : W p l e (rm_X11_rule mc ms) s m args below meth c H locs u v (vx_MQ below (cs_Qi P A post) (cs_X P A postx) args s mc ms A) (F0 m 24 ls []) := by
  obtain ⟨hx, hb, hml, hown, hK, -, -⟩ := id hC
  obtain ⟨hu, hv, h⟩ := h
  exact cs_throw hC hO hT hl.1 hlx htb 6 rfl dX11_rule_24 dX11_rule_27 dX11_rule_28 dX11_rule_30 dX11_rule_33 (Nat.le_of_ble_eq_true rfl) (Nat.le_of_ble_eq_true rfl) h.1 h.2.1 h.1 h.2.1 h.2.2
end
def w_X11_rule_66 (post : Int32 → cs_S → Prop) (postx : cs_S → Prop) (G : Nat → Nat) (mc ms : Nat) (S : cs_S) (u v : Nat) (y0 : Int32) : Prop := u ≤ mc ∧ v ≤ ms ∧ post y0 S
section
variable {p : Program} {l : Launch} {e : Env} {s : State} {m : MethodId} {args : Array Value} {below : List Frame} {meth : Method} {c : Code} {P : hw_G} {G : Nat → Nat} {A : Nat → Prop}
set_option maxRecDepth 100000 in
set_option maxHeartbeats 4000000 in
theorem t_X11_rule_66 {post : Int32 → cs_S → Prop} {postx : cs_S → Prop} {mc ms : Nat} (hC : rf_C P RX11 p s m meth c cX11_rule 4 (some .int)) (hin : meth.name = yX11_rule.name) (hO : cs_O G A s s.heap) (hlx : l.stackTraces = false) (htb : ∀ x ∈ c.exceptionTable.toList, False) (S : cs_S) (u v : Nat) (y0 : Int32) (H : Heap) (locs : List Loc) (ls : Array Slot) (h : w_X11_rule_66 post postx G mc ms S u v y0) (hT : cs_T P s A S H locs) (hl : lv_has ls 4 []) : W p l e (rm_X11_rule mc ms) s m args below meth c H locs u v (vx_MQ below (cs_Qi P A post) (cs_X P A postx) args s mc ms A) (F0 m 66 ls [.int y0]) := by
  obtain ⟨hx, hb, hml, hown, hK, -, -⟩ := id hC
  obtain ⟨hu, hv, h⟩ := h
  exact vx_ret (cs_iret hC hT h dX11_rule_66 hu hv)
end
def wp_X11_rule (post : Int32 → cs_S → Prop) (postx : cs_S → Prop) (G : Nat → Nat) (mc ms : Nat) (S : cs_S) (o : Nat) (p1 : Int32) (p2 : Int32) : Prop := (p1 < 0 → w_X11_rule_24 post postx G mc ms S 0 0) ∧ (¬ p1 < 0 → cs_k S o = 13 ∧ ∀ r21, r21 = cs_r S 1206 o → ∃ b22, r21 = some b22 ∧ cs_k S b22 = 12 ∧ ((cs_i S 1101 b22) ≤ p1 → w_X11_rule_24 post postx G mc ms S 0 0) ∧ (¬ (cs_i S 1101 b22) ≤ p1 → (p2 < 0 → w_X11_rule_24 post postx G mc ms S 0 0) ∧ (¬ p2 < 0 → (p2 ≤ 1 → ∀ r24, r24 = cs_r S 1206 o → ∃ b25, r24 = some b25 ∧ cs_k S b25 = 12 ∧ ∀ r27, r27 = cs_r S 1100 b25 → ∃ b28, r27 = some b28 ∧ cs_k S b28 = 22 ∧ vp_in p1 (cs_n S b28) ∧ ∀ r30, r30 = cs_ar S b28 p1.toNatClampNeg → (¬ p2 = 0 → ∃ b31, r30 = some b31 ∧ cs_k S b31 = 9 ∧ w_X11_rule_66 post postx G mc ms S 0 0 (cs_i S 812 b31)) ∧ (p2 = 0 → ∀ r33, r33 = cs_r S 1206 o → ∃ b34, r33 = some b34 ∧ cs_k S b34 = 12 ∧ ∃ b36, r30 = some b36 ∧ cs_k S b36 = 9 ∧ wp_X7_holdsAt (fun r37 S37 => w_X11_rule_66 post postx G mc ms S37 0 0 r37) G S b36 (cs_i S 1108 b34))) ∧ (¬ p2 ≤ 1 → w_X11_rule_24 post postx G mc ms S 0 0))))
set_option maxRecDepth 100000 in
set_option maxHeartbeats 4000000 in
theorem c_X11_rule {l : Launch} {P : hw_G} {G : Nat → Nat} {S : cs_S} {sz : Nat} {mc ms : Nat} {o : Nat} {p1 : Int32} {p2 : Int32} {post : Int32 → cs_S → Prop} {postx : cs_S → Prop} (hlx : l.stackTraces = false) (h : wp_X11_rule post postx G mc ms S o p1 p2) : vx_Met l yX11_rule [Cond.code yX11_rule cX11_rule 4 (some .int)] (rm_X11_rule mc ms) (cs_Pc P G S sz [.ref o, .int p1, .int p2]) (cs_Qi P (cs_A S sz) post) (cs_X P (cs_A S sz) postx) mc ms (cs_A S sz) := by
  refine cs_metx (by decide) rfl (Nat.le_of_ble_eq_true rfl) ?_
  intro p e s m below meth c ls hC hin hO htb hT hl
  obtain ⟨hx, hb, hml, hown, hK, -, -⟩ := id hC
  replace hl : lv_has ls 4 [(0, .ref o), (1, .int p1), (2, .int p2)] := hl
  refine lv_iload_n hx hb dX11_rule_0 rfl (lv_at hl 1 rfl) ?_
  refine lv_if_lt (tgt := 24) hx hb dX11_rule_1 (by decide) (fun hc => ?_) (fun hc => ?_)
  · replace h := h.1 hc
    exact t_X11_rule_24 hC hin hO hlx htb S 0 0 _ _ _ h hT (lv_sub hl [] rfl)
  · replace h := h.2 hc
    refine lv_iload_n hx hb dX11_rule_4 rfl (lv_at hl 1 rfl) ?_
    refine lv_aload_n (x := o) hx hb dX11_rule_5 rfl (lv_at hl 0 rfl) ?_
    obtain ⟨hk20_, h⟩ := h
    refine cs_get hx hb hK hT hown 12 hk20_ (by decide) rfl 6 (by decide) kfX11_38 (v := va_rf (cs_r S 1206 o)) rfl dX11_rule_6 ?_
    refine hw_topr (fun r21 er21 => ?_)
    replace h := h r21 er21
    obtain ⟨b22, rfl, h⟩ := h
    obtain ⟨hk23_, h⟩ := h
    refine cs_get hx hb hK hT hown 11 hk23_ (by decide) rfl 1 (by decide) kfX11_77 (v := .int (cs_i S 1101 b22)) rfl dX11_rule_9 ?_
    refine lv_icmp_ge (tgt := 24) hx hb dX11_rule_12 (by decide) (fun hc => ?_) (fun hc => ?_)
    · replace h := h.1 hc
      exact t_X11_rule_24 hC hin hO hlx htb S 0 0 _ _ _ h hT (lv_sub hl [] rfl)
    · replace h := h.2 hc
      refine lv_iload_n hx hb dX11_rule_15 rfl (lv_at hl 2 rfl) ?_
      refine lv_if_lt (tgt := 24) hx hb dX11_rule_16 (by decide) (fun hc => ?_) (fun hc => ?_)
      · replace h := h.1 hc
        exact t_X11_rule_24 hC hin hO hlx htb S 0 0 _ _ _ h hT (lv_sub hl [] rfl)
      · replace h := h.2 hc
        refine lv_iload_n hx hb dX11_rule_19 rfl (lv_at hl 2 rfl) ?_
        refine lv_iconst (v := 1) hx hb dX11_rule_20 (by decide) ?_
        refine lv_icmp_le (tgt := 34) hx hb dX11_rule_21 (by decide) (fun hc => ?_) (fun hc => ?_)
        · replace h := h.1 hc
          refine lv_aload_n (x := o) hx hb dX11_rule_34 rfl (lv_at hl 0 rfl) ?_
          refine cs_get hx hb hK hT hown 12 hk20_ (by decide) rfl 6 (by decide) kfX11_38 (v := va_rf (cs_r S 1206 o)) rfl dX11_rule_35 ?_
          refine hw_topr (fun r24 er24 => ?_)
          replace h := h r24 er24
          obtain ⟨b25, rfl, h⟩ := h
          obtain ⟨hk26_, h⟩ := h
          refine cs_get hx hb hK hT hown 11 hk26_ (by decide) rfl 0 (by decide) kfX11_179 (v := va_rf (cs_r S 1100 b25)) rfl dX11_rule_38 ?_
          refine hw_topr (fun r27 er27 => ?_)
          replace h := h r27 er27
          refine lv_iload_n hx hb dX11_rule_41 rfl (lv_at hl 1 rfl) ?_
          obtain ⟨b28, rfl, h⟩ := h
          obtain ⟨hk29_, h⟩ := h
          obtain ⟨hi, h⟩ := h
          refine cs_aald hx hb hK hT 22 hk29_ (by decide) rfl (by decide) hi dX11_rule_42 ?_
          refine hw_topr (fun r30 er30 => ?_)
          replace h := h r30 er30
          refine hw_astore_n (lv' := [(3, _), (0, _), (1, _), (2, _)]) (x := r30) hx hb dX11_rule_43 rfl hl (by decide) rfl (fun ls hl_ => ?_)
          replace hl := hl_
          refine lv_iload_n hx hb dX11_rule_44 rfl (lv_at hl 3 rfl) ?_
          refine lv_if_ne (tgt := 62) hx hb dX11_rule_45 (by decide) (fun hc => ?_) (fun hc => ?_)
          · replace h := h.1 hc
            refine hw_aload_n (x := r30) hx hb dX11_rule_62 rfl (lv_at hl 0 rfl) ?_
            obtain ⟨b31, rfl, h⟩ := h
            obtain ⟨hk32_, h⟩ := h
            refine cs_get hx hb hK hT hown 8 hk32_ (by decide) rfl 12 (by decide) kfX11_186 (v := .int (cs_i S 812 b31)) rfl dX11_rule_63 ?_
            exact t_X11_rule_66 hC hin hO hlx htb S 0 0 (cs_i S 812 b31) _ _ _ h hT (lv_sub hl [] rfl)
          · replace h := h.2 hc
            refine hw_aload_n (x := r30) hx hb dX11_rule_48 rfl (lv_at hl 0 rfl) ?_
            refine lv_aload_n (x := o) hx hb dX11_rule_49 rfl (lv_at hl 1 rfl) ?_
            refine cs_get hx hb hK hT hown 12 hk20_ (by decide) rfl 6 (by decide) kfX11_38 (v := va_rf (cs_r S 1206 o)) rfl dX11_rule_50 ?_
            refine hw_topr (fun r33 er33 => ?_)
            replace h := h r33 er33
            obtain ⟨b34, rfl, h⟩ := h
            obtain ⟨hk35_, h⟩ := h
            refine cs_get hx hb hK hT hown 11 hk35_ (by decide) rfl 8 (by decide) kfX11_89 (v := .int (cs_i S 1108 b34)) rfl dX11_rule_53 ?_
            obtain ⟨b36, rfl, h⟩ := h
            obtain ⟨hk38_, h⟩ := h
            refine cs_calli0 (cs_runV hx hb hml hown hK hO hT 8 hk38_ (by decide) rfl (c_X7_holdsAt h) rfl rfl klX11_182 ki_X7_holdsAt ks_X7_holdsAt kn_X7 kc_X7_holdsAt 1 ⟨rfl, by decide, by decide, by decide +kernel⟩ ⟨Nat.le_of_ble_eq_true rfl, Nat.le_of_ble_eq_true rfl⟩ rfl hl.1 rfl (hw_cat8 (Nat.le_of_ble_eq_true rfl)) ⟨(Nat.zero_le _), (Nat.zero_le _)⟩ dX11_rule_56) hT (fun r37 S37 H locs h_ hT_ => ?_)
            replace h := h_
            replace hT := hT_
            refine lv_goto (tgt := 66) hx hb dX11_rule_59 (by decide) ?_
            exact t_X11_rule_66 hC hin hO hlx htb S37 0 0 r37 _ _ _ h hT (lv_sub hl [] rfl)
        · replace h := h.2 hc
          exact t_X11_rule_24 hC hin hO hlx htb S 0 0 _ _ _ h hT (lv_sub hl [] rfl)
/-! X11_event -/
abbrev rm_X11_event (mc ms : Nat) : Room := { frames := 6, cells := mc, slots := ms, locals := 82 }
def wp_X11_event (post : Int32 → cs_S → Prop) (postx : cs_S → Prop) (G : Nat → Nat) (mc ms : Nat) (S : cs_S) (o : Nat) (p1 : Int32) (p2 : Int32) : Prop := cs_k S o = 13 ∧ ∀ r19, r19 = cs_r S 1206 o → ∃ b20, r19 = some b20 ∧ cs_k S b20 = 12 ∧ wp_X10_latestAt (fun r21 S21 => (r21 = none → 0 + 1 ≤ mc ∧ 0 + 6 ≤ ms ∧ postx S21) ∧ (∀ b23, r21 = some b23 → (p2.toInt < 0 ∨ 3 < p2.toInt → 0 + 1 ≤ mc ∧ 0 + 6 ≤ ms ∧ postx S21) ∧ (p2.toInt = 0 → cs_k S21 b23 = 5 ∧ post (cs_i S21 400 b23) S21) ∧ (p2.toInt = 1 → cs_k S21 b23 = 5 ∧ wp_X11_lettersOf (fun r26 S26 => post r26 S26) G S21 (cs_l S21 401 b23)) ∧ (p2.toInt = 2 → cs_k S21 b23 = 5 ∧ ∀ r28, r28 = cs_r S21 403 b23 → ∃ b29, r28 = some b29 ∧ cs_k S21 b29 = 21 ∧ post (Int32.ofNat (cs_n S21 b29)) S21) ∧ (p2.toInt = 3 → cs_k S21 b23 = 5 ∧ post (cs_i S21 402 b23) S21))) G S b20 p1
set_option maxRecDepth 100000 in
set_option maxHeartbeats 4000000 in
theorem c_X11_event {l : Launch} {P : hw_G} {G : Nat → Nat} {S : cs_S} {sz : Nat} {mc ms : Nat} {o : Nat} {p1 : Int32} {p2 : Int32} {post : Int32 → cs_S → Prop} {postx : cs_S → Prop} (hlx : l.stackTraces = false) (h : wp_X11_event post postx G mc ms S o p1 p2) : vx_Met l yX11_event [Cond.code yX11_event cX11_event 4 (some .int)] (rm_X11_event mc ms) (cs_Pc P G S sz [.ref o, .int p1, .int p2]) (cs_Qi P (cs_A S sz) post) (cs_X P (cs_A S sz) postx) mc ms (cs_A S sz) := by
  refine cs_metx (by decide) rfl (Nat.le_of_ble_eq_true rfl) ?_
  intro p e s m below meth c ls hC hin hO htb hT hl
  obtain ⟨hx, hb, hml, hown, hK, -, -⟩ := id hC
  replace hl : lv_has ls 4 [(0, .ref o), (1, .int p1), (2, .int p2)] := hl
  refine lv_aload_n (x := o) hx hb dX11_event_0 rfl (lv_at hl 0 rfl) ?_
  obtain ⟨hk18_, h⟩ := h
  refine cs_get hx hb hK hT hown 12 hk18_ (by decide) rfl 6 (by decide) kfX11_38 (v := va_rf (cs_r S 1206 o)) rfl dX11_event_1 ?_
  refine hw_topr (fun r19 er19 => ?_)
  replace h := h r19 er19
  refine lv_iload_n hx hb dX11_event_4 rfl (lv_at hl 1 rfl) ?_
  obtain ⟨b20, rfl, h⟩ := h
  obtain ⟨hk22_, h⟩ := h
  refine cs_callr0 (cs_runV hx hb hml hown hK hO hT 11 hk22_ (by decide) rfl (c_X10_latestAt h) rfl rfl klX11_189 ki_X10_latestAt ks_X10_latestAt kn_X10 kc_X10_latestAt 1 ⟨rfl, by decide, by decide, by decide +kernel⟩ ⟨Nat.le_of_ble_eq_true rfl, Nat.le_of_ble_eq_true rfl⟩ rfl hl.1 rfl (hw_cat8 (Nat.le_of_ble_eq_true rfl)) ⟨(Nat.zero_le _), (Nat.zero_le _)⟩ dX11_event_5) hT (fun r21 S21 H locs h_ hT_ => ?_)
  replace h := h_
  replace hT := hT_
  refine hw_astore_n (lv' := [(3, _), (0, _), (1, _), (2, _)]) (x := r21) hx hb dX11_event_8 rfl hl (by decide) rfl (fun ls hl_ => ?_)
  replace hl := hl_
  refine hw_aload_n (x := r21) hx hb dX11_event_9 rfl (lv_at hl 0 rfl) ?_
  refine hw_ifnonnull (tgt := 23) hx hb dX11_event_10 (by decide) (fun b23 hc => ?_) (fun hc => ?_)
  · replace h := h.2 b23 hc
    subst hc
    refine lv_iload_n hx hb dX11_event_23 rfl (lv_at hl 3 rfl) ?_
    by_cases hz : p2.toInt < 0 ∨ 3 < p2.toInt
    · replace h := h.1 hz
      refine lv_tableOut (tgt := 80) hx hb dX11_event_24 hz (by decide) ?_
      exact cs_throw hC hO hT hl.1 hlx htb 8 rfl dX11_event_80 dX11_event_83 dX11_event_84 dX11_event_86 dX11_event_89 (Nat.le_of_ble_eq_true rfl) (Nat.le_of_ble_eq_true rfl) h.1 h.2.1 h.1 h.2.1 h.2.2
    have hz : p2.toInt = 0 ∨ p2.toInt = 1 ∨ p2.toInt = 2 ∨ p2.toInt = 3 := by omega
    rcases hz with hz | hz | hz | hz
    · replace h := h.2.1 hz
      refine hw_tab (tgt := 56) hx hb hz dX11_event_24 (by decide) (by decide) (off := 32) rfl (by decide) ?_
      refine lv_aload_n (x := b23) hx hb dX11_event_56 rfl (lv_at hl 0 rfl) ?_
      obtain ⟨hk24_, h⟩ := h
      refine cs_get hx hb hK hT hown 4 hk24_ (by decide) rfl 0 (by decide) kfX11_96 (v := .int (cs_i S21 400 b23)) rfl dX11_event_57 ?_
      exact vx_ret (cs_iret hC hT h dX11_event_60 (Nat.zero_le _) (Nat.zero_le _))
    · replace h := h.2.2.1 hz
      refine hw_tab (tgt := 61) hx hb hz dX11_event_24 (by decide) (by decide) (off := 37) rfl (by decide) ?_
      refine lv_aload_n (x := b23) hx hb dX11_event_61 rfl (lv_at hl 0 rfl) ?_
      obtain ⟨hk25_, h⟩ := h
      refine cs_get hx hb hK hT hown 4 hk25_ (by decide) rfl 1 (by decide) kfX11_195 (v := .long (cs_l S21 401 b23)) rfl dX11_event_62 ?_
      refine cs_calli0 (cs_runS hx hb hml hown hK hO hT (c_X11_lettersOf h) rfl rfl klX11_199 ki_X11_lettersOf kn_X11 kc_X11_lettersOf 1 ⟨by decide, by decide, by decide +kernel⟩ ⟨Nat.le_of_ble_eq_true rfl, Nat.le_of_ble_eq_true rfl⟩ rfl hl.1 rfl (hw_cat8 (Nat.le_of_ble_eq_true rfl)) ⟨(Nat.zero_le _), (Nat.zero_le _)⟩ dX11_event_65) hT (fun r26 S26 H locs h_ hT_ => ?_)
      replace h := h_
      replace hT := hT_
      exact vx_ret (cs_iret hC hT h dX11_event_68 (Nat.zero_le _) (Nat.zero_le _))
    · replace h := h.2.2.2.1 hz
      refine hw_tab (tgt := 69) hx hb hz dX11_event_24 (by decide) (by decide) (off := 45) rfl (by decide) ?_
      refine lv_aload_n (x := b23) hx hb dX11_event_69 rfl (lv_at hl 0 rfl) ?_
      obtain ⟨hk27_, h⟩ := h
      refine cs_get hx hb hK hT hown 4 hk27_ (by decide) rfl 3 (by decide) kfX11_203 (v := va_rf (cs_r S21 403 b23)) rfl dX11_event_70 ?_
      refine hw_topr (fun r28 er28 => ?_)
      replace h := h r28 er28
      obtain ⟨b29, rfl, h⟩ := h
      obtain ⟨hk30_, h⟩ := h
      refine cs_alen hx hb hK hT 21 hk30_ (by decide) (by decide) dX11_event_73 ?_
      exact vx_ret (cs_iret hC hT h dX11_event_74 (Nat.zero_le _) (Nat.zero_le _))
    · replace h := h.2.2.2.2 hz
      refine hw_tab (tgt := 75) hx hb hz dX11_event_24 (by decide) (by decide) (off := 51) rfl (by decide) ?_
      refine lv_aload_n (x := b23) hx hb dX11_event_75 rfl (lv_at hl 0 rfl) ?_
      obtain ⟨hk31_, h⟩ := h
      refine cs_get hx hb hK hT hown 4 hk31_ (by decide) rfl 2 (by decide) kfX11_207 (v := .int (cs_i S21 402 b23)) rfl dX11_event_76 ?_
      exact vx_ret (cs_iret hC hT h dX11_event_79 (Nat.zero_le _) (Nat.zero_le _))
  · replace h := h.1 hc
    subst hc
    exact cs_throw hC hO hT hl.1 hlx htb 7 rfl dX11_event_13 dX11_event_16 dX11_event_17 dX11_event_19 dX11_event_22 (Nat.le_of_ble_eq_true rfl) (Nat.le_of_ble_eq_true rfl) h.1 h.2.1 h.1 h.2.1 h.2.2
/-! X11_pack -/
abbrev rm_X11_pack (mc ms : Nat) : Room := { frames := 6, cells := mc, slots := ms, locals := 94 }
def w_X11_pack_40 (post : Int32 → cs_S → Prop) (postx : cs_S → Prop) (G : Nat → Nat) (mc ms : Nat) (S : cs_S) (u v : Nat)  : Prop := u ≤ mc ∧ v ≤ ms ∧ u + 1 ≤ mc ∧ v + 6 ≤ ms ∧ postx S
section
variable {p : Program} {l : Launch} {e : Env} {s : State} {m : MethodId} {args : Array Value} {below : List Frame} {meth : Method} {c : Code} {P : hw_G} {G : Nat → Nat} {A : Nat → Prop}
set_option maxRecDepth 100000 in
set_option maxHeartbeats 4000000 in
theorem t_X11_pack_40 {post : Int32 → cs_S → Prop} {postx : cs_S → Prop} {mc ms : Nat} (hC : rf_C P RX11 p s m meth c cX11_pack 4 (some .int)) (hin : meth.name = yX11_pack.name) (hO : cs_O G A s s.heap) (hlx : l.stackTraces = false) (htb : ∀ x ∈ c.exceptionTable.toList, False) (S : cs_S) (u v : Nat)  (H : Heap) (locs : List Loc) (ls : Array Slot) (h : w_X11_pack_40 post postx G mc ms S u v ) (hT : cs_T P s A S H locs) (hl : lv_has ls 4 []) : W p l e (rm_X11_pack mc ms) s m args below meth c H locs u v (vx_MQ below (cs_Qi P A post) (cs_X P A postx) args s mc ms A) (F0 m 40 ls []) := by
  obtain ⟨hx, hb, hml, hown, hK, -, -⟩ := id hC
  obtain ⟨hu, hv, h⟩ := h
  exact cs_throw hC hO hT hl.1 hlx htb 9 rfl dX11_pack_40 dX11_pack_43 dX11_pack_44 dX11_pack_46 dX11_pack_49 (Nat.le_of_ble_eq_true rfl) (Nat.le_of_ble_eq_true rfl) h.1 h.2.1 h.1 h.2.1 h.2.2
end
def w_X11_pack_67 (post : Int32 → cs_S → Prop) (postx : cs_S → Prop) (G : Nat → Nat) (mc ms : Nat) (S : cs_S) (u v : Nat) (x0 : Nat) (y0 : Option Nat) (y1 : Option Nat) (y2 : Int32) : Prop := u ≤ mc ∧ v ≤ ms ∧ ∃ b22, y0 = some b22 ∧ cs_k S b22 = 8 ∧ wp_X6_packEvent (fun S23 => cs_k S23 x0 = 13 ∧ ∀ r26, r26 = cs_r S23 1205 x0 → ∃ b27, r26 = some b27 ∧ cs_k S23 b27 = 8 ∧ post (cs_i S23 703 b27) S23) G S b22 y1 y2
section
variable {p : Program} {l : Launch} {e : Env} {s : State} {m : MethodId} {args : Array Value} {below : List Frame} {meth : Method} {c : Code} {P : hw_G} {G : Nat → Nat} {A : Nat → Prop}
set_option maxRecDepth 100000 in
set_option maxHeartbeats 4000000 in
theorem t_X11_pack_67 {post : Int32 → cs_S → Prop} {postx : cs_S → Prop} {mc ms : Nat} (hC : rf_C P RX11 p s m meth c cX11_pack 4 (some .int)) (hin : meth.name = yX11_pack.name) (hO : cs_O G A s s.heap) (hlx : l.stackTraces = false) (htb : ∀ x ∈ c.exceptionTable.toList, False) (S : cs_S) (u v : Nat) (x0 : Nat) (y0 : Option Nat) (y1 : Option Nat) (y2 : Int32) (H : Heap) (locs : List Loc) (ls : Array Slot) (h : w_X11_pack_67 post postx G mc ms S u v x0 y0 y1 y2) (hT : cs_T P s A S H locs) (hl : lv_has ls 4 [(0, .ref x0)]) : W p l e (rm_X11_pack mc ms) s m args below meth c H locs u v (vx_MQ below (cs_Qi P A post) (cs_X P A postx) args s mc ms A) (F0 m 67 ls [.int y2, va_rf y1, va_rf y0]) := by
  obtain ⟨hx, hb, hml, hown, hK, -, -⟩ := id hC
  obtain ⟨hu, hv, h⟩ := h
  obtain ⟨b22, rfl, h⟩ := h
  obtain ⟨hk24_, h⟩ := h
  refine cs_callv0 (cs_runV hx hb hml hown hK hO hT 7 hk24_ (by decide) rfl (c_X6_packEvent h) rfl rfl klX11_214 ki_X6_packEvent ks_X6_packEvent kn_X6 kc_X6_packEvent 2 ⟨rfl, by decide, by decide, by decide +kernel⟩ ⟨Nat.le_of_ble_eq_true rfl, Nat.le_of_ble_eq_true rfl⟩ rfl hl.1 rfl (hw_cat8 (Nat.le_of_ble_eq_true rfl)) ⟨hu, hv⟩ dX11_pack_67) hT (fun S23 H locs h_ hT_ => ?_)
  replace h := h_
  replace hT := hT_
  refine lv_aload_n (x := x0) hx hb dX11_pack_70 rfl (lv_at hl 0 rfl) ?_
  obtain ⟨hk25_, h⟩ := h
  refine cs_get hx hb hK hT hown 12 hk25_ (by decide) rfl 5 (by decide) kfX11_27 (v := va_rf (cs_r S23 1205 x0)) rfl dX11_pack_71 ?_
  refine hw_topr (fun r26 er26 => ?_)
  replace h := h r26 er26
  obtain ⟨b27, rfl, h⟩ := h
  obtain ⟨hk28_, h⟩ := h
  refine cs_get hx hb hK hT hown 7 hk28_ (by decide) rfl 3 (by decide) kfX11_123 (v := .int (cs_i S23 703 b27)) rfl dX11_pack_74 ?_
  exact vx_ret (cs_iret hC hT h dX11_pack_77 hu hv)
end
def w_X11_pack_50 (post : Int32 → cs_S → Prop) (postx : cs_S → Prop) (G : Nat → Nat) (mc ms : Nat) (S : cs_S) (u v : Nat) (x0 : Nat) (x2 : Option Nat) (x3 : Option Nat) : Prop := u ≤ mc ∧ v ≤ ms ∧ cs_k S x0 = 13 ∧ ∀ r30, r30 = cs_r S 1205 x0 → (x3 = none → w_X11_pack_67 post postx G mc ms S u v x0 r30 x2 0) ∧ (∀ b31, x3 = some b31 → cs_k S b31 = 5 ∧ w_X11_pack_67 post postx G mc ms S u v x0 r30 x2 (cs_i S 400 b31))
section
variable {p : Program} {l : Launch} {e : Env} {s : State} {m : MethodId} {args : Array Value} {below : List Frame} {meth : Method} {c : Code} {P : hw_G} {G : Nat → Nat} {A : Nat → Prop}
set_option maxRecDepth 100000 in
set_option maxHeartbeats 4000000 in
theorem t_X11_pack_50 {post : Int32 → cs_S → Prop} {postx : cs_S → Prop} {mc ms : Nat} (hC : rf_C P RX11 p s m meth c cX11_pack 4 (some .int)) (hin : meth.name = yX11_pack.name) (hO : cs_O G A s s.heap) (hlx : l.stackTraces = false) (htb : ∀ x ∈ c.exceptionTable.toList, False) (S : cs_S) (u v : Nat) (x0 : Nat) (x2 : Option Nat) (x3 : Option Nat) (H : Heap) (locs : List Loc) (ls : Array Slot) (h : w_X11_pack_50 post postx G mc ms S u v x0 x2 x3) (hT : cs_T P s A S H locs) (hl : lv_has ls 4 [(0, .ref x0), (2, va_rf x2), (3, va_rf x3)]) : W p l e (rm_X11_pack mc ms) s m args below meth c H locs u v (vx_MQ below (cs_Qi P A post) (cs_X P A postx) args s mc ms A) (F0 m 50 ls []) := by
  obtain ⟨hx, hb, hml, hown, hK, -, -⟩ := id hC
  obtain ⟨hu, hv, h⟩ := h
  refine lv_aload_n (x := x0) hx hb dX11_pack_50 rfl (lv_at hl 0 rfl) ?_
  obtain ⟨hk29_, h⟩ := h
  refine cs_get hx hb hK hT hown 12 hk29_ (by decide) rfl 5 (by decide) kfX11_27 (v := va_rf (cs_r S 1205 x0)) rfl dX11_pack_51 ?_
  refine hw_topr (fun r30 er30 => ?_)
  replace h := h r30 er30
  refine hw_aload_n (x := x2) hx hb dX11_pack_54 rfl (lv_at hl 1 rfl) ?_
  refine hw_aload_n (x := x3) hx hb dX11_pack_55 rfl (lv_at hl 2 rfl) ?_
  refine hw_ifnonnull (tgt := 63) hx hb dX11_pack_56 (by decide) (fun b31 hc => ?_) (fun hc => ?_)
  · replace h := h.2 b31 hc
    subst hc
    refine lv_aload_n (x := b31) hx hb dX11_pack_63 rfl (lv_at hl 2 rfl) ?_
    obtain ⟨hk32_, h⟩ := h
    refine cs_get hx hb hK hT hown 4 hk32_ (by decide) rfl 0 (by decide) kfX11_96 (v := .int (cs_i S 400 b31)) rfl dX11_pack_64 ?_
    exact t_X11_pack_67 hC hin hO hlx htb S u v x0 r30 x2 (cs_i S 400 b31) _ _ _ h hT (lv_sub hl [0] rfl)
  · replace h := h.1 hc
    subst hc
    refine lv_iconst (v := 0) hx hb dX11_pack_59 (by decide) ?_
    refine lv_goto (tgt := 67) hx hb dX11_pack_60 (by decide) ?_
    exact t_X11_pack_67 hC hin hO hlx htb S u v x0 r30 x2 0 _ _ _ h hT (lv_sub hl [0] rfl)
end
def w_X11_pack_27 (post : Int32 → cs_S → Prop) (postx : cs_S → Prop) (G : Nat → Nat) (mc ms : Nat) (S : cs_S) (u v : Nat) (x0 : Nat) (x1 : Int32) (x2 : Option Nat) (y0 : Option Nat) : Prop := u ≤ mc ∧ v ≤ ms ∧ (x2 = none → w_X11_pack_40 post postx G mc ms S u v) ∧ (∀ b33, x2 = some b33 → (x1 = 0 → w_X11_pack_50 post postx G mc ms S u v x0 (some b33) y0) ∧ (¬ x1 = 0 → (y0 = none → w_X11_pack_40 post postx G mc ms S u v) ∧ (∀ b34, y0 = some b34 → w_X11_pack_50 post postx G mc ms S u v x0 (some b33) (some b34))))
section
variable {p : Program} {l : Launch} {e : Env} {s : State} {m : MethodId} {args : Array Value} {below : List Frame} {meth : Method} {c : Code} {P : hw_G} {G : Nat → Nat} {A : Nat → Prop}
set_option maxRecDepth 100000 in
set_option maxHeartbeats 4000000 in
theorem t_X11_pack_27 {post : Int32 → cs_S → Prop} {postx : cs_S → Prop} {mc ms : Nat} (hC : rf_C P RX11 p s m meth c cX11_pack 4 (some .int)) (hin : meth.name = yX11_pack.name) (hO : cs_O G A s s.heap) (hlx : l.stackTraces = false) (htb : ∀ x ∈ c.exceptionTable.toList, False) (S : cs_S) (u v : Nat) (x0 : Nat) (x1 : Int32) (x2 : Option Nat) (y0 : Option Nat) (H : Heap) (locs : List Loc) (ls : Array Slot) (h : w_X11_pack_27 post postx G mc ms S u v x0 x1 x2 y0) (hT : cs_T P s A S H locs) (hl : lv_has ls 4 [(0, .ref x0), (1, .int x1), (2, va_rf x2)]) : W p l e (rm_X11_pack mc ms) s m args below meth c H locs u v (vx_MQ below (cs_Qi P A post) (cs_X P A postx) args s mc ms A) (F0 m 27 ls [va_rf y0]) := by
  obtain ⟨hx, hb, hml, hown, hK, -, -⟩ := id hC
  obtain ⟨hu, hv, h⟩ := h
  refine hw_astore_n (lv' := [(3, _), (0, _), (1, _), (2, _)]) (x := y0) hx hb dX11_pack_27 rfl hl (by decide) (congrArg (List.cons _) ((hw_flt (fun q hq => by simp only [List.mem_cons, List.not_mem_nil, or_false] at hq; rcases hq with rfl | rfl | rfl <;> first | exact fun _ => rfl | exact fun _ => va_rf_cat _ | (intro h; simp at h))).trans rfl)) (fun ls hl_ => ?_)
  replace hl := hl_
  refine hw_aload_n (x := x2) hx hb dX11_pack_28 rfl (lv_at hl 3 rfl) ?_
  refine hw_ifnull (tgt := 40) hx hb dX11_pack_29 (by decide) (fun hc => ?_) (fun b33 hc => ?_)
  · replace h := h.1 hc
    subst hc
    exact t_X11_pack_40 hC hin hO hlx htb S u v _ _ _ h hT (lv_sub hl [] rfl)
  · replace h := h.2 b33 hc
    subst hc
    refine lv_iload_n hx hb dX11_pack_32 rfl (lv_at hl 2 rfl) ?_
    refine lv_if_eq (tgt := 50) hx hb dX11_pack_33 (by decide) (fun hc => ?_) (fun hc => ?_)
    · replace h := h.1 hc
      exact t_X11_pack_50 hC hin hO hlx htb S u v x0 (some b33) y0 _ _ _ h hT (lv_sub hl [1, 3, 0] rfl)
    · replace h := h.2 hc
      refine hw_aload_n (x := y0) hx hb dX11_pack_36 rfl (lv_at hl 0 rfl) ?_
      refine hw_ifnonnull (tgt := 50) hx hb dX11_pack_37 (by decide) (fun b34 hc => ?_) (fun hc => ?_)
      · replace h := h.2 b34 hc
        subst hc
        exact t_X11_pack_50 hC hin hO hlx htb S u v x0 (some b33) (some b34) _ _ _ h hT (lv_sub hl [1, 3, 0] rfl)
      · replace h := h.1 hc
        subst hc
        exact t_X11_pack_40 hC hin hO hlx htb S u v _ _ _ h hT (lv_sub hl [] rfl)
end
def wp_X11_pack (post : Int32 → cs_S → Prop) (postx : cs_S → Prop) (G : Nat → Nat) (mc ms : Nat) (S : cs_S) (o : Nat) (p1 : Int32) : Prop := cs_k S o = 13 ∧ ∀ r36, r36 = cs_r S 1206 o → ∃ b37, r36 = some b37 ∧ cs_k S b37 = 12 ∧ wp_X10_latestAt (fun r38 S38 => (¬ p1 = 0 → cs_k S38 o = 13 ∧ ∀ r41, r41 = cs_r S38 1206 o → ∃ b42, r41 = some b42 ∧ cs_k S38 b42 = 12 ∧ wp_X10_latestAt (fun r43 S43 => w_X11_pack_27 post postx G mc ms S43 0 0 o p1 r38 r43) G S38 b42 (p1 - 1)) ∧ (p1 = 0 → w_X11_pack_27 post postx G mc ms S38 0 0 o p1 r38 none)) G S b37 p1
set_option maxRecDepth 100000 in
set_option maxHeartbeats 4000000 in
theorem c_X11_pack {l : Launch} {P : hw_G} {G : Nat → Nat} {S : cs_S} {sz : Nat} {mc ms : Nat} {o : Nat} {p1 : Int32} {post : Int32 → cs_S → Prop} {postx : cs_S → Prop} (hlx : l.stackTraces = false) (h : wp_X11_pack post postx G mc ms S o p1) : vx_Met l yX11_pack [Cond.code yX11_pack cX11_pack 4 (some .int)] (rm_X11_pack mc ms) (cs_Pc P G S sz [.ref o, .int p1]) (cs_Qi P (cs_A S sz) post) (cs_X P (cs_A S sz) postx) mc ms (cs_A S sz) := by
  refine cs_metx (by decide) rfl (Nat.le_of_ble_eq_true rfl) ?_
  intro p e s m below meth c ls hC hin hO htb hT hl
  obtain ⟨hx, hb, hml, hown, hK, -, -⟩ := id hC
  replace hl : lv_has ls 4 [(0, .ref o), (1, .int p1)] := hl
  refine lv_aload_n (x := o) hx hb dX11_pack_0 rfl (lv_at hl 0 rfl) ?_
  obtain ⟨hk35_, h⟩ := h
  refine cs_get hx hb hK hT hown 12 hk35_ (by decide) rfl 6 (by decide) kfX11_38 (v := va_rf (cs_r S 1206 o)) rfl dX11_pack_1 ?_
  refine hw_topr (fun r36 er36 => ?_)
  replace h := h r36 er36
  refine lv_iload_n hx hb dX11_pack_4 rfl (lv_at hl 1 rfl) ?_
  obtain ⟨b37, rfl, h⟩ := h
  obtain ⟨hk39_, h⟩ := h
  refine cs_callr0 (cs_runV hx hb hml hown hK hO hT 11 hk39_ (by decide) rfl (c_X10_latestAt h) rfl rfl klX11_189 ki_X10_latestAt ks_X10_latestAt kn_X10 kc_X10_latestAt 1 ⟨rfl, by decide, by decide, by decide +kernel⟩ ⟨Nat.le_of_ble_eq_true rfl, Nat.le_of_ble_eq_true rfl⟩ rfl hl.1 rfl (hw_cat8 (Nat.le_of_ble_eq_true rfl)) ⟨(Nat.zero_le _), (Nat.zero_le _)⟩ dX11_pack_5) hT (fun r38 S38 H locs h_ hT_ => ?_)
  replace h := h_
  replace hT := hT_
  refine hw_astore_n (lv' := [(2, _), (0, _), (1, _)]) (x := r38) hx hb dX11_pack_8 rfl hl (by decide) rfl (fun ls hl_ => ?_)
  replace hl := hl_
  refine lv_iload_n hx hb dX11_pack_9 rfl (lv_at hl 2 rfl) ?_
  refine lv_if_ne (tgt := 17) hx hb dX11_pack_10 (by decide) (fun hc => ?_) (fun hc => ?_)
  · replace h := h.1 hc
    refine lv_aload_n (x := o) hx hb dX11_pack_17 rfl (lv_at hl 1 rfl) ?_
    obtain ⟨hk40_, h⟩ := h
    refine cs_get hx hb hK hT hown 12 hk40_ (by decide) rfl 6 (by decide) kfX11_38 (v := va_rf (cs_r S38 1206 o)) rfl dX11_pack_18 ?_
    refine hw_topr (fun r41 er41 => ?_)
    replace h := h r41 er41
    refine lv_iload_n hx hb dX11_pack_21 rfl (lv_at hl 2 rfl) ?_
    refine lv_iconst (v := 1) hx hb dX11_pack_22 (by decide) ?_
    refine lv_isub hx hb dX11_pack_23 ?_
    obtain ⟨b42, rfl, h⟩ := h
    obtain ⟨hk44_, h⟩ := h
    refine cs_callr0 (cs_runV hx hb hml hown hK hO hT 11 hk44_ (by decide) rfl (c_X10_latestAt h) rfl rfl klX11_189 ki_X10_latestAt ks_X10_latestAt kn_X10 kc_X10_latestAt 1 ⟨rfl, by decide, by decide, by decide +kernel⟩ ⟨Nat.le_of_ble_eq_true rfl, Nat.le_of_ble_eq_true rfl⟩ rfl hl.1 rfl (hw_cat8 (Nat.le_of_ble_eq_true rfl)) ⟨(Nat.zero_le _), (Nat.zero_le _)⟩ dX11_pack_24) hT (fun r43 S43 H locs h_ hT_ => ?_)
    replace h := h_
    replace hT := hT_
    exact t_X11_pack_27 hC hin hO hlx htb S43 0 0 o p1 r38 r43 _ _ _ h hT (lv_sub hl [1, 2, 0] rfl)
  · replace h := h.2 hc
    refine hw_null hx hb dX11_pack_13 ?_
    refine lv_goto (tgt := 27) hx hb dX11_pack_14 (by decide) ?_
    exact t_X11_pack_27 hC hin hO hlx htb S38 0 0 o p1 r38 none _ _ _ h hT (lv_sub hl [1, 2, 0] rfl)
/-! X11_octet -/
abbrev rm_X11_octet (mc ms : Nat) : Room := { frames := 6, cells := mc, slots := ms, locals := 82 }
def w_X11_octet_15 (post : Int32 → cs_S → Prop) (postx : cs_S → Prop) (G : Nat → Nat) (mc ms : Nat) (S : cs_S) (u v : Nat)  : Prop := u ≤ mc ∧ v ≤ ms ∧ u + 1 ≤ mc ∧ v + 6 ≤ ms ∧ postx S
section
variable {p : Program} {l : Launch} {e : Env} {s : State} {m : MethodId} {args : Array Value} {below : List Frame} {meth : Method} {c : Code} {P : hw_G} {G : Nat → Nat} {A : Nat → Prop}
set_option maxRecDepth 100000 in
set_option maxHeartbeats 4000000 in
theorem t_X11_octet_15 {post : Int32 → cs_S → Prop} {postx : cs_S → Prop} {mc ms : Nat} (hC : rf_C P RX11 p s m meth c cX11_octet 2 (some .int)) (hin : meth.name = yX11_octet.name) (hO : cs_O G A s s.heap) (hlx : l.stackTraces = false) (htb : ∀ x ∈ c.exceptionTable.toList, False) (S : cs_S) (u v : Nat)  (H : Heap) (locs : List Loc) (ls : Array Slot) (h : w_X11_octet_15 post postx G mc ms S u v ) (hT : cs_T P s A S H locs) (hl : lv_has ls 2 []) : W p l e (rm_X11_octet mc ms) s m args below meth c H locs u v (vx_MQ below (cs_Qi P A post) (cs_X P A postx) args s mc ms A) (F0 m 15 ls []) := by
  obtain ⟨hx, hb, hml, hown, hK, -, -⟩ := id hC
  obtain ⟨hu, hv, h⟩ := h
  exact cs_throw hC hO hT hl.1 hlx htb 10 rfl dX11_octet_15 dX11_octet_18 dX11_octet_19 dX11_octet_21 dX11_octet_24 (Nat.le_of_ble_eq_true rfl) (Nat.le_of_ble_eq_true rfl) h.1 h.2.1 h.1 h.2.1 h.2.2
end
def wp_X11_octet (post : Int32 → cs_S → Prop) (postx : cs_S → Prop) (G : Nat → Nat) (mc ms : Nat) (S : cs_S) (o : Nat) (p1 : Int32) : Prop := (p1 < 0 → w_X11_octet_15 post postx G mc ms S 0 0) ∧ (¬ p1 < 0 → cs_k S o = 13 ∧ ∀ r12, r12 = cs_r S 1205 o → ∃ b13, r12 = some b13 ∧ cs_k S b13 = 8 ∧ (p1 < (cs_i S 703 b13) → ∀ r15, r15 = cs_r S 1205 o → ∃ b16, r15 = some b16 ∧ cs_k S b16 = 8 ∧ ∀ r18, r18 = cs_r S 702 b16 → ∃ b19, r18 = some b19 ∧ cs_k S b19 = 20 ∧ vp_in p1 (cs_n S b19) ∧ post (cs_ai S b19 p1.toNatClampNeg) S) ∧ (¬ p1 < (cs_i S 703 b13) → w_X11_octet_15 post postx G mc ms S 0 0))
set_option maxRecDepth 100000 in
set_option maxHeartbeats 4000000 in
theorem c_X11_octet {l : Launch} {P : hw_G} {G : Nat → Nat} {S : cs_S} {sz : Nat} {mc ms : Nat} {o : Nat} {p1 : Int32} {post : Int32 → cs_S → Prop} {postx : cs_S → Prop} (hlx : l.stackTraces = false) (h : wp_X11_octet post postx G mc ms S o p1) : vx_Met l yX11_octet [Cond.code yX11_octet cX11_octet 2 (some .int)] (rm_X11_octet mc ms) (cs_Pc P G S sz [.ref o, .int p1]) (cs_Qi P (cs_A S sz) post) (cs_X P (cs_A S sz) postx) mc ms (cs_A S sz) := by
  refine cs_metx (by decide) rfl (Nat.le_of_ble_eq_true rfl) ?_
  intro p e s m below meth c ls hC hin hO htb hT hl
  obtain ⟨hx, hb, hml, hown, hK, -, -⟩ := id hC
  replace hl : lv_has ls 2 [(0, .ref o), (1, .int p1)] := hl
  refine lv_iload_n hx hb dX11_octet_0 rfl (lv_at hl 1 rfl) ?_
  refine lv_if_lt (tgt := 15) hx hb dX11_octet_1 (by decide) (fun hc => ?_) (fun hc => ?_)
  · replace h := h.1 hc
    exact t_X11_octet_15 hC hin hO hlx htb S 0 0 _ _ _ h hT (lv_sub hl [] rfl)
  · replace h := h.2 hc
    refine lv_iload_n hx hb dX11_octet_4 rfl (lv_at hl 1 rfl) ?_
    refine lv_aload_n (x := o) hx hb dX11_octet_5 rfl (lv_at hl 0 rfl) ?_
    obtain ⟨hk11_, h⟩ := h
    refine cs_get hx hb hK hT hown 12 hk11_ (by decide) rfl 5 (by decide) kfX11_27 (v := va_rf (cs_r S 1205 o)) rfl dX11_octet_6 ?_
    refine hw_topr (fun r12 er12 => ?_)
    replace h := h r12 er12
    obtain ⟨b13, rfl, h⟩ := h
    obtain ⟨hk14_, h⟩ := h
    refine cs_get hx hb hK hT hown 7 hk14_ (by decide) rfl 3 (by decide) kfX11_123 (v := .int (cs_i S 703 b13)) rfl dX11_octet_9 ?_
    refine lv_icmp_lt (tgt := 25) hx hb dX11_octet_12 (by decide) (fun hc => ?_) (fun hc => ?_)
    · replace h := h.1 hc
      refine lv_aload_n (x := o) hx hb dX11_octet_25 rfl (lv_at hl 0 rfl) ?_
      refine cs_get hx hb hK hT hown 12 hk11_ (by decide) rfl 5 (by decide) kfX11_27 (v := va_rf (cs_r S 1205 o)) rfl dX11_octet_26 ?_
      refine hw_topr (fun r15 er15 => ?_)
      replace h := h r15 er15
      obtain ⟨b16, rfl, h⟩ := h
      obtain ⟨hk17_, h⟩ := h
      refine cs_get hx hb hK hT hown 7 hk17_ (by decide) rfl 2 (by decide) kfX11_220 (v := va_rf (cs_r S 702 b16)) rfl dX11_octet_29 ?_
      refine hw_topr (fun r18 er18 => ?_)
      replace h := h r18 er18
      refine lv_iload_n hx hb dX11_octet_32 rfl (lv_at hl 1 rfl) ?_
      obtain ⟨b19, rfl, h⟩ := h
      obtain ⟨hk20_, h⟩ := h
      obtain ⟨hi, h⟩ := h
      refine cs_iald hx hb hK hT hk20_ hi dX11_octet_33 ?_
      exact vx_ret (cs_iret hC hT h dX11_octet_34 (Nat.zero_le _) (Nat.zero_le _))
    · replace h := h.2 hc
      exact t_X11_octet_15 hC hin hO hlx htb S 0 0 _ _ _ h hT (lv_sub hl [] rfl)
