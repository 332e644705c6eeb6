/-! X7_findCount -/
abbrev rm_X7_findCount (mc ms : Nat) : Room := { frames := 2, cells := mc, slots := ms, locals := 48 }
def w_X7_findCount_137 (post : Int32 → cs_S → Prop) (G : Nat → Nat) (mc ms : Nat) (S : cs_S) (u v : Nat) (y0 : Int32) : Prop := u ≤ mc ∧ v ≤ ms ∧ post y0 S
section
variable {p : Program} {l : Launch} {e : Env} {s : State} {m : MethodId} {args : Array Value} {below : List Frame} {meth : Method} {c : Code} {P : hw_G} {G : Nat → Nat} {A : Nat → Prop}
set_option maxRecDepth 100000 in
set_option maxHeartbeats 4000000 in
theorem t_X7_findCount_137 {post : Int32 → cs_S → Prop} {mc ms : Nat} (hC : rf_C P RX7 p s m meth c cX7_findCount 4 (some .int)) (hin : meth.name = yX7_findCount.name) (hO : cs_O G A s s.heap) (S : cs_S) (u v : Nat) (y0 : Int32) (H : Heap) (locs : List Loc) (ls : Array Slot) (h : w_X7_findCount_137 post G mc ms S u v y0) (hT : cs_T P s A S H locs) (hl : lv_has ls 4 []) : W p l e (rm_X7_findCount mc ms) s m args below meth c H locs u v (MQ below (cs_Qi P A post) args s mc ms A) (F0 m 137 ls [.int y0]) := by
  obtain ⟨hx, hb, hml, hown, hK, -, -⟩ := id hC
  obtain ⟨hu, hv, h⟩ := h
  exact cs_iret hC hT h dX7_findCount_137 hu hv
end
def w_X7_findCount_118 (post : Int32 → cs_S → Prop) (G : Nat → Nat) (mc ms : Nat) (S : cs_S) (u v : Nat) (x1 : Option Nat) (y0 : Int32) : Prop := u ≤ mc ∧ v ≤ ms ∧ (y0 = 0 → w_X7_findCount_137 post G mc ms S u v ((-1))) ∧ (¬ y0 = 0 → ∃ b34, x1 = some b34 ∧ cs_k S b34 = 6 ∧ ∀ r36, r36 = cs_r S 507 b34 → ∃ b37, r36 = some b37 ∧ cs_k S b37 = 4 ∧ ∀ r39, r39 = cs_r S 300 b37 → ∃ b40, r39 = some b40 ∧ cs_k S b40 = 5 ∧ w_X7_findCount_137 post G mc ms S u v (cs_i S 405 b40))
section
variable {p : Program} {l : Launch} {e : Env} {s : State} {m : MethodId} {args : Array Value} {below : List Frame} {meth : Method} {c : Code} {P : hw_G} {G : Nat → Nat} {A : Nat → Prop}
set_option maxRecDepth 100000 in
set_option maxHeartbeats 4000000 in
theorem t_X7_findCount_118 {post : Int32 → cs_S → Prop} {mc ms : Nat} (hC : rf_C P RX7 p s m meth c cX7_findCount 4 (some .int)) (hin : meth.name = yX7_findCount.name) (hO : cs_O G A s s.heap) (S : cs_S) (u v : Nat) (x1 : Option Nat) (y0 : Int32) (H : Heap) (locs : List Loc) (ls : Array Slot) (h : w_X7_findCount_118 post G mc ms S u v x1 y0) (hT : cs_T P s A S H locs) (hl : lv_has ls 4 [(1, va_rf x1)]) : W p l e (rm_X7_findCount mc ms) s m args below meth c H locs u v (MQ below (cs_Qi P A post) args s mc ms A) (F0 m 118 ls [.int y0]) := by
  obtain ⟨hx, hb, hml, hown, hK, -, -⟩ := id hC
  obtain ⟨hu, hv, h⟩ := h
  refine lv_istore_n (lv' := [(3, _), (1, _)]) hx hb dX7_findCount_118 rfl hl (by decide) rfl (fun ls hl_ => ?_)
  replace hl := hl_
  refine lv_iload_n hx hb dX7_findCount_119 rfl (lv_at hl 0 rfl) ?_
  refine lv_if_eq (tgt := 136) hx hb dX7_findCount_120 (by decide) (fun hc => ?_) (fun hc => ?_)
  · replace h := h.1 hc
    refine lv_iconst (v := (-1)) hx hb dX7_findCount_136 (by decide) ?_
    exact t_X7_findCount_137 hC hin hO S u v ((-1)) _ _ _ h hT (lv_sub hl [] rfl)
  · replace h := h.2 hc
    refine hw_aload_n (x := x1) hx hb dX7_findCount_123 rfl (lv_at hl 1 rfl) ?_
    obtain ⟨b34, rfl, h⟩ := h
    obtain ⟨hk35_, h⟩ := h
    refine cs_get hx hb hK hT hown 5 hk35_ (by decide) rfl 7 (by decide) kfX7_134 (v := va_rf (cs_r S 507 b34)) rfl dX7_findCount_124 ?_
    refine hw_topr (fun r36 er36 => ?_)
    replace h := h r36 er36
    obtain ⟨b37, rfl, h⟩ := h
    obtain ⟨hk38_, h⟩ := h
    refine cs_get hx hb hK hT hown 3 hk38_ (by decide) rfl 0 (by decide) kfX7_143 (v := va_rf (cs_r S 300 b37)) rfl dX7_findCount_127 ?_
    refine hw_topr (fun r39 er39 => ?_)
    replace h := h r39 er39
    obtain ⟨b40, rfl, h⟩ := h
    obtain ⟨hk41_, h⟩ := h
    refine cs_get hx hb hK hT hown 4 hk41_ (by decide) rfl 5 (by decide) kfX7_150 (v := .int (cs_i S 405 b40)) rfl dX7_findCount_130 ?_
    refine lv_goto (tgt := 137) hx hb dX7_findCount_133 (by decide) ?_
    exact t_X7_findCount_137 hC hin hO S u v (cs_i S 405 b40) _ _ _ h hT (lv_sub hl [] rfl)
end
def w_X7_findCount_117 (post : Int32 → cs_S → Prop) (G : Nat → Nat) (mc ms : Nat) (S : cs_S) (u v : Nat) (x1 : Option Nat) : Prop := u ≤ mc ∧ v ≤ ms ∧ w_X7_findCount_118 post G mc ms S u v x1 0
section
variable {p : Program} {l : Launch} {e : Env} {s : State} {m : MethodId} {args : Array Value} {below : List Frame} {meth : Method} {c : Code} {P : hw_G} {G : Nat → Nat} {A : Nat → Prop}
set_option maxRecDepth 100000 in
set_option maxHeartbeats 4000000 in
theorem t_X7_findCount_117 {post : Int32 → cs_S → Prop} {mc ms : Nat} (hC : rf_C P RX7 p s m meth c cX7_findCount 4 (some .int)) (hin : meth.name = yX7_findCount.name) (hO : cs_O G A s s.heap) (S : cs_S) (u v : Nat) (x1 : Option Nat) (H : Heap) (locs : List Loc) (ls : Array Slot) (h : w_X7_findCount_117 post G mc ms S u v x1) (hT : cs_T P s A S H locs) (hl : lv_has ls 4 [(1, va_rf x1)]) : W p l e (rm_X7_findCount mc ms) s m args below meth c H locs u v (MQ below (cs_Qi P A post) args s mc ms A) (F0 m 117 ls []) := by
  obtain ⟨hx, hb, hml, hown, hK, -, -⟩ := id hC
  obtain ⟨hu, hv, h⟩ := h
  refine lv_iconst (v := 0) hx hb dX7_findCount_117 (by decide) ?_
  exact t_X7_findCount_118 hC hin hO S u v x1 0 _ _ _ h hT (lv_sub hl [0] rfl)
end
def w_X7_findCount_73 (post : Int32 → cs_S → Prop) (G : Nat → Nat) (mc ms : Nat) (S : cs_S) (u v : Nat) (x0 : Nat) (x1 : Option Nat) (x2 : Option Nat) : Prop := u ≤ mc ∧ v ≤ ms ∧ ∃ b42, x1 = some b42 ∧ cs_k S b42 = 6 ∧ cs_k S x0 = 9 ∧ ((cs_i S 508 b42) < (cs_i S 803 x0) → w_X7_findCount_117 post G mc ms S u v (some b42)) ∧ (¬ (cs_i S 508 b42) < (cs_i S 803 x0) → ∀ r45, r45 = cs_r S 507 b42 → (r45 = none → w_X7_findCount_117 post G mc ms S u v (some b42)) ∧ (∀ b46, r45 = some b46 → ∀ r47, r47 = cs_r S 507 b42 → ∃ b48, r47 = some b48 ∧ cs_k S b48 = 4 ∧ ∀ r50, r50 = cs_r S 300 b48 → ∃ b51, r50 = some b51 ∧ cs_k S b51 = 5 ∧ ∃ b53, x2 = some b53 ∧ cs_k S b53 = 5 ∧ ((cs_i S 400 b51) ≤ ((cs_i S 400 b53) - (cs_i S 810 x0)) → w_X7_findCount_117 post G mc ms S u v (some b42)) ∧ (¬ (cs_i S 400 b51) ≤ ((cs_i S 400 b53) - (cs_i S 810 x0)) → w_X7_findCount_118 post G mc ms S u v (some b42) 1)))
section
variable {p : Program} {l : Launch} {e : Env} {s : State} {m : MethodId} {args : Array Value} {below : List Frame} {meth : Method} {c : Code} {P : hw_G} {G : Nat → Nat} {A : Nat → Prop}
set_option maxRecDepth 100000 in
set_option maxHeartbeats 4000000 in
theorem t_X7_findCount_73 {post : Int32 → cs_S → Prop} {mc ms : Nat} (hC : rf_C P RX7 p s m meth c cX7_findCount 4 (some .int)) (hin : meth.name = yX7_findCount.name) (hO : cs_O G A s s.heap) (S : cs_S) (u v : Nat) (x0 : Nat) (x1 : Option Nat) (x2 : Option Nat) (H : Heap) (locs : List Loc) (ls : Array Slot) (h : w_X7_findCount_73 post G mc ms S u v x0 x1 x2) (hT : cs_T P s A S H locs) (hl : lv_has ls 4 [(0, .ref x0), (1, va_rf x1), (2, va_rf x2)]) : W p l e (rm_X7_findCount mc ms) s m args below meth c H locs u v (MQ below (cs_Qi P A post) args s mc ms A) (F0 m 73 ls []) := by
  obtain ⟨hx, hb, hml, hown, hK, -, -⟩ := id hC
  obtain ⟨hu, hv, h⟩ := h
  refine hw_aload_n (x := x1) hx hb dX7_findCount_73 rfl (lv_at hl 1 rfl) ?_
  obtain ⟨b42, rfl, h⟩ := h
  obtain ⟨hk43_, h⟩ := h
  refine cs_get hx hb hK hT hown 5 hk43_ (by decide) rfl 8 (by decide) kfX7_127 (v := .int (cs_i S 508 b42)) rfl dX7_findCount_74 ?_
  refine lv_aload_n (x := x0) hx hb dX7_findCount_77 rfl (lv_at hl 0 rfl) ?_
  obtain ⟨hk44_, h⟩ := h
  refine cs_get hx hb hK hT hown 8 hk44_ (by decide) rfl 3 (by decide) kfX7_137 (v := .int (cs_i S 803 x0)) rfl dX7_findCount_78 ?_
  refine lv_icmp_lt (tgt := 117) hx hb dX7_findCount_81 (by decide) (fun hc => ?_) (fun hc => ?_)
  · replace h := h.1 hc
    exact t_X7_findCount_117 hC hin hO S u v (some b42) _ _ _ h hT (lv_sub hl [1] rfl)
  · replace h := h.2 hc
    refine lv_aload_n (x := b42) hx hb dX7_findCount_84 rfl (lv_at hl 1 rfl) ?_
    refine cs_get hx hb hK hT hown 5 hk43_ (by decide) rfl 7 (by decide) kfX7_134 (v := va_rf (cs_r S 507 b42)) rfl dX7_findCount_85 ?_
    refine hw_topr (fun r45 er45 => ?_)
    replace h := h r45 er45
    refine hw_ifnull (tgt := 117) hx hb dX7_findCount_88 (by decide) (fun hc => ?_) (fun b46 hc => ?_)
    · replace h := h.1 hc
      subst hc
      exact t_X7_findCount_117 hC hin hO S u v (some b42) _ _ _ h hT (lv_sub hl [1] rfl)
    · replace h := h.2 b46 hc
      subst hc
      refine lv_aload_n (x := b42) hx hb dX7_findCount_91 rfl (lv_at hl 1 rfl) ?_
      refine cs_get hx hb hK hT hown 5 hk43_ (by decide) rfl 7 (by decide) kfX7_134 (v := va_rf (cs_r S 507 b42)) rfl dX7_findCount_92 ?_
      refine hw_topr (fun r47 er47 => ?_)
      replace h := h r47 er47
      obtain ⟨b48, rfl, h⟩ := h
      obtain ⟨hk49_, h⟩ := h
      refine cs_get hx hb hK hT hown 3 hk49_ (by decide) rfl 0 (by decide) kfX7_143 (v := va_rf (cs_r S 300 b48)) rfl dX7_findCount_95 ?_
      refine hw_topr (fun r50 er50 => ?_)
      replace h := h r50 er50
      obtain ⟨b51, rfl, h⟩ := h
      obtain ⟨hk52_, h⟩ := h
      refine cs_get hx hb hK hT hown 4 hk52_ (by decide) rfl 0 (by decide) kfX7_92 (v := .int (cs_i S 400 b51)) rfl dX7_findCount_98 ?_
      refine hw_aload_n (x := x2) hx hb dX7_findCount_101 rfl (lv_at hl 2 rfl) ?_
      obtain ⟨b53, rfl, h⟩ := h
      obtain ⟨hk54_, h⟩ := h
      refine cs_get hx hb hK hT hown 4 hk54_ (by decide) rfl 0 (by decide) kfX7_92 (v := .int (cs_i S 400 b53)) rfl dX7_findCount_102 ?_
      refine lv_aload_n (x := x0) hx hb dX7_findCount_105 rfl (lv_at hl 0 rfl) ?_
      refine cs_get hx hb hK hT hown 8 hk44_ (by decide) rfl 10 (by decide) kfX7_147 (v := .int (cs_i S 810 x0)) rfl dX7_findCount_106 ?_
      refine lv_isub hx hb dX7_findCount_109 ?_
      refine lv_icmp_le (tgt := 117) hx hb dX7_findCount_110 (by decide) (fun hc => ?_) (fun hc => ?_)
      · replace h := h.1 hc
        exact t_X7_findCount_117 hC hin hO S u v (some b42) _ _ _ h hT (lv_sub hl [1] rfl)
      · replace h := h.2 hc
        refine lv_iconst (v := 1) hx hb dX7_findCount_113 (by decide) ?_
        refine lv_goto (tgt := 118) hx hb dX7_findCount_114 (by decide) ?_
        exact t_X7_findCount_118 hC hin hO S u v (some b42) 1 _ _ _ h hT (lv_sub hl [1] rfl)
end
def wp_X7_findCount (post : Int32 → cs_S → Prop) (G : Nat → Nat) (mc ms : Nat) (S : cs_S) (o : Nat) (p1 : Option Nat) (p2 : Option Nat) : Prop := 0 + 1 ≤ mc ∧ 0 + 6 ≤ ms ∧ ∀ q55, cs_k S q55 = 0 → ∀ S56, S56 = cs_new S q55 3 → wp_X2_init (fun S57 => cs_k S57 o = 9 ∧ wp_X7_keep (fun S58 => ∃ b60, p1 = some b60 ∧ cs_k S58 b60 = 6 ∧ ∀ S62, S62 = cs_ui S58 508 b60 ((cs_i S58 508 b60) + 1) → cs_k S62 b60 = 6 ∧ (¬ (cs_i S62 508 b60) = 1 → cs_k S62 o = 9 ∧ ((cs_i S62 508 b60) ≤ (cs_i S62 803 o) → w_X7_findCount_73 post G mc ms S62 (0 + 1) (0 + 6) o (some b60) p2) ∧ (¬ (cs_i S62 508 b60) ≤ (cs_i S62 803 o) → ∀ r65, r65 = cs_r S62 507 b60 → (r65 = none → w_X7_findCount_73 post G mc ms S62 (0 + 1) (0 + 6) o (some b60) p2) ∧ (∀ b66, r65 = some b66 → ∀ r67, r67 = cs_r S62 507 b60 → ∃ b68, r67 = some b68 ∧ cs_k S62 b68 = 4 ∧ ∀ r70, r70 = cs_r S62 305 b68 → ∀ S71, S71 = cs_ur S62 507 b60 r70 → w_X7_findCount_73 post G mc ms S71 (0 + 1) (0 + 6) o (some b60) p2))) ∧ ((cs_i S62 508 b60) = 1 → ∀ r72, r72 = cs_r S62 506 b60 → ∀ S73, S73 = cs_ur S62 507 b60 r72 → w_X7_findCount_73 post G mc ms S73 (0 + 1) (0 + 6) o (some b60) p2)) G S57 o (some q55)) G S56 q55 p2 p1 0 none
set_option maxRecDepth 100000 in
set_option maxHeartbeats 4000000 in
theorem c_X7_findCount {l : Launch} {P : hw_G} {G : Nat → Nat} {S : cs_S} {sz : Nat} {mc ms : Nat} {o : Nat} {p1 : Option Nat} {p2 : Option Nat} {post : Int32 → cs_S → Prop} (h : wp_X7_findCount post G mc ms S o p1 p2) : Met l yX7_findCount [Cond.code yX7_findCount cX7_findCount 4 (some .int)] (rm_X7_findCount mc ms) (cs_Pc P G S sz [.ref o, va_rf p1, va_rf p2]) (cs_Qi P (cs_A S sz) post) mc ms (cs_A S sz) := by
  refine cs_met (by decide) rfl (by cases p1 <;> cases p2 <;> exact Nat.le_of_ble_eq_true rfl) ?_
  intro p e s m below meth c ls hC hin hO hT hl
  obtain ⟨hx, hb, hml, hown, hK, -, -⟩ := id hC
  replace hl : lv_has ls 4 [(0, .ref o), (1, va_rf p1), (2, va_rf p2)] := by cases p1 <;> cases p2 <;> exact hl
  refine lv_aload_n (x := o) hx hb dX7_findCount_0 rfl (lv_at hl 0 rfl) ?_
  obtain ⟨hu55, hv55, h⟩ := h
  refine cs_newo hx hb hK hT hown 3 (by decide) rfl tyX2_ok cs_df3 kxX7_118 kj_X2 kn_X2 hu55 hv55 dX7_findCount_1 (fun q55 H hq55 hT_ => ?_)
  replace h := h q55 hq55
  replace hT := hT_
  obtain ⟨S56, eS56⟩ : ∃ z, z = cs_new S q55 3 := ⟨_, rfl⟩
  rw [← eS56] at hT
  replace h := h S56 eS56
  refine lv_dup hx hb dX7_findCount_4 rfl ?_
  refine hw_aload_n (x := p2) hx hb dX7_findCount_5 rfl (lv_at hl 2 rfl) ?_
  refine hw_aload_n (x := p1) hx hb dX7_findCount_6 rfl (lv_at hl 1 rfl) ?_
  refine lv_iconst (v := 0) hx hb dX7_findCount_7 (by decide) ?_
  refine hw_null hx hb dX7_findCount_8 ?_
  refine cs_callv0 (cs_runI hx hb hml hown hK hO hT (c_X2_init h) rfl rfl klX7_120 ki_X2_init kn_X2 kc_X2_init rfl 4 ⟨by decide, by decide, by decide +kernel⟩ ⟨Nat.le_of_ble_eq_true rfl, Nat.le_of_ble_eq_true rfl⟩ rfl hl.1 rfl (hw_cat8 (Nat.le_of_ble_eq_true rfl)) ⟨hu55, hv55⟩ dX7_findCount_9) hT (fun S57 H locs h_ hT_ => ?_)
  replace h := h_
  replace hT := hT_
  obtain ⟨hk59_, h⟩ := h
  refine cs_callv0 (cs_runV hx hb hml hown hK hO hT 8 hk59_ (by decide) rfl (c_X7_keep h) rfl rfl klX7_123 ki_X7_keep ks_X7_keep kn_X7 kc_X7_keep 1 ⟨rfl, by decide, by decide, by decide +kernel⟩ ⟨Nat.le_of_ble_eq_true rfl, Nat.le_of_ble_eq_true rfl⟩ rfl hl.1 rfl (hw_cat8 (Nat.le_of_ble_eq_true rfl)) ⟨hu55, hv55⟩ dX7_findCount_12) hT (fun S58 H locs h_ hT_ => ?_)
  replace h := h_
  replace hT := hT_
  refine hw_aload_n (x := p1) hx hb dX7_findCount_15 rfl (lv_at hl 1 rfl) ?_
  refine lv_dup hx hb dX7_findCount_16 (va_rf_cat _) ?_
  obtain ⟨b60, rfl, h⟩ := h
  obtain ⟨hk61_, h⟩ := h
  refine cs_get hx hb hK hT hown 5 hk61_ (by decide) rfl 8 (by decide) kfX7_127 (v := .int (cs_i S58 508 b60)) rfl dX7_findCount_17 ?_
  refine lv_iconst (v := 1) hx hb dX7_findCount_20 (by decide) ?_
  refine lv_iadd hx hb dX7_findCount_21 ?_
  refine cs_puti (x := ((cs_i S58 508 b60) + 1)) hx hb hK hT hown 5 hk61_ (by decide) rfl 8 (by decide) kfX7_127 rfl (tyX4_ok 8 (by decide)) rfl 508 rfl dX7_findCount_22 (fun H locs hT_ => ?_)
  replace hT := hT_
  obtain ⟨S62, eS62⟩ : ∃ z, z = cs_ui S58 508 b60 ((cs_i S58 508 b60) + 1) := ⟨_, rfl⟩
  rw [← eS62] at hT
  replace h := h S62 eS62
  refine lv_aload_n (x := b60) hx hb dX7_findCount_25 rfl (lv_at hl 1 rfl) ?_
  obtain ⟨hk63_, h⟩ := h
  refine cs_get hx hb hK hT hown 5 hk63_ (by decide) rfl 8 (by decide) kfX7_127 (v := .int (cs_i S62 508 b60)) rfl dX7_findCount_26 ?_
  refine lv_iconst (v := 1) hx hb dX7_findCount_29 (by decide) ?_
  refine lv_icmp_ne (tgt := 44) hx hb dX7_findCount_30 (by decide) (fun hc => ?_) (fun hc => ?_)
  · replace h := h.1 hc
    refine lv_aload_n (x := b60) hx hb dX7_findCount_44 rfl (lv_at hl 1 rfl) ?_
    refine cs_get hx hb hK hT hown 5 hk63_ (by decide) rfl 8 (by decide) kfX7_127 (v := .int (cs_i S62 508 b60)) rfl dX7_findCount_45 ?_
    refine lv_aload_n (x := o) hx hb dX7_findCount_48 rfl (lv_at hl 0 rfl) ?_
    obtain ⟨hk64_, h⟩ := h
    refine cs_get hx hb hK hT hown 8 hk64_ (by decide) rfl 3 (by decide) kfX7_137 (v := .int (cs_i S62 803 o)) rfl dX7_findCount_49 ?_
    refine lv_icmp_le (tgt := 73) hx hb dX7_findCount_52 (by decide) (fun hc => ?_) (fun hc => ?_)
    · replace h := h.1 hc
      exact t_X7_findCount_73 hC hin hO S62 (0 + 1) (0 + 6) o (some b60) p2 _ _ _ h hT (lv_sub hl [0, 1, 2] rfl)
    · replace h := h.2 hc
      refine lv_aload_n (x := b60) hx hb dX7_findCount_55 rfl (lv_at hl 1 rfl) ?_
      refine cs_get hx hb hK hT hown 5 hk63_ (by decide) rfl 7 (by decide) kfX7_134 (v := va_rf (cs_r S62 507 b60)) rfl dX7_findCount_56 ?_
      refine hw_topr (fun r65 er65 => ?_)
      replace h := h r65 er65
      refine hw_ifnull (tgt := 73) hx hb dX7_findCount_59 (by decide) (fun hc => ?_) (fun b66 hc => ?_)
      · replace h := h.1 hc
        subst hc
        exact t_X7_findCount_73 hC hin hO S62 (0 + 1) (0 + 6) o (some b60) p2 _ _ _ h hT (lv_sub hl [0, 1, 2] rfl)
      · replace h := h.2 b66 hc
        subst hc
        refine lv_aload_n (x := b60) hx hb dX7_findCount_62 rfl (lv_at hl 1 rfl) ?_
        refine lv_aload_n (x := b60) hx hb dX7_findCount_63 rfl (lv_at hl 1 rfl) ?_
        refine cs_get hx hb hK hT hown 5 hk63_ (by decide) rfl 7 (by decide) kfX7_134 (v := va_rf (cs_r S62 507 b60)) rfl dX7_findCount_64 ?_
        refine hw_topr (fun r67 er67 => ?_)
        replace h := h r67 er67
        obtain ⟨b68, rfl, h⟩ := h
        obtain ⟨hk69_, h⟩ := h
        refine cs_get hx hb hK hT hown 3 hk69_ (by decide) rfl 5 (by decide) kfX7_140 (v := va_rf (cs_r S62 305 b68)) rfl dX7_findCount_67 ?_
        refine hw_topr (fun r70 er70 => ?_)
        replace h := h r70 er70
        refine cs_putr (x := r70) hx hb hK hT hown 5 hk63_ (by decide) rfl 7 (by decide) kfX7_134 rfl (tyX4_ok 7 (by decide)) rfl 507 rfl dX7_findCount_70 (fun H locs hT_ => ?_)
        replace hT := hT_
        obtain ⟨S71, eS71⟩ : ∃ z, z = cs_ur S62 507 b60 r70 := ⟨_, rfl⟩
        rw [← eS71] at hT
        replace h := h S71 eS71
        exact t_X7_findCount_73 hC hin hO S71 (0 + 1) (0 + 6) o (some b60) p2 _ _ _ h hT (lv_sub hl [0, 1, 2] rfl)
  · replace h := h.2 hc
    refine lv_aload_n (x := b60) hx hb dX7_findCount_33 rfl (lv_at hl 1 rfl) ?_
    refine lv_aload_n (x := b60) hx hb dX7_findCount_34 rfl (lv_at hl 1 rfl) ?_
    refine cs_get hx hb hK hT hown 5 hk63_ (by decide) rfl 6 (by decide) kfX7_130 (v := va_rf (cs_r S62 506 b60)) rfl dX7_findCount_35 ?_
    refine hw_topr (fun r72 er72 => ?_)
    replace h := h r72 er72
    refine cs_putr (x := r72) hx hb hK hT hown 5 hk63_ (by decide) rfl 7 (by decide) kfX7_134 rfl (tyX4_ok 7 (by decide)) rfl 507 rfl dX7_findCount_38 (fun H locs hT_ => ?_)
    replace hT := hT_
    obtain ⟨S73, eS73⟩ : ∃ z, z = cs_ur S62 507 b60 r72 := ⟨_, rfl⟩
    rw [← eS73] at hT
    replace h := h S73 eS73
    refine lv_goto (tgt := 73) hx hb dX7_findCount_41 (by decide) ?_
    exact t_X7_findCount_73 hC hin hO S73 (0 + 1) (0 + 6) o (some b60) p2 _ _ _ h hT (lv_sub hl [0, 1, 2] rfl)
/-! X7_findSum -/
abbrev rm_X7_findSum (mc ms : Nat) : Room := { frames := 2, cells := mc, slots := ms, locals := 48 }
def w_X7_findSum_75 (post : Int32 → cs_S → Prop) (G : Nat → Nat) (mc ms : Nat) (S : cs_S) (u v : Nat) (y0 : Int32) : Prop := u ≤ mc ∧ v ≤ ms ∧ post y0 S
section
variable {p : Program} {l : Launch} {e : Env} {s : State} {m : MethodId} {args : Array Value} {below : List Frame} {meth : Method} {c : Code} {P : hw_G} {G : Nat → Nat} {A : Nat → Prop}
set_option maxRecDepth 100000 in
set_option maxHeartbeats 4000000 in
theorem t_X7_findSum_75 {post : Int32 → cs_S → Prop} {mc ms : Nat} (hC : rf_C P RX7 p s m meth c cX7_findSum 4 (some .int)) (hin : meth.name = yX7_findSum.name) (hO : cs_O G A s s.heap) (S : cs_S) (u v : Nat) (y0 : Int32) (H : Heap) (locs : List Loc) (ls : Array Slot) (h : w_X7_findSum_75 post G mc ms S u v y0) (hT : cs_T P s A S H locs) (hl : lv_has ls 4 []) : W p l e (rm_X7_findSum mc ms) s m args below meth c H locs u v (MQ below (cs_Qi P A post) args s mc ms A) (F0 m 75 ls [.int y0]) := by
  obtain ⟨hx, hb, hml, hown, hK, -, -⟩ := id hC
  obtain ⟨hu, hv, h⟩ := h
  exact cs_iret hC hT h dX7_findSum_75 hu hv
end
def w_X7_findSum_74 (post : Int32 → cs_S → Prop) (G : Nat → Nat) (mc ms : Nat) (S : cs_S) (u v : Nat)  : Prop := u ≤ mc ∧ v ≤ ms ∧ w_X7_findSum_75 post G mc ms S u v ((-1))
section
variable {p : Program} {l : Launch} {e : Env} {s : State} {m : MethodId} {args : Array Value} {below : List Frame} {meth : Method} {c : Code} {P : hw_G} {G : Nat → Nat} {A : Nat → Prop}
set_option maxRecDepth 100000 in
set_option maxHeartbeats 4000000 in
theorem t_X7_findSum_74 {post : Int32 → cs_S → Prop} {mc ms : Nat} (hC : rf_C P RX7 p s m meth c cX7_findSum 4 (some .int)) (hin : meth.name = yX7_findSum.name) (hO : cs_O G A s s.heap) (S : cs_S) (u v : Nat)  (H : Heap) (locs : List Loc) (ls : Array Slot) (h : w_X7_findSum_74 post G mc ms S u v ) (hT : cs_T P s A S H locs) (hl : lv_has ls 4 []) : W p l e (rm_X7_findSum mc ms) s m args below meth c H locs u v (MQ below (cs_Qi P A post) args s mc ms A) (F0 m 74 ls []) := by
  obtain ⟨hx, hb, hml, hown, hK, -, -⟩ := id hC
  obtain ⟨hu, hv, h⟩ := h
  refine lv_iconst (v := (-1)) hx hb dX7_findSum_74 (by decide) ?_
  exact t_X7_findSum_75 hC hin hO S u v ((-1)) _ _ _ h hT (lv_sub hl [] rfl)
end
def wp_X7_findSum (post : Int32 → cs_S → Prop) (G : Nat → Nat) (mc ms : Nat) (S : cs_S) (o : Nat) (p1 : Option Nat) (p2 : Option Nat) (p3 : Option Nat) : Prop := ∃ b22, p3 = some b22 ∧ cs_k S b22 = 11 ∧ ((cs_i S 1000 b22) = 0 → 0 + 1 ≤ mc ∧ 0 + 6 ≤ ms ∧ ∀ q24, cs_k S q24 = 0 → ∀ S25, S25 = cs_new S q24 3 → cs_k S25 b22 = 11 ∧ wp_X2_init (fun S27 => cs_k S27 o = 9 ∧ wp_X7_keep (fun S28 => ∃ b30, p1 = some b30 ∧ cs_k S28 b30 = 6 ∧ cs_k S28 b22 = 11 ∧ ∀ S33, S33 = cs_ul S28 509 b30 ((cs_l S28 509 b30) + ((cs_i S28 1001 b22).toInt64)) → cs_k S33 b30 = 6 ∧ cs_k S33 o = 9 ∧ ((lg_cmp (cs_l S33 509 b30) ((cs_i S33 803 o).toInt64)) < 0 → w_X7_findSum_74 post G mc ms S33 (0 + 1) (0 + 6)) ∧ (¬ (lg_cmp (cs_l S33 509 b30) ((cs_i S33 803 o).toInt64)) < 0 → ∀ r36, r36 = cs_r S33 505 b30 → (r36 = none → w_X7_findSum_74 post G mc ms S33 (0 + 1) (0 + 6)) ∧ (∀ b37, r36 = some b37 → ∀ r38, r38 = cs_r S33 505 b30 → ∃ b39, r38 = some b39 ∧ cs_k S33 b39 = 4 ∧ ∀ r41, r41 = cs_r S33 300 b39 → ∃ b42, r41 = some b42 ∧ cs_k S33 b42 = 5 ∧ w_X7_findSum_75 post G mc ms S33 (0 + 1) (0 + 6) (cs_i S33 405 b42)))) G S27 o (some q24)) G S25 q24 p2 p1 (cs_i S25 1001 b22) none) ∧ (¬ (cs_i S 1000 b22) = 0 → post ((-1)) S)
set_option maxRecDepth 100000 in
set_option maxHeartbeats 4000000 in
theorem c_X7_findSum {l : Launch} {P : hw_G} {G : Nat → Nat} {S : cs_S} {sz : Nat} {mc ms : Nat} {o : Nat} {p1 : Option Nat} {p2 : Option Nat} {p3 : Option Nat} {post : Int32 → cs_S → Prop} (h : wp_X7_findSum post G mc ms S o p1 p2 p3) : Met l yX7_findSum [Cond.code yX7_findSum cX7_findSum 4 (some .int)] (rm_X7_findSum mc ms) (cs_Pc P G S sz [.ref o, va_rf p1, va_rf p2, va_rf p3]) (cs_Qi P (cs_A S sz) post) mc ms (cs_A S sz) := by
  refine cs_met (by decide) rfl (by cases p1 <;> cases p2 <;> cases p3 <;> exact Nat.le_of_ble_eq_true rfl) ?_
  intro p e s m below meth c ls hC hin hO hT hl
  obtain ⟨hx, hb, hml, hown, hK, -, -⟩ := id hC
  replace hl : lv_has ls 4 [(0, .ref o), (1, va_rf p1), (2, va_rf p2), (3, va_rf p3)] := by cases p1 <;> cases p2 <;> cases p3 <;> exact hl
  refine hw_aload_n (x := p3) hx hb dX7_findSum_0 rfl (lv_at hl 3 rfl) ?_
  obtain ⟨b22, rfl, h⟩ := h
  obtain ⟨hk23_, h⟩ := h
  refine cs_get hx hb hK hT hown 10 hk23_ (by decide) rfl 0 (by decide) kfX7_151 (v := .int (cs_i S 1000 b22)) rfl dX7_findSum_1 ?_
  refine lv_if_eq (tgt := 9) hx hb dX7_findSum_4 (by decide) (fun hc => ?_) (fun hc => ?_)
  · replace h := h.1 hc
    refine lv_aload_n (x := o) hx hb dX7_findSum_9 rfl (lv_at hl 0 rfl) ?_
    obtain ⟨hu24, hv24, h⟩ := h
    refine cs_newo hx hb hK hT hown 3 (by decide) rfl tyX2_ok cs_df3 kxX7_118 kj_X2 kn_X2 hu24 hv24 dX7_findSum_10 (fun q24 H hq24 hT_ => ?_)
    replace h := h q24 hq24
    replace hT := hT_
    obtain ⟨S25, eS25⟩ : ∃ z, z = cs_new S q24 3 := ⟨_, rfl⟩
    rw [← eS25] at hT
    replace h := h S25 eS25
    refine lv_dup hx hb dX7_findSum_13 rfl ?_
    refine hw_aload_n (x := p2) hx hb dX7_findSum_14 rfl (lv_at hl 2 rfl) ?_
    refine hw_aload_n (x := p1) hx hb dX7_findSum_15 rfl (lv_at hl 1 rfl) ?_
    refine lv_aload_n (x := b22) hx hb dX7_findSum_16 rfl (lv_at hl 3 rfl) ?_
    obtain ⟨hk26_, h⟩ := h
    refine cs_get hx hb hK hT hown 10 hk26_ (by decide) rfl 1 (by decide) kfX7_154 (v := .int (cs_i S25 1001 b22)) rfl dX7_findSum_17 ?_
    refine hw_null hx hb dX7_findSum_20 ?_
    refine cs_callv0 (cs_runI hx hb hml hown hK hO hT (c_X2_init h) rfl rfl klX7_120 ki_X2_init kn_X2 kc_X2_init rfl 4 ⟨by decide, by decide, by decide +kernel⟩ ⟨Nat.le_of_ble_eq_true rfl, Nat.le_of_ble_eq_true rfl⟩ rfl hl.1 rfl (hw_cat8 (Nat.le_of_ble_eq_true rfl)) ⟨hu24, hv24⟩ dX7_findSum_21) hT (fun S27 H locs h_ hT_ => ?_)
    replace h := h_
    replace hT := hT_
    obtain ⟨hk29_, h⟩ := h
    refine cs_callv0 (cs_runV hx hb hml hown hK hO hT 8 hk29_ (by decide) rfl (c_X7_keep h) rfl rfl klX7_123 ki_X7_keep ks_X7_keep kn_X7 kc_X7_keep 1 ⟨rfl, by decide, by decide, by decide +kernel⟩ ⟨Nat.le_of_ble_eq_true rfl, Nat.le_of_ble_eq_true rfl⟩ rfl hl.1 rfl (hw_cat8 (Nat.le_of_ble_eq_true rfl)) ⟨hu24, hv24⟩ dX7_findSum_24) hT (fun S28 H locs h_ hT_ => ?_)
    replace h := h_
    replace hT := hT_
    refine hw_aload_n (x := p1) hx hb dX7_findSum_27 rfl (lv_at hl 1 rfl) ?_
    refine lv_dup hx hb dX7_findSum_28 (va_rf_cat _) ?_
    obtain ⟨b30, rfl, h⟩ := h
    obtain ⟨hk31_, h⟩ := h
    refine cs_get hx hb hK hT hown 5 hk31_ (by decide) rfl 9 (by decide) kfX7_155 (v := .long (cs_l S28 509 b30)) rfl dX7_findSum_29 ?_
    refine lv_aload_n (x := b22) hx hb dX7_findSum_32 rfl (lv_at hl 3 rfl) ?_
    obtain ⟨hk32_, h⟩ := h
    refine cs_get hx hb hK hT hown 10 hk32_ (by decide) rfl 1 (by decide) kfX7_154 (v := .int (cs_i S28 1001 b22)) rfl dX7_findSum_33 ?_
    refine lv_i2l (v := (cs_i S28 1001 b22).toInt64) hx hb dX7_findSum_36 rfl ?_
    refine lv_ladd hx hb dX7_findSum_37 ?_
    refine cs_putl (x := ((cs_l S28 509 b30) + ((cs_i S28 1001 b22).toInt64))) hx hb hK hT hown 5 hk31_ (by decide) rfl 9 (by decide) kfX7_155 rfl (tyX4_ok 9 (by decide)) rfl 509 rfl dX7_findSum_38 (fun H locs hT_ => ?_)
    replace hT := hT_
    obtain ⟨S33, eS33⟩ : ∃ z, z = cs_ul S28 509 b30 ((cs_l S28 509 b30) + ((cs_i S28 1001 b22).toInt64)) := ⟨_, rfl⟩
    rw [← eS33] at hT
    replace h := h S33 eS33
    refine lv_aload_n (x := b30) hx hb dX7_findSum_41 rfl (lv_at hl 1 rfl) ?_
    obtain ⟨hk34_, h⟩ := h
    refine cs_get hx hb hK hT hown 5 hk34_ (by decide) rfl 9 (by decide) kfX7_155 (v := .long (cs_l S33 509 b30)) rfl dX7_findSum_42 ?_
    refine lv_aload_n (x := o) hx hb dX7_findSum_45 rfl (lv_at hl 0 rfl) ?_
    obtain ⟨hk35_, h⟩ := h
    refine cs_get hx hb hK hT hown 8 hk35_ (by decide) rfl 3 (by decide) kfX7_137 (v := .int (cs_i S33 803 o)) rfl dX7_findSum_46 ?_
    refine lv_i2l (v := (cs_i S33 803 o).toInt64) hx hb dX7_findSum_49 rfl ?_
    refine W.lcmp hx hb dX7_findSum_50 ?_
    refine lv_if_lt (tgt := 74) hx hb dX7_findSum_51 (by decide) (fun hc => ?_) (fun hc => ?_)
    · replace h := h.1 hc
      exact t_X7_findSum_74 hC hin hO S33 (0 + 1) (0 + 6) _ _ _ h hT (lv_sub hl [] rfl)
    · replace h := h.2 hc
      refine lv_aload_n (x := b30) hx hb dX7_findSum_54 rfl (lv_at hl 1 rfl) ?_
      refine cs_get hx hb hK hT hown 5 hk34_ (by decide) rfl 5 (by decide) kfX7_158 (v := va_rf (cs_r S33 505 b30)) rfl dX7_findSum_55 ?_
      refine hw_topr (fun r36 er36 => ?_)
      replace h := h r36 er36
      refine hw_ifnull (tgt := 74) hx hb dX7_findSum_58 (by decide) (fun hc => ?_) (fun b37 hc => ?_)
      · replace h := h.1 hc
        subst hc
        exact t_X7_findSum_74 hC hin hO S33 (0 + 1) (0 + 6) _ _ _ h hT (lv_sub hl [] rfl)
      · replace h := h.2 b37 hc
        subst hc
        refine lv_aload_n (x := b30) hx hb dX7_findSum_61 rfl (lv_at hl 1 rfl) ?_
        refine cs_get hx hb hK hT hown 5 hk34_ (by decide) rfl 5 (by decide) kfX7_158 (v := va_rf (cs_r S33 505 b30)) rfl dX7_findSum_62 ?_
        refine hw_topr (fun r38 er38 => ?_)
        replace h := h r38 er38
        obtain ⟨b39, rfl, h⟩ := h
        obtain ⟨hk40_, h⟩ := h
        refine cs_get hx hb hK hT hown 3 hk40_ (by decide) rfl 0 (by decide) kfX7_143 (v := va_rf (cs_r S33 300 b39)) rfl dX7_findSum_65 ?_
        refine hw_topr (fun r41 er41 => ?_)
        replace h := h r41 er41
        obtain ⟨b42, rfl, h⟩ := h
        obtain ⟨hk43_, h⟩ := h
        refine cs_get hx hb hK hT hown 4 hk43_ (by decide) rfl 5 (by decide) kfX7_150 (v := .int (cs_i S33 405 b42)) rfl dX7_findSum_68 ?_
        refine lv_goto (tgt := 75) hx hb dX7_findSum_71 (by decide) ?_
        exact t_X7_findSum_75 hC hin hO S33 (0 + 1) (0 + 6) (cs_i S33 405 b42) _ _ _ h hT (lv_sub hl [] rfl)
  · replace h := h.2 hc
    refine lv_iconst (v := (-1)) hx hb dX7_findSum_7 (by decide) ?_
    exact cs_iret hC hT h dX7_findSum_8 (Nat.zero_le _) (Nat.zero_le _)
/-! X7_findDistinct -/
abbrev rm_X7_findDistinct (mc ms : Nat) : Room := { frames := 2, cells := mc, slots := ms, locals := 48 }
def w_X7_findDistinct_75 (post : Int32 → cs_S → Prop) (G : Nat → Nat) (mc ms : Nat) (S : cs_S) (u v : Nat) (y0 : Int32) : Prop := u ≤ mc ∧ v ≤ ms ∧ post y0 S
section
variable {p : Program} {l : Launch} {e : Env} {s : State} {m : MethodId} {args : Array Value} {below : List Frame} {meth : Method} {c : Code} {P : hw_G} {G : Nat → Nat} {A : Nat → Prop}
set_option maxRecDepth 100000 in
set_option maxHeartbeats 4000000 in
theorem t_X7_findDistinct_75 {post : Int32 → cs_S → Prop} {mc ms : Nat} (hC : rf_C P RX7 p s m meth c cX7_findDistinct 4 (some .int)) (hin : meth.name = yX7_findDistinct.name) (hO : cs_O G A s s.heap) (S : cs_S) (u v : Nat) (y0 : Int32) (H : Heap) (locs : List Loc) (ls : Array Slot) (h : w_X7_findDistinct_75 post G mc ms S u v y0) (hT : cs_T P s A S H locs) (hl : lv_has ls 4 []) : W p l e (rm_X7_findDistinct mc ms) s m args below meth c H locs u v (MQ below (cs_Qi P A post) args s mc ms A) (F0 m 75 ls [.int y0]) := by
  obtain ⟨hx, hb, hml, hown, hK, -, -⟩ := id hC
  obtain ⟨hu, hv, h⟩ := h
  exact cs_iret hC hT h dX7_findDistinct_75 hu hv
end
def w_X7_findDistinct_74 (post : Int32 → cs_S → Prop) (G : Nat → Nat) (mc ms : Nat) (S : cs_S) (u v : Nat)  : Prop := u ≤ mc ∧ v ≤ ms ∧ w_X7_findDistinct_75 post G mc ms S u v ((-1))
section
variable {p : Program} {l : Launch} {e : Env} {s : State} {m : MethodId} {args : Array Value} {below : List Frame} {meth : Method} {c : Code} {P : hw_G} {G : Nat → Nat} {A : Nat → Prop}
set_option maxRecDepth 100000 in
set_option maxHeartbeats 4000000 in
theorem t_X7_findDistinct_74 {post : Int32 → cs_S → Prop} {mc ms : Nat} (hC : rf_C P RX7 p s m meth c cX7_findDistinct 4 (some .int)) (hin : meth.name = yX7_findDistinct.name) (hO : cs_O G A s s.heap) (S : cs_S) (u v : Nat)  (H : Heap) (locs : List Loc) (ls : Array Slot) (h : w_X7_findDistinct_74 post G mc ms S u v ) (hT : cs_T P s A S H locs) (hl : lv_has ls 4 []) : W p l e (rm_X7_findDistinct mc ms) s m args below meth c H locs u v (MQ below (cs_Qi P A post) args s mc ms A) (F0 m 74 ls []) := by
  obtain ⟨hx, hb, hml, hown, hK, -, -⟩ := id hC
  obtain ⟨hu, hv, h⟩ := h
  refine lv_iconst (v := (-1)) hx hb dX7_findDistinct_74 (by decide) ?_
  exact t_X7_findDistinct_75 hC hin hO S u v ((-1)) _ _ _ h hT (lv_sub hl [] rfl)
end
def w_X7_findDistinct_43 (post : Int32 → cs_S → Prop) (G : Nat → Nat) (mc ms : Nat) (S : cs_S) (u v : Nat) (x0 : Nat) (x1 : Option Nat) : Prop := u ≤ mc ∧ v ≤ ms ∧ ∃ b23, x1 = some b23 ∧ cs_k S b23 = 6 ∧ cs_k S x0 = 9 ∧ ((cs_i S 510 b23) < (cs_i S 803 x0) → w_X7_findDistinct_74 post G mc ms S u v) ∧ (¬ (cs_i S 510 b23) < (cs_i S 803 x0) → ∀ r26, r26 = cs_r S 505 b23 → (r26 = none → w_X7_findDistinct_74 post G mc ms S u v) ∧ (∀ b27, r26 = some b27 → ∀ r28, r28 = cs_r S 505 b23 → ∃ b29, r28 = some b29 ∧ cs_k S b29 = 4 ∧ ∀ r31, r31 = cs_r S 300 b29 → ∃ b32, r31 = some b32 ∧ cs_k S b32 = 5 ∧ w_X7_findDistinct_75 post G mc ms S u v (cs_i S 405 b32)))
section
variable {p : Program} {l : Launch} {e : Env} {s : State} {m : MethodId} {args : Array Value} {below : List Frame} {meth : Method} {c : Code} {P : hw_G} {G : Nat → Nat} {A : Nat → Prop}
set_option maxRecDepth 100000 in
set_option maxHeartbeats 4000000 in
theorem t_X7_findDistinct_43 {post : Int32 → cs_S → Prop} {mc ms : Nat} (hC : rf_C P RX7 p s m meth c cX7_findDistinct 4 (some .int)) (hin : meth.name = yX7_findDistinct.name) (hO : cs_O G A s s.heap) (S : cs_S) (u v : Nat) (x0 : Nat) (x1 : Option Nat) (H : Heap) (locs : List Loc) (ls : Array Slot) (h : w_X7_findDistinct_43 post G mc ms S u v x0 x1) (hT : cs_T P s A S H locs) (hl : lv_has ls 4 [(0, .ref x0), (1, va_rf x1)]) : W p l e (rm_X7_findDistinct mc ms) s m args below meth c H locs u v (MQ below (cs_Qi P A post) args s mc ms A) (F0 m 43 ls []) := by
  obtain ⟨hx, hb, hml, hown, hK, -, -⟩ := id hC
  obtain ⟨hu, hv, h⟩ := h
  refine hw_aload_n (x := x1) hx hb dX7_findDistinct_43 rfl (lv_at hl 1 rfl) ?_
  obtain ⟨b23, rfl, h⟩ := h
  obtain ⟨hk24_, h⟩ := h
  refine cs_get hx hb hK hT hown 5 hk24_ (by decide) rfl 10 (by decide) kfX7_164 (v := .int (cs_i S 510 b23)) rfl dX7_findDistinct_44 ?_
  refine lv_aload_n (x := x0) hx hb dX7_findDistinct_47 rfl (lv_at hl 0 rfl) ?_
  obtain ⟨hk25_, h⟩ := h
  refine cs_get hx hb hK hT hown 8 hk25_ (by decide) rfl 3 (by decide) kfX7_137 (v := .int (cs_i S 803 x0)) rfl dX7_findDistinct_48 ?_
  refine lv_icmp_lt (tgt := 74) hx hb dX7_findDistinct_51 (by decide) (fun hc => ?_) (fun hc => ?_)
  · replace h := h.1 hc
    exact t_X7_findDistinct_74 hC hin hO S u v _ _ _ h hT (lv_sub hl [] rfl)
  · replace h := h.2 hc
    refine lv_aload_n (x := b23) hx hb dX7_findDistinct_54 rfl (lv_at hl 1 rfl) ?_
    refine cs_get hx hb hK hT hown 5 hk24_ (by decide) rfl 5 (by decide) kfX7_158 (v := va_rf (cs_r S 505 b23)) rfl dX7_findDistinct_55 ?_
    refine hw_topr (fun r26 er26 => ?_)
    replace h := h r26 er26
    refine hw_ifnull (tgt := 74) hx hb dX7_findDistinct_58 (by decide) (fun hc => ?_) (fun b27 hc => ?_)
    · replace h := h.1 hc
      subst hc
      exact t_X7_findDistinct_74 hC hin hO S u v _ _ _ h hT (lv_sub hl [] rfl)
    · replace h := h.2 b27 hc
      subst hc
      refine lv_aload_n (x := b23) hx hb dX7_findDistinct_61 rfl (lv_at hl 1 rfl) ?_
      refine cs_get hx hb hK hT hown 5 hk24_ (by decide) rfl 5 (by decide) kfX7_158 (v := va_rf (cs_r S 505 b23)) rfl dX7_findDistinct_62 ?_
      refine hw_topr (fun r28 er28 => ?_)
      replace h := h r28 er28
      obtain ⟨b29, rfl, h⟩ := h
      obtain ⟨hk30_, h⟩ := h
      refine cs_get hx hb hK hT hown 3 hk30_ (by decide) rfl 0 (by decide) kfX7_143 (v := va_rf (cs_r S 300 b29)) rfl dX7_findDistinct_65 ?_
      refine hw_topr (fun r31 er31 => ?_)
      replace h := h r31 er31
      obtain ⟨b32, rfl, h⟩ := h
      obtain ⟨hk33_, h⟩ := h
      refine cs_get hx hb hK hT hown 4 hk33_ (by decide) rfl 5 (by decide) kfX7_150 (v := .int (cs_i S 405 b32)) rfl dX7_findDistinct_68 ?_
      refine lv_goto (tgt := 75) hx hb dX7_findDistinct_71 (by decide) ?_
      exact t_X7_findDistinct_75 hC hin hO S u v (cs_i S 405 b32) _ _ _ h hT (lv_sub hl [] rfl)
end
def wp_X7_findDistinct (post : Int32 → cs_S → Prop) (G : Nat → Nat) (mc ms : Nat) (S : cs_S) (o : Nat) (p1 : Option Nat) (p2 : Option Nat) (p3 : Option Nat) : Prop := 0 + 1 ≤ mc ∧ 0 + 6 ≤ ms ∧ ∀ q34, cs_k S q34 = 0 → ∀ S35, S35 = cs_new S q34 3 → wp_X2_init (fun S36 => cs_k S36 o = 9 ∧ wp_X7_keep (fun S37 => ∃ b39, p3 = some b39 ∧ cs_k S37 b39 = 6 ∧ ∀ S41, S41 = cs_ui S37 511 b39 ((cs_i S37 511 b39) + 1) → cs_k S41 b39 = 6 ∧ (¬ (cs_i S41 511 b39) = 1 → w_X7_findDistinct_43 post G mc ms S41 (0 + 1) (0 + 6) o p1) ∧ ((cs_i S41 511 b39) = 1 → ∃ b43, p1 = some b43 ∧ cs_k S41 b43 = 6 ∧ ∀ S45, S45 = cs_ui S41 510 b43 ((cs_i S41 510 b43) + 1) → w_X7_findDistinct_43 post G mc ms S45 (0 + 1) (0 + 6) o (some b43))) G S36 o (some q34)) G S35 q34 p2 p1 0 p3
set_option maxRecDepth 100000 in
set_option maxHeartbeats 4000000 in
theorem c_X7_findDistinct {l : Launch} {P : hw_G} {G : Nat → Nat} {S : cs_S} {sz : Nat} {mc ms : Nat} {o : Nat} {p1 : Option Nat} {p2 : Option Nat} {p3 : Option Nat} {post : Int32 → cs_S → Prop} (h : wp_X7_findDistinct post G mc ms S o p1 p2 p3) : Met l yX7_findDistinct [Cond.code yX7_findDistinct cX7_findDistinct 4 (some .int)] (rm_X7_findDistinct mc ms) (cs_Pc P G S sz [.ref o, va_rf p1, va_rf p2, va_rf p3]) (cs_Qi P (cs_A S sz) post) mc ms (cs_A S sz) := by
  refine cs_met (by decide) rfl (by cases p1 <;> cases p2 <;> cases p3 <;> exact Nat.le_of_ble_eq_true rfl) ?_
  intro p e s m below meth c ls hC hin hO hT hl
  obtain ⟨hx, hb, hml, hown, hK, -, -⟩ := id hC
  replace hl : lv_has ls 4 [(0, .ref o), (1, va_rf p1), (2, va_rf p2), (3, va_rf p3)] := by cases p1 <;> cases p2 <;> cases p3 <;> exact hl
  refine lv_aload_n (x := o) hx hb dX7_findDistinct_0 rfl (lv_at hl 0 rfl) ?_
  obtain ⟨hu34, hv34, h⟩ := h
  refine cs_newo hx hb hK hT hown 3 (by decide) rfl tyX2_ok cs_df3 kxX7_118 kj_X2 kn_X2 hu34 hv34 dX7_findDistinct_1 (fun q34 H hq34 hT_ => ?_)
  replace h := h q34 hq34
  replace hT := hT_
  obtain ⟨S35, eS35⟩ : ∃ z, z = cs_new S q34 3 := ⟨_, rfl⟩
  rw [← eS35] at hT
  replace h := h S35 eS35
  refine lv_dup hx hb dX7_findDistinct_4 rfl ?_
  refine hw_aload_n (x := p2) hx hb dX7_findDistinct_5 rfl (lv_at hl 2 rfl) ?_
  refine hw_aload_n (x := p1) hx hb dX7_findDistinct_6 rfl (lv_at hl 1 rfl) ?_
  refine lv_iconst (v := 0) hx hb dX7_findDistinct_7 (by decide) ?_
  refine hw_aload_n (x := p3) hx hb dX7_findDistinct_8 rfl (lv_at hl 3 rfl) ?_
  refine cs_callv0 (cs_runI hx hb hml hown hK hO hT (c_X2_init h) rfl rfl klX7_120 ki_X2_init kn_X2 kc_X2_init rfl 4 ⟨by decide, by decide, by decide +kernel⟩ ⟨Nat.le_of_ble_eq_true rfl, Nat.le_of_ble_eq_true rfl⟩ rfl hl.1 rfl (hw_cat8 (Nat.le_of_ble_eq_true rfl)) ⟨hu34, hv34⟩ dX7_findDistinct_9) hT (fun S36 H locs h_ hT_ => ?_)
  replace h := h_
  replace hT := hT_
  obtain ⟨hk38_, h⟩ := h
  refine cs_callv0 (cs_runV hx hb hml hown hK hO hT 8 hk38_ (by decide) rfl (c_X7_keep h) rfl rfl klX7_123 ki_X7_keep ks_X7_keep kn_X7 kc_X7_keep 1 ⟨rfl, by decide, by decide, by decide +kernel⟩ ⟨Nat.le_of_ble_eq_true rfl, Nat.le_of_ble_eq_true rfl⟩ rfl hl.1 rfl (hw_cat8 (Nat.le_of_ble_eq_true rfl)) ⟨hu34, hv34⟩ dX7_findDistinct_12) hT (fun S37 H locs h_ hT_ => ?_)
  replace h := h_
  replace hT := hT_
  refine hw_aload_n (x := p3) hx hb dX7_findDistinct_15 rfl (lv_at hl 3 rfl) ?_
  refine lv_dup hx hb dX7_findDistinct_16 (va_rf_cat _) ?_
  obtain ⟨b39, rfl, h⟩ := h
  obtain ⟨hk40_, h⟩ := h
  refine cs_get hx hb hK hT hown 5 hk40_ (by decide) rfl 11 (by decide) kfX7_161 (v := .int (cs_i S37 511 b39)) rfl dX7_findDistinct_17 ?_
  refine lv_iconst (v := 1) hx hb dX7_findDistinct_20 (by decide) ?_
  refine lv_iadd hx hb dX7_findDistinct_21 ?_
  refine cs_puti (x := ((cs_i S37 511 b39) + 1)) hx hb hK hT hown 5 hk40_ (by decide) rfl 11 (by decide) kfX7_161 rfl (tyX4_ok 11 (by decide)) rfl 511 rfl dX7_findDistinct_22 (fun H locs hT_ => ?_)
  replace hT := hT_
  obtain ⟨S41, eS41⟩ : ∃ z, z = cs_ui S37 511 b39 ((cs_i S37 511 b39) + 1) := ⟨_, rfl⟩
  rw [← eS41] at hT
  replace h := h S41 eS41
  refine lv_aload_n (x := b39) hx hb dX7_findDistinct_25 rfl (lv_at hl 3 rfl) ?_
  obtain ⟨hk42_, h⟩ := h
  refine cs_get hx hb hK hT hown 5 hk42_ (by decide) rfl 11 (by decide) kfX7_161 (v := .int (cs_i S41 511 b39)) rfl dX7_findDistinct_26 ?_
  refine lv_iconst (v := 1) hx hb dX7_findDistinct_29 (by decide) ?_
  refine lv_icmp_ne (tgt := 43) hx hb dX7_findDistinct_30 (by decide) (fun hc => ?_) (fun hc => ?_)
  · replace h := h.1 hc
    exact t_X7_findDistinct_43 hC hin hO S41 (0 + 1) (0 + 6) o p1 _ _ _ h hT (lv_sub hl [0, 1] rfl)
  · replace h := h.2 hc
    refine hw_aload_n (x := p1) hx hb dX7_findDistinct_33 rfl (lv_at hl 1 rfl) ?_
    refine lv_dup hx hb dX7_findDistinct_34 (va_rf_cat _) ?_
    obtain ⟨b43, rfl, h⟩ := h
    obtain ⟨hk44_, h⟩ := h
    refine cs_get hx hb hK hT hown 5 hk44_ (by decide) rfl 10 (by decide) kfX7_164 (v := .int (cs_i S41 510 b43)) rfl dX7_findDistinct_35 ?_
    refine lv_iconst (v := 1) hx hb dX7_findDistinct_38 (by decide) ?_
    refine lv_iadd hx hb dX7_findDistinct_39 ?_
    refine cs_puti (x := ((cs_i S41 510 b43) + 1)) hx hb hK hT hown 5 hk44_ (by decide) rfl 10 (by decide) kfX7_164 rfl (tyX4_ok 10 (by decide)) rfl 510 rfl dX7_findDistinct_40 (fun H locs hT_ => ?_)
    replace hT := hT_
    obtain ⟨S45, eS45⟩ : ∃ z, z = cs_ui S41 510 b43 ((cs_i S41 510 b43) + 1) := ⟨_, rfl⟩
    rw [← eS45] at hT
    replace h := h S45 eS45
    exact t_X7_findDistinct_43 hC hin hO S45 (0 + 1) (0 + 6) o (some b43) _ _ _ h hT (lv_sub hl [0, 1] rfl)
/-! X7_look -/
abbrev rm_X7_look (mc ms : Nat) : Room := { frames := 63, cells := mc, slots := ms, locals := 2473 }
def w_X7_look_52 (post : Int32 → cs_S → Prop) (G : Nat → Nat) (mc ms : Nat) (S : cs_S) (u v : Nat) (x0 : Nat) (x1 : Option Nat) (x2 : Option Nat) (x3 : Int32) : Prop := u ≤ mc ∧ v ≤ ms ∧ cs_k S x0 = 9 ∧ (¬ (cs_i S 802 x0) = 28 → (¬ (cs_i S 802 x0) = 31 → (¬ x3 = 0 → ∃ b33, x2 = some b33 ∧ cs_k S b33 = 5 ∧ wp_X7_forget (fun S35 => cs_k S35 x0 = 9 ∧ (¬ (cs_i S35 802 x0) = 24 → cs_k S35 b33 = 5 ∧ wp_X3_find (fun r37 S37 => (r37 = none → post ((-1)) S37) ∧ (∀ b39, r37 = some b39 → cs_k S37 x0 = 9 ∧ (¬ (cs_i S37 802 x0) = 27 → ∀ r41, r41 = cs_r S37 817 x0 → ∃ b42, r41 = some b42 ∧ cs_k S37 b42 = 26 ∧ vp_in (if 3 < cs_i S37 809 x0 then 3 else cs_i S37 809 x0) (cs_n S37 b42) ∧ (∀ b, (some b39) = some b → cs_k S37 b = 11) ∧ ∀ S44, S44 = cs_uar S37 b42 (if 3 < cs_i S37 809 x0 then 3 else cs_i S37 809 x0).toNatClampNeg (some b39) → cs_k S44 x0 = 9 ∧ ∃ m46 n46, u + m46 ≤ mc ∧ v + n46 ≤ ms ∧ wp_X7_keyOfWanted (fun r46 S46 => cs_k S46 x0 = 9 ∧ ∃ m47 n47, u + m46 + m47 ≤ mc ∧ v + n46 + n47 ≤ ms ∧ wp_X7_findDistinct (fun r47 S47 => post r47 S47) G m47 n47 S46 x0 x1 (some b33) r46) G m46 n46 S44 x0 ((cs_i S44 809 x0) + 1)) ∧ ((cs_i S37 802 x0) = 27 → ∃ m49 n49, u + m49 ≤ mc ∧ v + n49 ≤ ms ∧ wp_X7_findSum (fun r49 S49 => post r49 S49) G m49 n49 S37 x0 x1 (some b33) (some b39)))) G S35 b33 (cs_l S35 804 x0)) ∧ ((cs_i S35 802 x0) = 24 → ∃ m50 n50, u + m50 ≤ mc ∧ v + n50 ≤ ms ∧ wp_X7_findCount (fun r50 S50 => post r50 S50) G m50 n50 S35 x0 x1 (some b33))) G S x0 (cs_i S 400 b33)) ∧ (x3 = 0 → post ((-1)) S)) ∧ ((cs_i S 802 x0) = 31 → ∃ m51 n51, u + m51 ≤ mc ∧ v + n51 ≤ ms ∧ wp_X7_waitForSecond (fun S51 => post ((-1)) S51) G m51 n51 S x0 x1 x2 x3)) ∧ ((cs_i S 802 x0) = 28 → ∀ r52, r52 = cs_r S 807 x0 → ∃ d9, d9 ≤ 60 ∧ wp_X1_holds d9 (fun r53 S53 => cs_k S53 x0 = 9 ∧ ∃ m54 n54, u + m54 ≤ mc ∧ v + n54 ≤ ms ∧ wp_X7_findChain (fun r54 S54 => post r54 S54) G m54 n54 S53 x0 x1 x2 x3 r53) G S r52 x2 0)
section
variable {p : Program} {l : Launch} {e : Env} {s : State} {m : MethodId} {args : Array Value} {below : List Frame} {meth : Method} {c : Code} {P : hw_G} {G : Nat → Nat} {A : Nat → Prop}
set_option maxRecDepth 100000 in
set_option maxHeartbeats 4000000 in
theorem t_X7_look_52 {post : Int32 → cs_S → Prop} {mc ms : Nat} (hC : rf_C P RX7 p s m meth c cX7_look 5 (some .int)) (hin : meth.name = yX7_look.name) (hO : cs_O G A s s.heap) (S : cs_S) (u v : Nat) (x0 : Nat) (x1 : Option Nat) (x2 : Option Nat) (x3 : Int32) (H : Heap) (locs : List Loc) (ls : Array Slot) (h : w_X7_look_52 post G mc ms S u v x0 x1 x2 x3) (hT : cs_T P s A S H locs) (hl : lv_has ls 5 [(0, .ref x0), (1, va_rf x1), (2, va_rf x2), (3, .int x3)]) : W p l e (rm_X7_look mc ms) s m args below meth c H locs u v (MQ below (cs_Qi P A post) args s mc ms A) (F0 m 52 ls []) := by
  obtain ⟨hx, hb, hml, hown, hK, -, -⟩ := id hC
  obtain ⟨hu, hv, h⟩ := h
  refine lv_aload_n (x := x0) hx hb dX7_look_52 rfl (lv_at hl 0 rfl) ?_
  obtain ⟨hk32_, h⟩ := h
  refine cs_get hx hb hK hT hown 8 hk32_ (by decide) rfl 2 (by decide) kfX7_43 (v := .int (cs_i S 802 x0)) rfl dX7_look_53 ?_
  refine lv_bipush (v := 28) hx hb dX7_look_56 (by decide) ?_
  refine lv_icmp_ne (tgt := 82) hx hb dX7_look_58 (by decide) (fun hc => ?_) (fun hc => ?_)
  · replace h := h.1 hc
    refine lv_aload_n (x := x0) hx hb dX7_look_82 rfl (lv_at hl 0 rfl) ?_
    refine cs_get hx hb hK hT hown 8 hk32_ (by decide) rfl 2 (by decide) kfX7_43 (v := .int (cs_i S 802 x0)) rfl dX7_look_83 ?_
    refine lv_bipush (v := 31) hx hb dX7_look_86 (by decide) ?_
    refine lv_icmp_ne (tgt := 100) hx hb dX7_look_88 (by decide) (fun hc => ?_) (fun hc => ?_)
    · replace h := h.1 hc
      refine lv_iload_n hx hb dX7_look_100 rfl (lv_at hl 3 rfl) ?_
      refine lv_if_ne (tgt := 106) hx hb dX7_look_101 (by decide) (fun hc => ?_) (fun hc => ?_)
      · replace h := h.1 hc
        refine lv_aload_n (x := x0) hx hb dX7_look_106 rfl (lv_at hl 0 rfl) ?_
        refine hw_aload_n (x := x2) hx hb dX7_look_107 rfl (lv_at hl 2 rfl) ?_
        obtain ⟨b33, rfl, h⟩ := h
        obtain ⟨hk34_, h⟩ := h
        refine cs_get hx hb hK hT hown 4 hk34_ (by decide) rfl 0 (by decide) kfX7_92 (v := .int (cs_i S 400 b33)) rfl dX7_look_108 ?_
        refine cs_callv0 (cs_runV hx hb hml hown hK hO hT 8 hk32_ (by decide) rfl (c_X7_forget h) rfl rfl klX7_95 ki_X7_forget ks_X7_forget kn_X7 kc_X7_forget 1 ⟨rfl, by decide, by decide, by decide +kernel⟩ ⟨Nat.le_of_ble_eq_true rfl, Nat.le_of_ble_eq_true rfl⟩ rfl hl.1 rfl (hw_cat8 (Nat.le_of_ble_eq_true rfl)) ⟨hu, hv⟩ dX7_look_111) hT (fun S35 H locs h_ hT_ => ?_)
        replace h := h_
        replace hT := hT_
        refine lv_aload_n (x := x0) hx hb dX7_look_114 rfl (lv_at hl 0 rfl) ?_
        obtain ⟨hk36_, h⟩ := h
        refine cs_get hx hb hK hT hown 8 hk36_ (by decide) rfl 2 (by decide) kfX7_43 (v := .int (cs_i S35 802 x0)) rfl dX7_look_115 ?_
        refine lv_bipush (v := 24) hx hb dX7_look_118 (by decide) ?_
        refine lv_icmp_ne (tgt := 130) hx hb dX7_look_120 (by decide) (fun hc => ?_) (fun hc => ?_)
        · replace h := h.1 hc
          refine lv_aload_n (x := b33) hx hb dX7_look_130 rfl (lv_at hl 2 rfl) ?_
          refine lv_aload_n (x := x0) hx hb dX7_look_131 rfl (lv_at hl 0 rfl) ?_
          refine cs_get hx hb hK hT hown 8 hk36_ (by decide) rfl 4 (by decide) kfX7_103 (v := .long (cs_l S35 804 x0)) rfl dX7_look_132 ?_
          obtain ⟨hk38_, h⟩ := h
          refine cs_callr0 (cs_runV hx hb hml hown hK hO hT 4 hk38_ (by decide) rfl (c_X3_find h) rfl rfl klX7_46 ki_X3_find ks_X3_find kn_X3 kc_X3_find 1 ⟨rfl, by decide, by decide, by decide +kernel⟩ ⟨Nat.le_of_ble_eq_true rfl, Nat.le_of_ble_eq_true rfl⟩ rfl hl.1 rfl (hw_cat8 (Nat.le_of_ble_eq_true rfl)) ⟨hu, hv⟩ dX7_look_135) hT (fun r37 S37 H locs h_ hT_ => ?_)
          replace h := h_
          replace hT := hT_
          refine hw_astore (lv' := [(4, _), (0, _), (1, _), (2, _), (3, _)]) (x := r37) hx hb dX7_look_138 hl (by decide) rfl (fun ls hl_ => ?_)
          replace hl := hl_
          refine hw_aload (x := r37) hx hb dX7_look_140 (lv_at hl 0 rfl) ?_
          refine hw_ifnonnull (tgt := 147) hx hb dX7_look_142 (by decide) (fun b39 hc => ?_) (fun hc => ?_)
          · replace h := h.2 b39 hc
            subst hc
            refine lv_aload_n (x := x0) hx hb dX7_look_147 rfl (lv_at hl 1 rfl) ?_
            obtain ⟨hk40_, h⟩ := h
            refine cs_get hx hb hK hT hown 8 hk40_ (by decide) rfl 2 (by decide) kfX7_43 (v := .int (cs_i S37 802 x0)) rfl dX7_look_148 ?_
            refine lv_bipush (v := 27) hx hb dX7_look_151 (by decide) ?_
            refine lv_icmp_ne (tgt := 165) hx hb dX7_look_153 (by decide) (fun hc => ?_) (fun hc => ?_)
            · replace h := h.1 hc
              refine lv_aload_n (x := x0) hx hb dX7_look_165 rfl (lv_at hl 1 rfl) ?_
              refine cs_get hx hb hK hT hown 8 hk40_ (by decide) rfl 17 (by decide) kfX7_27 (v := va_rf (cs_r S37 817 x0)) rfl dX7_look_166 ?_
              refine hw_topr (fun r41 er41 => ?_)
              replace h := h r41 er41
              refine lv_aload_n (x := x0) hx hb dX7_look_169 rfl (lv_at hl 1 rfl) ?_
              refine cs_get hx hb hK hT hown 8 hk40_ (by decide) rfl 9 (by decide) kfX7_37 (v := .int (cs_i S37 809 x0)) rfl dX7_look_170 ?_
              refine lv_iconst (v := 3) hx hb dX7_look_173 (by decide) ?_
              refine va_mmin hx hb (hml.trans hl.1.symm) hown (hK.word klX7_111m rfl) (hK.word ki_mmin rfl) (hK.word kn_J9 rfl) (hK.word kc_mmin rfl) (Nat.le_of_ble_eq_true rfl) (hw_catN (Nat.le_of_ble_eq_true rfl) (Nat.le_of_ble_eq_true rfl)) hu hv dX7_look_174 ?_
              refine lv_aload (x := b39) hx hb dX7_look_177 (lv_at hl 0 rfl) ?_
              obtain ⟨b42, rfl, h⟩ := h
              obtain ⟨hk43_, h⟩ := h
              obtain ⟨hi, h⟩ := h
              obtain ⟨he, h⟩ := h
              refine cs_aast (x := (some b39)) hx hb hK hT 26 hk43_ (by decide) (ci := 10) rfl (by decide) rfl (by decide) hi he dX7_look_179 (fun H locs hT_ => ?_)
              replace hT := hT_
              obtain ⟨S44, eS44⟩ : ∃ z, z = cs_uar S37 b42 (if 3 < cs_i S37 809 x0 then 3 else cs_i S37 809 x0).toNatClampNeg (some b39) := ⟨_, rfl⟩
              rw [← eS44] at hT
              replace h := h S44 eS44
              refine lv_aload_n (x := x0) hx hb dX7_look_180 rfl (lv_at hl 1 rfl) ?_
              refine hw_aload_n (x := x1) hx hb dX7_look_181 rfl (lv_at hl 2 rfl) ?_
              refine lv_aload_n (x := b33) hx hb dX7_look_182 rfl (lv_at hl 3 rfl) ?_
              refine lv_aload_n (x := x0) hx hb dX7_look_183 rfl (lv_at hl 1 rfl) ?_
              refine lv_aload_n (x := x0) hx hb dX7_look_184 rfl (lv_at hl 1 rfl) ?_
              obtain ⟨hk45_, h⟩ := h
              refine cs_get hx hb hK hT hown 8 hk45_ (by decide) rfl 9 (by decide) kfX7_37 (v := .int (cs_i S44 809 x0)) rfl dX7_look_185 ?_
              refine lv_iconst (v := 1) hx hb dX7_look_188 (by decide) ?_
              refine lv_iadd hx hb dX7_look_189 ?_
              obtain ⟨m46, n46, hu46, hv46, h⟩ := h
              refine cs_callr (cs_runV hx hb hml hown hK hO hT 8 hk45_ (by decide) rfl (c_X7_keyOfWanted h) rfl rfl klX7_52 ki_X7_keyOfWanted ks_X7_keyOfWanted kn_X7 kc_X7_keyOfWanted 1 ⟨rfl, by decide, by decide, by decide +kernel⟩ ⟨Nat.le_of_ble_eq_true rfl, Nat.le_of_ble_eq_true rfl⟩ rfl hl.1 rfl (hw_cat8 (Nat.le_of_ble_eq_true rfl)) ⟨hu46, hv46⟩ dX7_look_190) hT (fun r46 S46 H locs h_ hT_ => ?_)
              replace h := h_
              replace hT := hT_
              obtain ⟨hk48_, h⟩ := h
              obtain ⟨m47, n47, hu47, hv47, h⟩ := h
              refine cs_calli (cs_runV hx hb hml hown hK hO hT 8 hk48_ (by decide) rfl (c_X7_findDistinct h) rfl rfl klX7_114 ki_X7_findDistinct ks_X7_findDistinct kn_X7 kc_X7_findDistinct 3 ⟨rfl, by decide, by decide, by decide +kernel⟩ ⟨Nat.le_of_ble_eq_true rfl, Nat.le_of_ble_eq_true rfl⟩ rfl hl.1 rfl (hw_cat8 (Nat.le_of_ble_eq_true rfl)) ⟨hu47, hv47⟩ dX7_look_193) hT (fun r47 S47 H locs h_ hT_ => ?_)
              replace h := h_
              replace hT := hT_
              exact cs_iret hC hT h dX7_look_196 hu47 hv47
            · replace h := h.2 hc
              refine lv_aload_n (x := x0) hx hb dX7_look_156 rfl (lv_at hl 1 rfl) ?_
              refine hw_aload_n (x := x1) hx hb dX7_look_157 rfl (lv_at hl 2 rfl) ?_
              refine lv_aload_n (x := b33) hx hb dX7_look_158 rfl (lv_at hl 3 rfl) ?_
              refine lv_aload (x := b39) hx hb dX7_look_159 (lv_at hl 0 rfl) ?_
              obtain ⟨m49, n49, hu49, hv49, h⟩ := h
              refine cs_calli (cs_runV hx hb hml hown hK hO hT 8 hk40_ (by decide) rfl (c_X7_findSum h) rfl rfl klX7_107 ki_X7_findSum ks_X7_findSum kn_X7 kc_X7_findSum 3 ⟨rfl, by decide, by decide, by decide +kernel⟩ ⟨Nat.le_of_ble_eq_true rfl, Nat.le_of_ble_eq_true rfl⟩ rfl hl.1 rfl (hw_cat8 (Nat.le_of_ble_eq_true rfl)) ⟨hu49, hv49⟩ dX7_look_161) hT (fun r49 S49 H locs h_ hT_ => ?_)
              replace h := h_
              replace hT := hT_
              exact cs_iret hC hT h dX7_look_164 hu49 hv49
          · replace h := h.1 hc
            subst hc
            refine lv_iconst (v := (-1)) hx hb dX7_look_145 (by decide) ?_
            exact cs_iret hC hT h dX7_look_146 hu hv
        · replace h := h.2 hc
          refine lv_aload_n (x := x0) hx hb dX7_look_123 rfl (lv_at hl 0 rfl) ?_
          refine hw_aload_n (x := x1) hx hb dX7_look_124 rfl (lv_at hl 1 rfl) ?_
          refine lv_aload_n (x := b33) hx hb dX7_look_125 rfl (lv_at hl 2 rfl) ?_
          obtain ⟨m50, n50, hu50, hv50, h⟩ := h
          refine cs_calli (cs_runV hx hb hml hown hK hO hT 8 hk36_ (by decide) rfl (c_X7_findCount h) rfl rfl klX7_99 ki_X7_findCount ks_X7_findCount kn_X7 kc_X7_findCount 2 ⟨rfl, by decide, by decide, by decide +kernel⟩ ⟨Nat.le_of_ble_eq_true rfl, Nat.le_of_ble_eq_true rfl⟩ rfl hl.1 rfl (hw_cat8 (Nat.le_of_ble_eq_true rfl)) ⟨hu50, hv50⟩ dX7_look_126) hT (fun r50 S50 H locs h_ hT_ => ?_)
          replace h := h_
          replace hT := hT_
          exact cs_iret hC hT h dX7_look_129 hu50 hv50
      · replace h := h.2 hc
        refine lv_iconst (v := (-1)) hx hb dX7_look_104 (by decide) ?_
        exact cs_iret hC hT h dX7_look_105 hu hv
    · replace h := h.2 hc
      refine lv_aload_n (x := x0) hx hb dX7_look_91 rfl (lv_at hl 0 rfl) ?_
      refine hw_aload_n (x := x1) hx hb dX7_look_92 rfl (lv_at hl 1 rfl) ?_
      refine hw_aload_n (x := x2) hx hb dX7_look_93 rfl (lv_at hl 2 rfl) ?_
      refine lv_iload_n hx hb dX7_look_94 rfl (lv_at hl 3 rfl) ?_
      obtain ⟨m51, n51, hu51, hv51, h⟩ := h
      refine cs_callv (cs_runV hx hb hml hown hK hO hT 8 hk32_ (by decide) rfl (c_X7_waitForSecond h) rfl rfl klX7_88 ki_X7_waitForSecond ks_X7_waitForSecond kn_X7 kc_X7_waitForSecond 3 ⟨rfl, by decide, by decide, by decide +kernel⟩ ⟨Nat.le_of_ble_eq_true rfl, Nat.le_of_ble_eq_true rfl⟩ rfl hl.1 rfl (hw_cat8 (Nat.le_of_ble_eq_true rfl)) ⟨hu51, hv51⟩ dX7_look_95) hT (fun S51 H locs h_ hT_ => ?_)
      replace h := h_
      replace hT := hT_
      refine lv_iconst (v := (-1)) hx hb dX7_look_98 (by decide) ?_
      exact cs_iret hC hT h dX7_look_99 hu51 hv51
  · replace h := h.2 hc
    refine lv_aload_n (x := x0) hx hb dX7_look_61 rfl (lv_at hl 0 rfl) ?_
    refine cs_get hx hb hK hT hown 8 hk32_ (by decide) rfl 7 (by decide) kfX7_80 (v := va_rf (cs_r S 807 x0)) rfl dX7_look_62 ?_
    refine hw_topr (fun r52 er52 => ?_)
    replace h := h r52 er52
    refine hw_aload_n (x := x2) hx hb dX7_look_65 rfl (lv_at hl 2 rfl) ?_
    refine lv_iconst (v := 0) hx hb dX7_look_66 (by decide) ?_
    obtain ⟨d9, hd9, h⟩ := h
    refine cs_calli0 (cs_runSN hx hb hml hown hK hO hT (c_X1_holds d9 h) rfl rfl klnX7_76 ki_X1_holds kn_X1 kc_X1_holds 3 ⟨by decide, by decide, by decide +kernel⟩ ⟨by show 2 + d9 + 1 ≤ _; exact Nat.le_trans (Nat.add_le_add_right (Nat.add_le_add_left hd9 _) 1) (Nat.le_of_ble_eq_true rfl), by show 8 + (5 + 11) + (49 + 40 * d9) ≤ _; exact Nat.le_trans (Nat.add_le_add_left (Nat.add_le_add_left (Nat.mul_le_mul_left 40 hd9) _) _) (Nat.le_of_ble_eq_true rfl)⟩ rfl hl.1 rfl (hw_cat8 (Nat.le_of_ble_eq_true rfl)) ⟨hu, hv⟩ dX7_look_67) hT (fun r53 S53 H locs h_ hT_ => ?_)
    replace h := h_
    replace hT := hT_
    refine lv_istore (lv' := [(4, _), (0, _), (1, _), (2, _), (3, _)]) hx hb dX7_look_70 hl (by decide) rfl (fun ls hl_ => ?_)
    replace hl := hl_
    refine lv_aload_n (x := x0) hx hb dX7_look_72 rfl (lv_at hl 1 rfl) ?_
    refine hw_aload_n (x := x1) hx hb dX7_look_73 rfl (lv_at hl 2 rfl) ?_
    refine hw_aload_n (x := x2) hx hb dX7_look_74 rfl (lv_at hl 3 rfl) ?_
    refine lv_iload_n hx hb dX7_look_75 rfl (lv_at hl 4 rfl) ?_
    refine lv_iload hx hb dX7_look_76 (lv_at hl 0 rfl) ?_
    obtain ⟨hk55_, h⟩ := h
    obtain ⟨m54, n54, hu54, hv54, h⟩ := h
    refine cs_calli (cs_runV hx hb hml hown hK hO hT 8 hk55_ (by decide) rfl (c_X7_findChain h) rfl rfl klX7_84 ki_X7_findChain ks_X7_findChain kn_X7 kc_X7_findChain 4 ⟨rfl, by decide, by decide, by decide +kernel⟩ ⟨Nat.le_of_ble_eq_true rfl, Nat.le_of_ble_eq_true rfl⟩ rfl hl.1 rfl (hw_cat8 (Nat.le_of_ble_eq_true rfl)) ⟨hu54, hv54⟩ dX7_look_78) hT (fun r54 S54 H locs h_ hT_ => ?_)
    replace h := h_
    replace hT := hT_
    exact cs_iret hC hT h dX7_look_81 hu54 hv54
end
def w_X7_look_46 (post : Int32 → cs_S → Prop) (G : Nat → Nat) (mc ms : Nat) (k5 : cs_S → Nat → Nat → Nat → Option Nat → Option Nat → Int32 → Int32 → Prop) (S : cs_S) (u v : Nat) (x0 : Nat) (x1 : Option Nat) (x2 : Option Nat) (x3 : Int32) (x4 : Int32) : Prop := u ≤ mc ∧ v ≤ ms ∧ k5 S u v x0 x1 x2 x3 (x4 + 1)
section
variable {p : Program} {l : Launch} {e : Env} {s : State} {m : MethodId} {args : Array Value} {below : List Frame} {meth : Method} {c : Code} {P : hw_G} {G : Nat → Nat} {A : Nat → Prop}
set_option maxRecDepth 100000 in
set_option maxHeartbeats 4000000 in
theorem t_X7_look_46 {post : Int32 → cs_S → Prop} {mc ms : Nat} {k5 : cs_S → Nat → Nat → Nat → Option Nat → Option Nat → Int32 → Int32 → Prop} (hC : rf_C P RX7 p s m meth c cX7_look 5 (some .int)) (hin : meth.name = yX7_look.name) (hO : cs_O G A s s.heap) (hk5 : ∀ (S : cs_S) (u v : Nat) (x0 : Nat) (x1 : Option Nat) (x2 : Option Nat) (x3 : Int32) (x4 : Int32) (H : Heap) (locs : List Loc) (ls : Array Slot), k5 S u v x0 x1 x2 x3 x4 → cs_T P s A S H locs → lv_has ls 5 [(0, .ref x0), (1, va_rf x1), (2, va_rf x2), (3, .int x3), (4, .int x4)] → W p l e (rm_X7_look mc ms) s m args below meth c H locs u v (MQ below (cs_Qi P A post) args s mc ms A) (F0 m 5 ls [])) (S : cs_S) (u v : Nat) (x0 : Nat) (x1 : Option Nat) (x2 : Option Nat) (x3 : Int32) (x4 : Int32) (H : Heap) (locs : List Loc) (ls : Array Slot) (h : w_X7_look_46 post G mc ms k5 S u v x0 x1 x2 x3 x4) (hT : cs_T P s A S H locs) (hl : lv_has ls 5 [(0, .ref x0), (1, va_rf x1), (2, va_rf x2), (3, .int x3), (4, .int x4)]) : W p l e (rm_X7_look mc ms) s m args below meth c H locs u v (MQ below (cs_Qi P A post) args s mc ms A) (F0 m 46 ls []) := by
  obtain ⟨hx, hb, hml, hown, hK, -, -⟩ := id hC
  obtain ⟨hu, hv, h⟩ := h
  refine lv_iinc (v := x4 + 1) (lv' := [(4, _), (0, _), (1, _), (2, _), (3, _)]) hx hb dX7_look_46 hl (k := 4) rfl rfl (by decide) rfl (fun ls hl_ => ?_)
  replace hl := hl_
  refine lv_goto (tgt := 5) hx hb dX7_look_49 (by decide) ?_
  exact hk5 S u v x0 x1 x2 x3 (x4 + 1) _ _ _ h hT (lv_sub hl [1, 2, 3, 4, 0] rfl)
end
def w_X7_look_5 (post : Int32 → cs_S → Prop) (G : Nat → Nat) (mc ms : Nat) : Nat → cs_S → Nat → Nat → Nat → Option Nat → Option Nat → Int32 → Int32 → Prop
  | 0, _, _, _, _, _, _, _, _ => False
  | n + 1, S, u, v, x0, x1, x2, x3, x4 => u ≤ mc ∧ v ≤ ms ∧ cs_k S x0 = 9 ∧ ((cs_i S 806 x0) ≤ x4 → w_X7_look_52 post G mc ms S u v x0 x1 x2 x3) ∧ (¬ (cs_i S 806 x0) ≤ x4 → ∀ r57, r57 = cs_r S 805 x0 → ∃ b58, r57 = some b58 ∧ cs_k S b58 = 24 ∧ ((Int32.ofNat (cs_n S b58)) ≤ x4 → w_X7_look_52 post G mc ms S u v x0 x1 x2 x3) ∧ (¬ (Int32.ofNat (cs_n S b58)) ≤ x4 → ∀ r60, r60 = cs_r S 805 x0 → ∃ b61, r60 = some b61 ∧ cs_k S b61 = 24 ∧ vp_in x4 (cs_n S b61) ∧ ∀ r63, r63 = cs_ar S b61 x4.toNatClampNeg → ∃ d9, d9 ≤ 60 ∧ wp_X1_holds d9 (fun r64 S64 => (r64 = 0 → w_X7_look_46 post G mc ms (w_X7_look_5 post G mc ms n) S64 u v x0 x1 x2 x3 x4) ∧ (¬ r64 = 0 → w_X7_look_46 post G mc ms (w_X7_look_5 post G mc ms n) S64 u v x0 x1 x2 (x3 ||| ((1 : Int32) <<< (x4 &&& 31))) x4)) G S r63 x2 0))
section
variable {p : Program} {l : Launch} {e : Env} {s : State} {m : MethodId} {args : Array Value} {below : List Frame} {meth : Method} {c : Code} {P : hw_G} {G : Nat → Nat} {A : Nat → Prop}
set_option maxRecDepth 100000 in
set_option maxHeartbeats 4000000 in
theorem t_X7_look_5 {post : Int32 → cs_S → Prop} {mc ms : Nat} (hC : rf_C P RX7 p s m meth c cX7_look 5 (some .int)) (hin : meth.name = yX7_look.name) (hO : cs_O G A s s.heap) : ∀ (n : Nat) (S : cs_S) (u v : Nat) (x0 : Nat) (x1 : Option Nat) (x2 : Option Nat) (x3 : Int32) (x4 : Int32) (H : Heap) (locs : List Loc) (ls : Array Slot), w_X7_look_5 post G mc ms n S u v x0 x1 x2 x3 x4 → cs_T P s A S H locs → lv_has ls 5 [(0, .ref x0), (1, va_rf x1), (2, va_rf x2), (3, .int x3), (4, .int x4)] → W p l e (rm_X7_look mc ms) s m args below meth c H locs u v (MQ below (cs_Qi P A post) args s mc ms A) (F0 m 5 ls []) := by
  obtain ⟨hx, hb, hml, hown, hK, -, -⟩ := id hC
  intro n
  induction n with
  | zero => intro S u v x0 x1 x2 x3 x4 H locs ls h; exact False.elim h
  | succ n ih =>
    intro S u v x0 x1 x2 x3 x4 H locs ls h hT hl
    obtain ⟨hu, hv, h⟩ := h
    refine lv_iload hx hb dX7_look_5 (lv_at hl 4 rfl) ?_
    refine lv_aload_n (x := x0) hx hb dX7_look_7 rfl (lv_at hl 0 rfl) ?_
    obtain ⟨hk56_, h⟩ := h
    refine cs_get hx hb hK hT hown 8 hk56_ (by decide) rfl 6 (by decide) kfX7_40 (v := .int (cs_i S 806 x0)) rfl dX7_look_8 ?_
    refine lv_icmp_ge (tgt := 52) hx hb dX7_look_11 (by decide) (fun hc => ?_) (fun hc => ?_)
    · replace h := h.1 hc
      exact t_X7_look_52 hC hin hO S u v x0 x1 x2 x3 _ _ _ h hT (lv_sub hl [0, 1, 2, 3] rfl)
    · replace h := h.2 hc
      refine lv_iload hx hb dX7_look_14 (lv_at hl 4 rfl) ?_
      refine lv_aload_n (x := x0) hx hb dX7_look_16 rfl (lv_at hl 0 rfl) ?_
      refine cs_get hx hb hK hT hown 8 hk56_ (by decide) rfl 5 (by decide) kfX7_17 (v := va_rf (cs_r S 805 x0)) rfl dX7_look_17 ?_
      refine hw_topr (fun r57 er57 => ?_)
      replace h := h r57 er57
      obtain ⟨b58, rfl, h⟩ := h
      obtain ⟨hk59_, h⟩ := h
      refine cs_alen hx hb hK hT 24 hk59_ (by decide) (by decide) dX7_look_20 ?_
      refine lv_icmp_ge (tgt := 52) hx hb dX7_look_21 (by decide) (fun hc => ?_) (fun hc => ?_)
      · replace h := h.1 hc
        exact t_X7_look_52 hC hin hO S u v x0 x1 x2 x3 _ _ _ h hT (lv_sub hl [0, 1, 2, 3] rfl)
      · replace h := h.2 hc
        refine lv_aload_n (x := x0) hx hb dX7_look_24 rfl (lv_at hl 0 rfl) ?_
        refine cs_get hx hb hK hT hown 8 hk56_ (by decide) rfl 5 (by decide) kfX7_17 (v := va_rf (cs_r S 805 x0)) rfl dX7_look_25 ?_
        refine hw_topr (fun r60 er60 => ?_)
        replace h := h r60 er60
        refine lv_iload hx hb dX7_look_28 (lv_at hl 4 rfl) ?_
        obtain ⟨b61, rfl, h⟩ := h
        obtain ⟨hk62_, h⟩ := h
        obtain ⟨hi, h⟩ := h
        refine cs_aald hx hb hK hT 24 hk62_ (by decide) rfl (by decide) hi dX7_look_30 ?_
        refine hw_topr (fun r63 er63 => ?_)
        replace h := h r63 er63
        refine hw_aload_n (x := x2) hx hb dX7_look_31 rfl (lv_at hl 2 rfl) ?_
        refine lv_iconst (v := 0) hx hb dX7_look_32 (by decide) ?_
        obtain ⟨d9, hd9, h⟩ := h
        refine cs_calli0 (cs_runSN hx hb hml hown hK hO hT (c_X1_holds d9 h) rfl rfl klnX7_76 ki_X1_holds kn_X1 kc_X1_holds 3 ⟨by decide, by decide, by decide +kernel⟩ ⟨by show 2 + d9 + 1 ≤ _; exact Nat.le_trans (Nat.add_le_add_right (Nat.add_le_add_left hd9 _) 1) (Nat.le_of_ble_eq_true rfl), by show 8 + (5 + 11) + (49 + 40 * d9) ≤ _; exact Nat.le_trans (Nat.add_le_add_left (Nat.add_le_add_left (Nat.mul_le_mul_left 40 hd9) _) _) (Nat.le_of_ble_eq_true rfl)⟩ rfl hl.1 rfl (hw_cat8 (Nat.le_of_ble_eq_true rfl)) ⟨hu, hv⟩ dX7_look_33) hT (fun r64 S64 H locs h_ hT_ => ?_)
        replace h := h_
        replace hT := hT_
        refine lv_if_eq (tgt := 46) hx hb dX7_look_36 (by decide) (fun hc => ?_) (fun hc => ?_)
        · replace h := h.1 hc
          exact t_X7_look_46 hC hin hO ih S64 u v x0 x1 x2 x3 x4 _ _ _ h hT (lv_sub hl [0, 1, 2, 3, 4] rfl)
        · replace h := h.2 hc
          refine lv_iload_n hx hb dX7_look_39 rfl (lv_at hl 3 rfl) ?_
          refine lv_iconst (v := 1) hx hb dX7_look_40 (by decide) ?_
          refine lv_iload hx hb dX7_look_41 (lv_at hl 4 rfl) ?_
          refine lv_ishl hx hb dX7_look_43 ?_
          refine lv_ior hx hb dX7_look_44 ?_
          refine lv_istore_n (lv' := [(3, _), (0, _), (1, _), (2, _), (4, _)]) hx hb dX7_look_45 rfl hl (by decide) (congrArg (List.cons _) ((hw_flt (fun q hq => by simp only [List.mem_cons, List.not_mem_nil, or_false] at hq; rcases hq with rfl | rfl | rfl | rfl | rfl <;> first | exact fun _ => rfl | exact fun _ => va_rf_cat _ | (intro h; simp at h))).trans rfl)) (fun ls hl_ => ?_)
          replace hl := hl_
          exact t_X7_look_46 hC hin hO ih S64 u v x0 x1 x2 (x3 ||| ((1 : Int32) <<< (x4 &&& 31))) x4 _ _ _ h hT (lv_sub hl [1, 2, 3, 0, 4] rfl)
end
def wp_X7_look (post : Int32 → cs_S → Prop) (G : Nat → Nat) (mc ms : Nat) (S : cs_S) (o : Nat) (p1 : Option Nat) (p2 : Option Nat) : Prop := ∃ n9, w_X7_look_5 post G mc ms n9 S 0 0 o p1 p2 0 0
set_option maxRecDepth 100000 in
set_option maxHeartbeats 4000000 in
theorem c_X7_look {l : Launch} {P : hw_G} {G : Nat → Nat} {S : cs_S} {sz : Nat} {mc ms : Nat} {o : Nat} {p1 : Option Nat} {p2 : Option Nat} {post : Int32 → cs_S → Prop} (h : wp_X7_look post G mc ms S o p1 p2) : Met l yX7_look [Cond.code yX7_look cX7_look 5 (some .int)] (rm_X7_look mc ms) (cs_Pc P G S sz [.ref o, va_rf p1, va_rf p2]) (cs_Qi P (cs_A S sz) post) mc ms (cs_A S sz) := by
  refine cs_met (by decide) rfl (by cases p1 <;> cases p2 <;> exact Nat.le_of_ble_eq_true rfl) ?_
  intro p e s m below meth c ls hC hin hO hT hl
  obtain ⟨hx, hb, hml, hown, hK, -, -⟩ := id hC
  replace hl : lv_has ls 5 [(0, .ref o), (1, va_rf p1), (2, va_rf p2)] := by cases p1 <;> cases p2 <;> exact hl
  refine lv_iconst (v := 0) hx hb dX7_look_0 (by decide) ?_
  refine lv_istore_n (lv' := [(3, _), (0, _), (1, _), (2, _)]) hx hb dX7_look_1 rfl hl (by decide) (congrArg (List.cons _) ((hw_flt (fun q hq => by simp only [List.mem_cons, List.not_mem_nil, or_false] at hq; rcases hq with rfl | rfl | rfl <;> first | exact fun _ => rfl | exact fun _ => va_rf_cat _ | (intro h; simp at h))).trans rfl)) (fun ls hl_ => ?_)
  replace hl := hl_
  refine lv_iconst (v := 0) hx hb dX7_look_2 (by decide) ?_
  refine lv_istore (lv' := [(4, _), (3, _), (0, _), (1, _), (2, _)]) hx hb dX7_look_3 hl (by decide) rfl (fun ls hl_ => ?_)
  replace hl := hl_
  obtain ⟨n9, h⟩ := h
  exact t_X7_look_5 hC hin hO n9 S 0 0 o p1 p2 0 0 _ _ _ h hT (lv_sub hl [2, 3, 4, 1, 0] rfl)
/-! X7_nextDue -/
abbrev rm_X7_nextDue : Room := { frames := 0, cells := 0, slots := 0, locals := 0 }
def w_X7_nextDue_81 (post : Int32 → cs_S → Prop) (G : Nat → Nat) (S : cs_S) (y0 : Int32) : Prop := post y0 S
section
variable {p : Program} {l : Launch} {e : Env} {s : State} {m : MethodId} {args : Array Value} {below : List Frame} {meth : Method} {c : Code} {P : hw_G} {G : Nat → Nat} {A : Nat → Prop}
set_option maxRecDepth 100000 in
set_option maxHeartbeats 4000000 in
theorem t_X7_nextDue_81 {post : Int32 → cs_S → Prop} (hC : rf_C P RX7 p s m meth c cX7_nextDue 1 (some .int)) (hin : meth.name = yX7_nextDue.name) (hO : cs_O G A s s.heap) (S : cs_S) (y0 : Int32) (H : Heap) (locs : List Loc) (ls : Array Slot) (h : w_X7_nextDue_81 post G S y0) (hT : cs_T P s A S H locs) (hl : lv_has ls 1 []) : W p l e rm_X7_nextDue s m args below meth c H locs 0 0 (MQ below (cs_Qi P A post) args s 0 0 A) (F0 m 81 ls [.int y0]) := by
  obtain ⟨hx, hb, hml, hown, hK, -, -⟩ := id hC
  exact cs_iret hC hT h dX7_nextDue_81 (Nat.le_refl _) (Nat.le_refl _)
end
def w_X7_nextDue_55 (post : Int32 → cs_S → Prop) (G : Nat → Nat) (S : cs_S) (x0 : Nat) : Prop := cs_k S x0 = 9 ∧ ∀ r28, r28 = cs_r S 814 x0 → (r28 = none → w_X7_nextDue_81 post G S ((-1))) ∧ (∀ b29, r28 = some b29 → ∀ r30, r30 = cs_r S 814 x0 → ∃ b31, r30 = some b31 ∧ cs_k S b31 = 4 ∧ ∀ r33, r33 = cs_r S 300 b31 → ∃ b34, r33 = some b34 ∧ cs_k S b34 = 5 ∧ w_X7_nextDue_81 post G S ((cs_i S 400 b34) + (cs_i S 810 x0)))
section
variable {p : Program} {l : Launch} {e : Env} {s : State} {m : MethodId} {args : Array Value} {below : List Frame} {meth : Method} {c : Code} {P : hw_G} {G : Nat → Nat} {A : Nat → Prop}
set_option maxRecDepth 100000 in
set_option maxHeartbeats 4000000 in
theorem t_X7_nextDue_55 {post : Int32 → cs_S → Prop} (hC : rf_C P RX7 p s m meth c cX7_nextDue 1 (some .int)) (hin : meth.name = yX7_nextDue.name) (hO : cs_O G A s s.heap) (S : cs_S) (x0 : Nat) (H : Heap) (locs : List Loc) (ls : Array Slot) (h : w_X7_nextDue_55 post G S x0) (hT : cs_T P s A S H locs) (hl : lv_has ls 1 [(0, .ref x0)]) : W p l e rm_X7_nextDue s m args below meth c H locs 0 0 (MQ below (cs_Qi P A post) args s 0 0 A) (F0 m 55 ls []) := by
  obtain ⟨hx, hb, hml, hown, hK, -, -⟩ := id hC
  refine lv_aload_n (x := x0) hx hb dX7_nextDue_55 rfl (lv_at hl 0 rfl) ?_
  obtain ⟨hk27_, h⟩ := h
  refine cs_get hx hb hK hT hown 8 hk27_ (by decide) rfl 14 (by decide) kfX7_177 (v := va_rf (cs_r S 814 x0)) rfl dX7_nextDue_56 ?_
  refine hw_topr (fun r28 er28 => ?_)
  replace h := h r28 er28
  refine hw_ifnonnull (tgt := 66) hx hb dX7_nextDue_59 (by decide) (fun b29 hc => ?_) (fun hc => ?_)
  · replace h := h.2 b29 hc
    subst hc
    refine lv_aload_n (x := x0) hx hb dX7_nextDue_66 rfl (lv_at hl 0 rfl) ?_
    refine cs_get hx hb hK hT hown 8 hk27_ (by decide) rfl 14 (by decide) kfX7_177 (v := va_rf (cs_r S 814 x0)) rfl dX7_nextDue_67 ?_
    refine hw_topr (fun r30 er30 => ?_)
    replace h := h r30 er30
    obtain ⟨b31, rfl, h⟩ := h
    obtain ⟨hk32_, h⟩ := h
    refine cs_get hx hb hK hT hown 3 hk32_ (by decide) rfl 0 (by decide) kfX7_143 (v := va_rf (cs_r S 300 b31)) rfl dX7_nextDue_70 ?_
    refine hw_topr (fun r33 er33 => ?_)
    replace h := h r33 er33
    obtain ⟨b34, rfl, h⟩ := h
    obtain ⟨hk35_, h⟩ := h
    refine cs_get hx hb hK hT hown 4 hk35_ (by decide) rfl 0 (by decide) kfX7_92 (v := .int (cs_i S 400 b34)) rfl dX7_nextDue_73 ?_
    refine lv_aload_n (x := x0) hx hb dX7_nextDue_76 rfl (lv_at hl 0 rfl) ?_
    refine cs_get hx hb hK hT hown 8 hk27_ (by decide) rfl 10 (by decide) kfX7_147 (v := .int (cs_i S 810 x0)) rfl dX7_nextDue_77 ?_
    refine lv_iadd hx hb dX7_nextDue_80 ?_
    exact t_X7_nextDue_81 hC hin hO S ((cs_i S 400 b34) + (cs_i S 810 x0)) _ _ _ h hT (lv_sub hl [] rfl)
  · replace h := h.1 hc
    subst hc
    refine lv_iconst (v := (-1)) hx hb dX7_nextDue_62 (by decide) ?_
    refine lv_goto (tgt := 81) hx hb dX7_nextDue_63 (by decide) ?_
    exact t_X7_nextDue_81 hC hin hO S ((-1)) _ _ _ h hT (lv_sub hl [] rfl)
end
def w_X7_nextDue_11 (post : Int32 → cs_S → Prop) (G : Nat → Nat) : Nat → cs_S → Nat → Prop
  | 0, _, _ => False
  | n + 1, S, x0 => cs_k S x0 = 9 ∧ ∀ r37, r37 = cs_r S 814 x0 → (r37 = none → w_X7_nextDue_55 post G S x0) ∧ (∀ b38, r37 = some b38 → ∀ r39, r39 = cs_r S 814 x0 → ∃ b40, r39 = some b40 ∧ cs_k S b40 = 4 ∧ ∀ r42, r42 = cs_r S 300 b40 → ∃ b43, r42 = some b43 ∧ cs_k S b43 = 5 ∧ ∀ r45, r45 = cs_r S 814 x0 → ∃ b46, r45 = some b46 ∧ cs_k S b46 = 4 ∧ ∀ r48, r48 = cs_r S 301 b46 → ∃ b49, r48 = some b49 ∧ cs_k S b49 = 6 ∧ ((cs_i S 514 b49) ≤ (cs_i S 405 b43) → w_X7_nextDue_55 post G S x0) ∧ (¬ (cs_i S 514 b49) ≤ (cs_i S 405 b43) → ∀ r51, r51 = cs_r S 814 x0 → ∃ b52, r51 = some b52 ∧ cs_k S b52 = 4 ∧ ∀ r54, r54 = cs_r S 304 b52 → ∀ S55, S55 = cs_ur S 814 x0 r54 → w_X7_nextDue_11 post G n S55 x0))
section
variable {p : Program} {l : Launch} {e : Env} {s : State} {m : MethodId} {args : Array Value} {below : List Frame} {meth : Method} {c : Code} {P : hw_G} {G : Nat → Nat} {A : Nat → Prop}
set_option maxRecDepth 100000 in
set_option maxHeartbeats 4000000 in
theorem t_X7_nextDue_11 {post : Int32 → cs_S → Prop} (hC : rf_C P RX7 p s m meth c cX7_nextDue 1 (some .int)) (hin : meth.name = yX7_nextDue.name) (hO : cs_O G A s s.heap) : ∀ (n : Nat) (S : cs_S) (x0 : Nat) (H : Heap) (locs : List Loc) (ls : Array Slot), w_X7_nextDue_11 post G n S x0 → cs_T P s A S H locs → lv_has ls 1 [(0, .ref x0)] → W p l e rm_X7_nextDue s m args below meth c H locs 0 0 (MQ below (cs_Qi P A post) args s 0 0 A) (F0 m 11 ls []) := by
  obtain ⟨hx, hb, hml, hown, hK, -, -⟩ := id hC
  intro n
  induction n with
  | zero => intro S x0 H locs ls h; exact False.elim h
  | succ n ih =>
    intro S x0 H locs ls h hT hl
    refine lv_aload_n (x := x0) hx hb dX7_nextDue_11 rfl (lv_at hl 0 rfl) ?_
    obtain ⟨hk36_, h⟩ := h
    refine cs_get hx hb hK hT hown 8 hk36_ (by decide) rfl 14 (by decide) kfX7_177 (v := va_rf (cs_r S 814 x0)) rfl dX7_nextDue_12 ?_
    refine hw_topr (fun r37 er37 => ?_)
    replace h := h r37 er37
    refine hw_ifnull (tgt := 55) hx hb dX7_nextDue_15 (by decide) (fun hc => ?_) (fun b38 hc => ?_)
    · replace h := h.1 hc
      subst hc
      exact t_X7_nextDue_55 hC hin hO S x0 _ _ _ h hT (lv_sub hl [0] rfl)
    · replace h := h.2 b38 hc
      subst hc
      refine lv_aload_n (x := x0) hx hb dX7_nextDue_18 rfl (lv_at hl 0 rfl) ?_
      refine cs_get hx hb hK hT hown 8 hk36_ (by decide) rfl 14 (by decide) kfX7_177 (v := va_rf (cs_r S 814 x0)) rfl dX7_nextDue_19 ?_
      refine hw_topr (fun r39 er39 => ?_)
      replace h := h r39 er39
      obtain ⟨b40, rfl, h⟩ := h
      obtain ⟨hk41_, h⟩ := h
      refine cs_get hx hb hK hT hown 3 hk41_ (by decide) rfl 0 (by decide) kfX7_143 (v := va_rf (cs_r S 300 b40)) rfl dX7_nextDue_22 ?_
      refine hw_topr (fun r42 er42 => ?_)
      replace h := h r42 er42
      obtain ⟨b43, rfl, h⟩ := h
      obtain ⟨hk44_, h⟩ := h
      refine cs_get hx hb hK hT hown 4 hk44_ (by decide) rfl 5 (by decide) kfX7_150 (v := .int (cs_i S 405 b43)) rfl dX7_nextDue_25 ?_
      refine lv_aload_n (x := x0) hx hb dX7_nextDue_28 rfl (lv_at hl 0 rfl) ?_
      refine cs_get hx hb hK hT hown 8 hk36_ (by decide) rfl 14 (by decide) kfX7_177 (v := va_rf (cs_r S 814 x0)) rfl dX7_nextDue_29 ?_
      refine hw_topr (fun r45 er45 => ?_)
      replace h := h r45 er45
      obtain ⟨b46, rfl, h⟩ := h
      obtain ⟨hk47_, h⟩ := h
      refine cs_get hx hb hK hT hown 3 hk47_ (by decide) rfl 1 (by decide) kfX7_167 (v := va_rf (cs_r S 301 b46)) rfl dX7_nextDue_32 ?_
      refine hw_topr (fun r48 er48 => ?_)
      replace h := h r48 er48
      obtain ⟨b49, rfl, h⟩ := h
      obtain ⟨hk50_, h⟩ := h
      refine cs_get hx hb hK hT hown 5 hk50_ (by decide) rfl 14 (by decide) kfX7_191 (v := .int (cs_i S 514 b49)) rfl dX7_nextDue_35 ?_
      refine lv_icmp_ge (tgt := 55) hx hb dX7_nextDue_38 (by decide) (fun hc => ?_) (fun hc => ?_)
      · replace h := h.1 hc
        exact t_X7_nextDue_55 hC hin hO S x0 _ _ _ h hT (lv_sub hl [0] rfl)
      · replace h := h.2 hc
        refine lv_aload_n (x := x0) hx hb dX7_nextDue_41 rfl (lv_at hl 0 rfl) ?_
        refine lv_aload_n (x := x0) hx hb dX7_nextDue_42 rfl (lv_at hl 0 rfl) ?_
        refine cs_get hx hb hK hT hown 8 hk36_ (by decide) rfl 14 (by decide) kfX7_177 (v := va_rf (cs_r S 814 x0)) rfl dX7_nextDue_43 ?_
        refine hw_topr (fun r51 er51 => ?_)
        replace h := h r51 er51
        obtain ⟨b52, rfl, h⟩ := h
        obtain ⟨hk53_, h⟩ := h
        refine cs_get hx hb hK hT hown 3 hk53_ (by decide) rfl 4 (by decide) kfX7_178 (v := va_rf (cs_r S 304 b52)) rfl dX7_nextDue_46 ?_
        refine hw_topr (fun r54 er54 => ?_)
        replace h := h r54 er54
        refine cs_putr (x := r54) hx hb hK hT hown 8 hk36_ (by decide) rfl 14 (by decide) kfX7_177 rfl (tyX7_ok 14 (by decide)) rfl 814 rfl dX7_nextDue_49 (fun H locs hT_ => ?_)
        replace hT := hT_
        obtain ⟨S55, eS55⟩ : ∃ z, z = cs_ur S 814 x0 r54 := ⟨_, rfl⟩
        rw [← eS55] at hT
        replace h := h S55 eS55
        refine lv_goto (tgt := 11) hx hb dX7_nextDue_52 (by decide) ?_
        exact ih S55 x0 _ _ _ h hT (lv_sub hl [0] rfl)
end
def wp_X7_nextDue (post : Int32 → cs_S → Prop) (G : Nat → Nat) (S : cs_S) (o : Nat) : Prop := cs_k S o = 9 ∧ ((cs_i S 802 o) = 31 → ∃ n9, w_X7_nextDue_11 post G n9 S o) ∧ (¬ (cs_i S 802 o) = 31 → post ((-1)) S)
set_option maxRecDepth 100000 in
set_option maxHeartbeats 4000000 in
theorem c_X7_nextDue {l : Launch} {P : hw_G} {G : Nat → Nat} {S : cs_S} {sz : Nat} {o : Nat} {post : Int32 → cs_S → Prop} (h : wp_X7_nextDue post G S o) : Met l yX7_nextDue [Cond.code yX7_nextDue cX7_nextDue 1 (some .int)] rm_X7_nextDue (cs_Pc P G S sz [.ref o]) (cs_Qi P (cs_A S sz) post) 0 0 (cs_A S sz) := by
  refine cs_met (by decide) rfl (Nat.le_of_ble_eq_true rfl) ?_
  intro p e s m below meth c ls hC hin hO hT hl
  obtain ⟨hx, hb, hml, hown, hK, -, -⟩ := id hC
  replace hl : lv_has ls 1 [(0, .ref o)] := hl
  refine lv_aload_n (x := o) hx hb dX7_nextDue_0 rfl (lv_at hl 0 rfl) ?_
  obtain ⟨hk56_, h⟩ := h
  refine cs_get hx hb hK hT hown 8 hk56_ (by decide) rfl 2 (by decide) kfX7_43 (v := .int (cs_i S 802 o)) rfl dX7_nextDue_1 ?_
  refine lv_bipush (v := 31) hx hb dX7_nextDue_4 (by decide) ?_
  refine lv_icmp_eq (tgt := 11) hx hb dX7_nextDue_6 (by decide) (fun hc => ?_) (fun hc => ?_)
  · replace h := h.1 hc
    obtain ⟨n9, h⟩ := h
    exact t_X7_nextDue_11 hC hin hO n9 S o _ _ _ h hT (lv_sub hl [0] rfl)
  · replace h := h.2 hc
    refine lv_iconst (v := (-1)) hx hb dX7_nextDue_9 (by decide) ?_
    exact cs_iret hC hT h dX7_nextDue_10 (Nat.le_refl _) (Nat.le_refl _)
/-! X7_takeDue -/
abbrev rm_X7_takeDue : Room := { frames := 1, cells := 0, slots := 0, locals := 20 }
def w_X7_takeDue_15 (post : Option Nat → cs_S → Prop) (G : Nat → Nat) (S : cs_S)  : Prop := post none S
section
variable {p : Program} {l : Launch} {e : Env} {s : State} {m : MethodId} {args : Array Value} {below : List Frame} {meth : Method} {c : Code} {P : hw_G} {G : Nat → Nat} {A : Nat → Prop}
set_option maxRecDepth 100000 in
set_option maxHeartbeats 4000000 in
theorem t_X7_takeDue_15 {post : Option Nat → cs_S → Prop} (hC : rf_C P RX7 p s m meth c cX7_takeDue 3 (some (.object "WatchHouse$Entry"))) (hin : meth.name = yX7_takeDue.name) (hO : cs_O G A s s.heap) (S : cs_S)  (H : Heap) (locs : List Loc) (ls : Array Slot) (h : w_X7_takeDue_15 post G S ) (hT : cs_T P s A S H locs) (hl : lv_has ls 3 []) : W p l e rm_X7_takeDue s m args below meth c H locs 0 0 (MQ below (cs_Qr P A post) args s 0 0 A) (F0 m 15 ls []) := by
  obtain ⟨hx, hb, hml, hown, hK, -, -⟩ := id hC
  refine hw_null hx hb dX7_takeDue_15 ?_
  exact cs_aret (v := none) hC (Or.inl ⟨_, rfl⟩) hT h dX7_takeDue_16 (Nat.le_refl _) (Nat.le_refl _)
end
def wp_X7_takeDue (post : Option Nat → cs_S → Prop) (G : Nat → Nat) (S : cs_S) (o : Nat) (p1 : Int32) : Prop := cs_k S o = 9 ∧ wp_X7_nextDue (fun r17 S17 => (¬ r17 = p1 → w_X7_takeDue_15 post G S17) ∧ (r17 = p1 → cs_k S17 o = 9 ∧ ∀ r20, r20 = cs_r S17 814 o → (r20 = none → w_X7_takeDue_15 post G S17) ∧ (∀ b21, r20 = some b21 → ∀ r22, r22 = cs_r S17 814 o → ∃ b23, r22 = some b23 ∧ cs_k S17 b23 = 4 ∧ ∀ r25, r25 = cs_r S17 304 b23 → ∀ S26, S26 = cs_ur S17 814 o r25 → cs_k S26 b23 = 4 ∧ ∀ r28, r28 = cs_r S26 301 b23 → ∃ b29, r28 = some b29 ∧ cs_k S26 b29 = 6 ∧ ∀ S31, S31 = cs_ui S26 513 b29 ((cs_i S26 513 b29) - 1) → cs_k S31 o = 9 ∧ ∀ S33, S33 = cs_ui S31 813 o ((cs_i S31 813 o) - 1) → post (some b23) S33))) G S o
set_option maxRecDepth 100000 in
set_option maxHeartbeats 4000000 in
theorem c_X7_takeDue {l : Launch} {P : hw_G} {G : Nat → Nat} {S : cs_S} {sz : Nat} {o : Nat} {p1 : Int32} {post : Option Nat → cs_S → Prop} (h : wp_X7_takeDue post G S o p1) : Met l yX7_takeDue [Cond.code yX7_takeDue cX7_takeDue 3 (some (.object "WatchHouse$Entry"))] rm_X7_takeDue (cs_Pc P G S sz [.ref o, .int p1]) (cs_Qr P (cs_A S sz) post) 0 0 (cs_A S sz) := by
  refine cs_met (by decide) rfl (Nat.le_of_ble_eq_true rfl) ?_
  intro p e s m below meth c ls hC hin hO hT hl
  obtain ⟨hx, hb, hml, hown, hK, -, -⟩ := id hC
  replace hl : lv_has ls 3 [(0, .ref o), (1, .int p1)] := hl
  refine lv_aload_n (x := o) hx hb dX7_takeDue_0 rfl (lv_at hl 0 rfl) ?_
  obtain ⟨hk18_, h⟩ := h
  refine cs_calli0 (cs_runV hx hb hml hown hK hO hT 8 hk18_ (by decide) rfl (c_X7_nextDue h) rfl rfl klX7_197 ki_X7_nextDue ks_X7_nextDue kn_X7 kc_X7_nextDue 0 ⟨rfl, by decide, by decide, by decide +kernel⟩ ⟨by decide, by decide⟩ rfl hl.1 rfl (hw_cat8 (Nat.le_of_ble_eq_true rfl)) ⟨(Nat.le_refl _), (Nat.le_refl _)⟩ dX7_takeDue_1) hT (fun r17 S17 H locs h_ hT_ => ?_)
  replace h := h_
  replace hT := hT_
  refine lv_iload_n hx hb dX7_takeDue_4 rfl (lv_at hl 1 rfl) ?_
  refine lv_icmp_ne (tgt := 15) hx hb dX7_takeDue_5 (by decide) (fun hc => ?_) (fun hc => ?_)
  · replace h := h.1 hc
    exact t_X7_takeDue_15 hC hin hO S17 _ _ _ h hT (lv_sub hl [] rfl)
  · replace h := h.2 hc
    refine lv_aload_n (x := o) hx hb dX7_takeDue_8 rfl (lv_at hl 0 rfl) ?_
    obtain ⟨hk19_, h⟩ := h
    refine cs_get hx hb hK hT hown 8 hk19_ (by decide) rfl 14 (by decide) kfX7_177 (v := va_rf (cs_r S17 814 o)) rfl dX7_takeDue_9 ?_
    refine hw_topr (fun r20 er20 => ?_)
    replace h := h r20 er20
    refine hw_ifnonnull (tgt := 17) hx hb dX7_takeDue_12 (by decide) (fun b21 hc => ?_) (fun hc => ?_)
    · replace h := h.2 b21 hc
      subst hc
      refine lv_aload_n (x := o) hx hb dX7_takeDue_17 rfl (lv_at hl 0 rfl) ?_
      refine cs_get hx hb hK hT hown 8 hk19_ (by decide) rfl 14 (by decide) kfX7_177 (v := va_rf (cs_r S17 814 o)) rfl dX7_takeDue_18 ?_
      refine hw_topr (fun r22 er22 => ?_)
      replace h := h r22 er22
      refine hw_astore_n (lv' := [(2, _), (0, _), (1, _)]) (x := r22) hx hb dX7_takeDue_21 rfl hl (by decide) rfl (fun ls hl_ => ?_)
      replace hl := hl_
      refine lv_aload_n (x := o) hx hb dX7_takeDue_22 rfl (lv_at hl 1 rfl) ?_
      refine hw_aload_n (x := r22) hx hb dX7_takeDue_23 rfl (lv_at hl 0 rfl) ?_
      obtain ⟨b23, rfl, h⟩ := h
      obtain ⟨hk24_, h⟩ := h
      refine cs_get hx hb hK hT hown 3 hk24_ (by decide) rfl 4 (by decide) kfX7_178 (v := va_rf (cs_r S17 304 b23)) rfl dX7_takeDue_24 ?_
      refine hw_topr (fun r25 er25 => ?_)
      replace h := h r25 er25
      refine cs_putr (x := r25) hx hb hK hT hown 8 hk19_ (by decide) rfl 14 (by decide) kfX7_177 rfl (tyX7_ok 14 (by decide)) rfl 814 rfl dX7_takeDue_27 (fun H locs hT_ => ?_)
      replace hT := hT_
      obtain ⟨S26, eS26⟩ : ∃ z, z = cs_ur S17 814 o r25 := ⟨_, rfl⟩
      rw [← eS26] at hT
      replace h := h S26 eS26
      refine lv_aload_n (x := b23) hx hb dX7_takeDue_30 rfl (lv_at hl 0 rfl) ?_
      obtain ⟨hk27_, h⟩ := h
      refine cs_get hx hb hK hT hown 3 hk27_ (by decide) rfl 1 (by decide) kfX7_167 (v := va_rf (cs_r S26 301 b23)) rfl dX7_takeDue_31 ?_
      refine hw_topr (fun r28 er28 => ?_)
      replace h := h r28 er28
      refine lv_dup hx hb dX7_takeDue_34 (va_rf_cat _) ?_
      obtain ⟨b29, rfl, h⟩ := h
      obtain ⟨hk30_, h⟩ := h
      refine cs_get hx hb hK hT hown 5 hk30_ (by decide) rfl 13 (by decide) kfX7_194 (v := .int (cs_i S26 513 b29)) rfl dX7_takeDue_35 ?_
      refine lv_iconst (v := 1) hx hb dX7_takeDue_38 (by decide) ?_
      refine lv_isub hx hb dX7_takeDue_39 ?_
      refine cs_puti (x := ((cs_i S26 513 b29) - 1)) hx hb hK hT hown 5 hk30_ (by decide) rfl 13 (by decide) kfX7_194 rfl (tyX4_ok 13 (by decide)) rfl 513 rfl dX7_takeDue_40 (fun H locs hT_ => ?_)
      replace hT := hT_
      obtain ⟨S31, eS31⟩ : ∃ z, z = cs_ui S26 513 b29 ((cs_i S26 513 b29) - 1) := ⟨_, rfl⟩
      rw [← eS31] at hT
      replace h := h S31 eS31
      refine lv_aload_n (x := o) hx hb dX7_takeDue_43 rfl (lv_at hl 1 rfl) ?_
      refine lv_dup hx hb dX7_takeDue_44 rfl ?_
      obtain ⟨hk32_, h⟩ := h
      refine cs_get hx hb hK hT hown 8 hk32_ (by decide) rfl 13 (by decide) kfX7_173 (v := .int (cs_i S31 813 o)) rfl dX7_takeDue_45 ?_
      refine lv_iconst (v := 1) hx hb dX7_takeDue_48 (by decide) ?_
      refine lv_isub hx hb dX7_takeDue_49 ?_
      refine cs_puti (x := ((cs_i S31 813 o) - 1)) hx hb hK hT hown 8 hk32_ (by decide) rfl 13 (by decide) kfX7_173 rfl (tyX7_ok 13 (by decide)) rfl 813 rfl dX7_takeDue_50 (fun H locs hT_ => ?_)
      replace hT := hT_
      obtain ⟨S33, eS33⟩ : ∃ z, z = cs_ui S31 813 o ((cs_i S31 813 o) - 1) := ⟨_, rfl⟩
      rw [← eS33] at hT
      replace h := h S33 eS33
      refine lv_aload_n (x := b23) hx hb dX7_takeDue_53 rfl (lv_at hl 0 rfl) ?_
      exact cs_aret (v := (some b23)) hC (Or.inl ⟨_, rfl⟩) hT h dX7_takeDue_54 (Nat.le_refl _) (Nat.le_refl _)
    · replace h := h.1 hc
      subst hc
      exact t_X7_takeDue_15 hC hin hO S17 _ _ _ h hT (lv_sub hl [] rfl)
/-! X7_startsSince -/
abbrev rm_X7_startsSince : Room := { frames := 0, cells := 0, slots := 0, locals := 0 }
def w_X7_startsSince_89 (post : Int32 → cs_S → Prop) (G : Nat → Nat) (k4 : cs_S → Nat → Int32 → Int32 → Int32 → Prop) (k21 : cs_S → Nat → Int32 → Int32 → Int32 → Option Nat → Prop) (S : cs_S) (x0 : Nat) (x1 : Int32) (x2 : Int32) (x3 : Int32) (x4 : Option Nat) : Prop := ∃ b19, x4 = some b19 ∧ cs_k S b19 = 6 ∧ ∀ r21, r21 = cs_r S 502 b19 → k21 S x0 x1 x2 x3 r21
section
variable {p : Program} {l : Launch} {e : Env} {s : State} {m : MethodId} {args : Array Value} {below : List Frame} {meth : Method} {c : Code} {P : hw_G} {G : Nat → Nat} {A : Nat → Prop}
set_option maxRecDepth 100000 in
set_option maxHeartbeats 4000000 in
theorem t_X7_startsSince_89 {post : Int32 → cs_S → Prop} {k4 : cs_S → Nat → Int32 → Int32 → Int32 → Prop} {k21 : cs_S → Nat → Int32 → Int32 → Int32 → Option Nat → Prop} (hC : rf_C P RX7 p s m meth c cX7_startsSince 7 (some .int)) (hin : meth.name = yX7_startsSince.name) (hO : cs_O G A s s.heap) (hk4 : ∀ (S : cs_S) (x0 : Nat) (x1 : Int32) (x2 : Int32) (x3 : Int32) (H : Heap) (locs : List Loc) (ls : Array Slot), k4 S x0 x1 x2 x3 → cs_T P s A S H locs → lv_has ls 7 [(0, .ref x0), (1, .int x1), (2, .int x2), (3, .int x3)] → W p l e rm_X7_startsSince s m args below meth c H locs 0 0 (MQ below (cs_Qi P A post) args s 0 0 A) (F0 m 4 ls [])) (hk21 : ∀ (S : cs_S) (x0 : Nat) (x1 : Int32) (x2 : Int32) (x3 : Int32) (x4 : Option Nat) (H : Heap) (locs : List Loc) (ls : Array Slot), k21 S x0 x1 x2 x3 x4 → cs_T P s A S H locs → lv_has ls 7 [(0, .ref x0), (1, .int x1), (2, .int x2), (3, .int x3), (4, va_rf x4)] → W p l e rm_X7_startsSince s m args below meth c H locs 0 0 (MQ below (cs_Qi P A post) args s 0 0 A) (F0 m 21 ls [])) (S : cs_S) (x0 : Nat) (x1 : Int32) (x2 : Int32) (x3 : Int32) (x4 : Option Nat) (H : Heap) (locs : List Loc) (ls : Array Slot) (h : w_X7_startsSince_89 post G k4 k21 S x0 x1 x2 x3 x4) (hT : cs_T P s A S H locs) (hl : lv_has ls 7 [(0, .ref x0), (1, .int x1), (2, .int x2), (3, .int x3), (4, va_rf x4)]) : W p l e rm_X7_startsSince s m args below meth c H locs 0 0 (MQ below (cs_Qi P A post) args s 0 0 A) (F0 m 89 ls []) := by
  obtain ⟨hx, hb, hml, hown, hK, -, -⟩ := id hC
  refine hw_aload (x := x4) hx hb dX7_startsSince_89 (lv_at hl 4 rfl) ?_
  obtain ⟨b19, rfl, h⟩ := h
  obtain ⟨hk20_, h⟩ := h
  refine cs_get hx hb hK hT hown 5 hk20_ (by decide) rfl 2 (by decide) kfX7_69 (v := va_rf (cs_r S 502 b19)) rfl dX7_startsSince_91 ?_
  refine hw_topr (fun r21 er21 => ?_)
  replace h := h r21 er21
  refine hw_astore (lv' := [(4, _), (0, _), (1, _), (2, _), (3, _)]) (x := r21) hx hb dX7_startsSince_94 hl (by decide) rfl (fun ls hl_ => ?_)
  replace hl := hl_
  refine lv_goto (tgt := 21) hx hb dX7_startsSince_96 (by decide) ?_
  exact hk21 S x0 x1 x2 x3 r21 _ _ _ h hT (lv_sub hl [1, 2, 3, 4, 0] rfl)
end
def w_X7_startsSince_83 (post : Int32 → cs_S → Prop) (G : Nat → Nat) (k4 : cs_S → Nat → Int32 → Int32 → Int32 → Prop) (k21 : cs_S → Nat → Int32 → Int32 → Int32 → Option Nat → Prop) (k36 : cs_S → Nat → Int32 → Int32 → Int32 → Option Nat → Option Nat → Int32 → Prop) (S : cs_S) (x0 : Nat) (x1 : Int32) (x2 : Int32) (x3 : Int32) (x4 : Option Nat) (x5 : Option Nat) (x6 : Int32) : Prop := k36 S x0 x1 x2 x3 x4 x5 (x6 + 1)
section
variable {p : Program} {l : Launch} {e : Env} {s : State} {m : MethodId} {args : Array Value} {below : List Frame} {meth : Method} {c : Code} {P : hw_G} {G : Nat → Nat} {A : Nat → Prop}
set_option maxRecDepth 100000 in
set_option maxHeartbeats 4000000 in
theorem t_X7_startsSince_83 {post : Int32 → cs_S → Prop} {k4 : cs_S → Nat → Int32 → Int32 → Int32 → Prop} {k21 : cs_S → Nat → Int32 → Int32 → Int32 → Option Nat → Prop} {k36 : cs_S → Nat → Int32 → Int32 → Int32 → Option Nat → Option Nat → Int32 → Prop} (hC : rf_C P RX7 p s m meth c cX7_startsSince 7 (some .int)) (hin : meth.name = yX7_startsSince.name) (hO : cs_O G A s s.heap) (hk4 : ∀ (S : cs_S) (x0 : Nat) (x1 : Int32) (x2 : Int32) (x3 : Int32) (H : Heap) (locs : List Loc) (ls : Array Slot), k4 S x0 x1 x2 x3 → cs_T P s A S H locs → lv_has ls 7 [(0, .ref x0), (1, .int x1), (2, .int x2), (3, .int x3)] → W p l e rm_X7_startsSince s m args below meth c H locs 0 0 (MQ below (cs_Qi P A post) args s 0 0 A) (F0 m 4 ls [])) (hk21 : ∀ (S : cs_S) (x0 : Nat) (x1 : Int32) (x2 : Int32) (x3 : Int32) (x4 : Option Nat) (H : Heap) (locs : List Loc) (ls : Array Slot), k21 S x0 x1 x2 x3 x4 → cs_T P s A S H locs → lv_has ls 7 [(0, .ref x0), (1, .int x1), (2, .int x2), (3, .int x3), (4, va_rf x4)] → W p l e rm_X7_startsSince s m args below meth c H locs 0 0 (MQ below (cs_Qi P A post) args s 0 0 A) (F0 m 21 ls [])) (hk36 : ∀ (S : cs_S) (x0 : Nat) (x1 : Int32) (x2 : Int32) (x3 : Int32) (x4 : Option Nat) (x5 : Option Nat) (x6 : Int32) (H : Heap) (locs : List Loc) (ls : Array Slot), k36 S x0 x1 x2 x3 x4 x5 x6 → cs_T P s A S H locs → lv_has ls 7 [(0, .ref x0), (1, .int x1), (2, .int x2), (3, .int x3), (4, va_rf x4), (5, va_rf x5), (6, .int x6)] → W p l e rm_X7_startsSince s m args below meth c H locs 0 0 (MQ below (cs_Qi P A post) args s 0 0 A) (F0 m 36 ls [])) (S : cs_S) (x0 : Nat) (x1 : Int32) (x2 : Int32) (x3 : Int32) (x4 : Option Nat) (x5 : Option Nat) (x6 : Int32) (H : Heap) (locs : List Loc) (ls : Array Slot) (h : w_X7_startsSince_83 post G k4 k21 k36 S x0 x1 x2 x3 x4 x5 x6) (hT : cs_T P s A S H locs) (hl : lv_has ls 7 [(0, .ref x0), (1, .int x1), (2, .int x2), (3, .int x3), (4, va_rf x4), (5, va_rf x5), (6, .int x6)]) : W p l e rm_X7_startsSince s m args below meth c H locs 0 0 (MQ below (cs_Qi P A post) args s 0 0 A) (F0 m 83 ls []) := by
  obtain ⟨hx, hb, hml, hown, hK, -, -⟩ := id hC
  refine lv_iinc (v := x6 + 1) (lv' := [(6, _), (0, _), (1, _), (2, _), (3, _), (4, _), (5, _)]) hx hb dX7_startsSince_83 hl (k := 6) rfl rfl (by decide) (congrArg (List.cons _) ((hw_flt (fun q hq => by simp only [List.mem_cons, List.not_mem_nil, or_false] at hq; rcases hq with rfl | rfl | rfl | rfl | rfl | rfl | rfl <;> first | exact fun _ => rfl | exact fun _ => va_rf_cat _ | (intro h; simp at h))).trans rfl)) (fun ls hl_ => ?_)
  replace hl := hl_
  refine lv_goto (tgt := 36) hx hb dX7_startsSince_86 (by decide) ?_
  exact hk36 S x0 x1 x2 x3 x4 x5 (x6 + 1) _ _ _ h hT (lv_sub hl [1, 2, 3, 4, 5, 6, 0] rfl)
end
def w_X7_startsSince_36 (post : Int32 → cs_S → Prop) (G : Nat → Nat) (k4 : cs_S → Nat → Int32 → Int32 → Int32 → Prop) (k21 : cs_S → Nat → Int32 → Int32 → Int32 → Option Nat → Prop) : Nat → cs_S → Nat → Int32 → Int32 → Int32 → Option Nat → Option Nat → Int32 → Prop
  | 0, _, _, _, _, _, _, _, _ => False
  | n + 1, S, x0, x1, x2, x3, x4, x5, x6 => (x5 = none → w_X7_startsSince_89 post G k4 k21 S x0 x1 x2 x3 x4) ∧ (∀ b22, x5 = some b22 → cs_k S b22 = 23 ∧ ((Int32.ofNat (cs_n S b22)) ≤ x6 → w_X7_startsSince_89 post G k4 k21 S x0 x1 x2 x3 x4) ∧ (¬ (Int32.ofNat (cs_n S b22)) ≤ x6 → cs_k S x0 = 9 ∧ (((cs_i S 806 x0) - 1) ≤ x6 → w_X7_startsSince_89 post G k4 k21 S x0 x1 x2 x3 x4) ∧ (¬ ((cs_i S 806 x0) - 1) ≤ x6 → vp_in x6 (cs_n S b22) ∧ ∀ r25, r25 = cs_ar S b22 x6.toNatClampNeg → (r25 = none → w_X7_startsSince_83 post G k4 k21 (w_X7_startsSince_36 post G k4 k21 n) S x0 x1 x2 x3 x4 (some b22) x6) ∧ (∀ b26, r25 = some b26 → vp_in x6 (cs_n S b22) ∧ ∀ r27, r27 = cs_ar S b22 x6.toNatClampNeg → ∃ b28, r27 = some b28 ∧ cs_k S b28 = 5 ∧ ((cs_i S 400 b28) ≤ x1 → w_X7_startsSince_83 post G k4 k21 (w_X7_startsSince_36 post G k4 k21 n) S x0 x1 x2 x3 x4 (some b22) x6) ∧ (¬ (cs_i S 400 b28) ≤ x1 → w_X7_startsSince_83 post G k4 k21 (w_X7_startsSince_36 post G k4 k21 n) S x0 x1 (x2 + 1) x3 x4 (some b22) x6)))))
section
variable {p : Program} {l : Launch} {e : Env} {s : State} {m : MethodId} {args : Array Value} {below : List Frame} {meth : Method} {c : Code} {P : hw_G} {G : Nat → Nat} {A : Nat → Prop}
set_option maxRecDepth 100000 in
set_option maxHeartbeats 4000000 in
theorem t_X7_startsSince_36 {post : Int32 → cs_S → Prop} {k4 : cs_S → Nat → Int32 → Int32 → Int32 → Prop} {k21 : cs_S → Nat → Int32 → Int32 → Int32 → Option Nat → Prop} (hC : rf_C P RX7 p s m meth c cX7_startsSince 7 (some .int)) (hin : meth.name = yX7_startsSince.name) (hO : cs_O G A s s.heap) (hk4 : ∀ (S : cs_S) (x0 : Nat) (x1 : Int32) (x2 : Int32) (x3 : Int32) (H : Heap) (locs : List Loc) (ls : Array Slot), k4 S x0 x1 x2 x3 → cs_T P s A S H locs → lv_has ls 7 [(0, .ref x0), (1, .int x1), (2, .int x2), (3, .int x3)] → W p l e rm_X7_startsSince s m args below meth c H locs 0 0 (MQ below (cs_Qi P A post) args s 0 0 A) (F0 m 4 ls [])) (hk21 : ∀ (S : cs_S) (x0 : Nat) (x1 : Int32) (x2 : Int32) (x3 : Int32) (x4 : Option Nat) (H : Heap) (locs : List Loc) (ls : Array Slot), k21 S x0 x1 x2 x3 x4 → cs_T P s A S H locs → lv_has ls 7 [(0, .ref x0), (1, .int x1), (2, .int x2), (3, .int x3), (4, va_rf x4)] → W p l e rm_X7_startsSince s m args below meth c H locs 0 0 (MQ below (cs_Qi P A post) args s 0 0 A) (F0 m 21 ls [])) : ∀ (n : Nat) (S : cs_S) (x0 : Nat) (x1 : Int32) (x2 : Int32) (x3 : Int32) (x4 : Option Nat) (x5 : Option Nat) (x6 : Int32) (H : Heap) (locs : List Loc) (ls : Array Slot), w_X7_startsSince_36 post G k4 k21 n S x0 x1 x2 x3 x4 x5 x6 → cs_T P s A S H locs → lv_has ls 7 [(0, .ref x0), (1, .int x1), (2, .int x2), (3, .int x3), (4, va_rf x4), (5, va_rf x5), (6, .int x6)] → W p l e rm_X7_startsSince s m args below meth c H locs 0 0 (MQ below (cs_Qi P A post) args s 0 0 A) (F0 m 36 ls []) := by
  obtain ⟨hx, hb, hml, hown, hK, -, -⟩ := id hC
  intro n
  induction n with
  | zero => intro S x0 x1 x2 x3 x4 x5 x6 H locs ls h; exact False.elim h
  | succ n ih =>
    intro S x0 x1 x2 x3 x4 x5 x6 H locs ls h hT hl
    refine hw_aload (x := x5) hx hb dX7_startsSince_36 (lv_at hl 5 rfl) ?_
    refine hw_ifnull (tgt := 89) hx hb dX7_startsSince_38 (by decide) (fun hc => ?_) (fun b22 hc => ?_)
    · replace h := h.1 hc
      subst hc
      exact t_X7_startsSince_89 hC hin hO hk4 hk21 S x0 x1 x2 x3 x4 _ _ _ h hT (lv_sub hl [0, 1, 2, 3, 4] rfl)
    · replace h := h.2 b22 hc
      subst hc
      refine lv_iload hx hb dX7_startsSince_41 (lv_at hl 6 rfl) ?_
      refine lv_aload (x := b22) hx hb dX7_startsSince_43 (lv_at hl 5 rfl) ?_
      obtain ⟨hk23_, h⟩ := h
      refine cs_alen hx hb hK hT 23 hk23_ (by decide) (by decide) dX7_startsSince_45 ?_
      refine lv_icmp_ge (tgt := 89) hx hb dX7_startsSince_46 (by decide) (fun hc => ?_) (fun hc => ?_)
      · replace h := h.1 hc
        exact t_X7_startsSince_89 hC hin hO hk4 hk21 S x0 x1 x2 x3 x4 _ _ _ h hT (lv_sub hl [0, 1, 2, 3, 4] rfl)
      · replace h := h.2 hc
        refine lv_iload hx hb dX7_startsSince_49 (lv_at hl 6 rfl) ?_
        refine lv_aload_n (x := x0) hx hb dX7_startsSince_51 rfl (lv_at hl 0 rfl) ?_
        obtain ⟨hk24_, h⟩ := h
        refine cs_get hx hb hK hT hown 8 hk24_ (by decide) rfl 6 (by decide) kfX7_40 (v := .int (cs_i S 806 x0)) rfl dX7_startsSince_52 ?_
        refine lv_iconst (v := 1) hx hb dX7_startsSince_55 (by decide) ?_
        refine lv_isub hx hb dX7_startsSince_56 ?_
        refine lv_icmp_ge (tgt := 89) hx hb dX7_startsSince_57 (by decide) (fun hc => ?_) (fun hc => ?_)
        · replace h := h.1 hc
          exact t_X7_startsSince_89 hC hin hO hk4 hk21 S x0 x1 x2 x3 x4 _ _ _ h hT (lv_sub hl [0, 1, 2, 3, 4] rfl)
        · replace h := h.2 hc
          refine lv_aload (x := b22) hx hb dX7_startsSince_60 (lv_at hl 5 rfl) ?_
          refine lv_iload hx hb dX7_startsSince_62 (lv_at hl 6 rfl) ?_
          obtain ⟨hi, h⟩ := h
          refine cs_aald hx hb hK hT 23 hk23_ (by decide) rfl (by decide) hi dX7_startsSince_64 ?_
          refine hw_topr (fun r25 er25 => ?_)
          replace h := h r25 er25
          refine hw_ifnull (tgt := 83) hx hb dX7_startsSince_65 (by decide) (fun hc => ?_) (fun b26 hc => ?_)
          · replace h := h.1 hc
            subst hc
            exact t_X7_startsSince_83 hC hin hO hk4 hk21 ih S x0 x1 x2 x3 x4 (some b22) x6 _ _ _ h hT (lv_sub hl [0, 1, 2, 3, 4, 5, 6] rfl)
          · replace h := h.2 b26 hc
            subst hc
            refine lv_aload (x := b22) hx hb dX7_startsSince_68 (lv_at hl 5 rfl) ?_
            refine lv_iload hx hb dX7_startsSince_70 (lv_at hl 6 rfl) ?_
            obtain ⟨hi, h⟩ := h
            refine cs_aald hx hb hK hT 23 hk23_ (by decide) rfl (by decide) hi dX7_startsSince_72 ?_
            refine hw_topr (fun r27 er27 => ?_)
            replace h := h r27 er27
            obtain ⟨b28, rfl, h⟩ := h
            obtain ⟨hk29_, h⟩ := h
            refine cs_get hx hb hK hT hown 4 hk29_ (by decide) rfl 0 (by decide) kfX7_92 (v := .int (cs_i S 400 b28)) rfl dX7_startsSince_73 ?_
            refine lv_iload_n hx hb dX7_startsSince_76 rfl (lv_at hl 1 rfl) ?_
            refine lv_icmp_le (tgt := 83) hx hb dX7_startsSince_77 (by decide) (fun hc => ?_) (fun hc => ?_)
            · replace h := h.1 hc
              exact t_X7_startsSince_83 hC hin hO hk4 hk21 ih S x0 x1 x2 x3 x4 (some b22) x6 _ _ _ h hT (lv_sub hl [0, 1, 2, 3, 4, 5, 6] rfl)
            · replace h := h.2 hc
              refine lv_iinc (v := x2 + 1) (lv' := [(2, _), (0, _), (1, _), (3, _), (4, _), (5, _), (6, _)]) hx hb dX7_startsSince_80 hl (k := 2) rfl rfl (by decide) rfl (fun ls hl_ => ?_)
              replace hl := hl_
              exact t_X7_startsSince_83 hC hin hO hk4 hk21 ih S x0 x1 (x2 + 1) x3 x4 (some b22) x6 _ _ _ h hT (lv_sub hl [1, 2, 0, 3, 4, 5, 6] rfl)
end
def w_X7_startsSince_21 (post : Int32 → cs_S → Prop) (G : Nat → Nat) (k4 : cs_S → Nat → Int32 → Int32 → Int32 → Prop) : Nat → cs_S → Nat → Int32 → Int32 → Int32 → Option Nat → Prop
  | 0, _, _, _, _, _, _ => False
  | n + 1, S, x0, x1, x2, x3, x4 => (x4 = none → k4 S x0 x1 x2 (x3 + 1)) ∧ (∀ b30, x4 = some b30 → cs_k S b30 = 6 ∧ ∀ r32, r32 = cs_r S 512 b30 → ∃ n9, w_X7_startsSince_36 post G k4 (w_X7_startsSince_21 post G k4 n) n9 S x0 x1 x2 x3 (some b30) r32 0)
section
variable {p : Program} {l : Launch} {e : Env} {s : State} {m : MethodId} {args : Array Value} {below : List Frame} {meth : Method} {c : Code} {P : hw_G} {G : Nat → Nat} {A : Nat → Prop}
set_option maxRecDepth 100000 in
set_option maxHeartbeats 4000000 in
theorem t_X7_startsSince_21 {post : Int32 → cs_S → Prop} {k4 : cs_S → Nat → Int32 → Int32 → Int32 → Prop} (hC : rf_C P RX7 p s m meth c cX7_startsSince 7 (some .int)) (hin : meth.name = yX7_startsSince.name) (hO : cs_O G A s s.heap) (hk4 : ∀ (S : cs_S) (x0 : Nat) (x1 : Int32) (x2 : Int32) (x3 : Int32) (H : Heap) (locs : List Loc) (ls : Array Slot), k4 S x0 x1 x2 x3 → cs_T P s A S H locs → lv_has ls 7 [(0, .ref x0), (1, .int x1), (2, .int x2), (3, .int x3)] → W p l e rm_X7_startsSince s m args below meth c H locs 0 0 (MQ below (cs_Qi P A post) args s 0 0 A) (F0 m 4 ls [])) : ∀ (n : Nat) (S : cs_S) (x0 : Nat) (x1 : Int32) (x2 : Int32) (x3 : Int32) (x4 : Option Nat) (H : Heap) (locs : List Loc) (ls : Array Slot), w_X7_startsSince_21 post G k4 n S x0 x1 x2 x3 x4 → cs_T P s A S H locs → lv_has ls 7 [(0, .ref x0), (1, .int x1), (2, .int x2), (3, .int x3), (4, va_rf x4)] → W p l e rm_X7_startsSince s m args below meth c H locs 0 0 (MQ below (cs_Qi P A post) args s 0 0 A) (F0 m 21 ls []) := by
  obtain ⟨hx, hb, hml, hown, hK, -, -⟩ := id hC
  intro n
  induction n with
  | zero => intro S x0 x1 x2 x3 x4 H locs ls h; exact False.elim h
  | succ n ih =>
    intro S x0 x1 x2 x3 x4 H locs ls h hT hl
    refine hw_aload (x := x4) hx hb dX7_startsSince_21 (lv_at hl 4 rfl) ?_
    refine hw_ifnull (tgt := 99) hx hb dX7_startsSince_23 (by decide) (fun hc => ?_) (fun b30 hc => ?_)
    · replace h := h.1 hc
      subst hc
      refine lv_iinc (v := x3 + 1) (lv' := [(3, _), (0, _), (1, _), (2, _), (4, _)]) hx hb dX7_startsSince_99 hl (k := 3) rfl rfl (by decide) rfl (fun ls hl_ => ?_)
      replace hl := hl_
      refine lv_goto (tgt := 4) hx hb dX7_startsSince_102 (by decide) ?_
      exact hk4 S x0 x1 x2 (x3 + 1) _ _ _ h hT (lv_sub hl [1, 2, 3, 0] rfl)
    · replace h := h.2 b30 hc
      subst hc
      refine lv_aload (x := b30) hx hb dX7_startsSince_26 (lv_at hl 4 rfl) ?_
      obtain ⟨hk31_, h⟩ := h
      refine cs_get hx hb hK hT hown 5 hk31_ (by decide) rfl 12 (by decide) kfX7_187 (v := va_rf (cs_r S 512 b30)) rfl dX7_startsSince_28 ?_
      refine hw_topr (fun r32 er32 => ?_)
      replace h := h r32 er32
      refine hw_astore (lv' := [(5, _), (0, _), (1, _), (2, _), (3, _), (4, _)]) (x := r32) hx hb dX7_startsSince_31 hl (by decide) rfl (fun ls hl_ => ?_)
      replace hl := hl_
      refine lv_iconst (v := 0) hx hb dX7_startsSince_33 (by decide) ?_
      refine lv_istore (lv' := [(6, _), (5, _), (0, _), (1, _), (2, _), (3, _), (4, _)]) hx hb dX7_startsSince_34 hl (by decide) (congrArg (List.cons _) ((hw_flt (fun q hq => by simp only [List.mem_cons, List.not_mem_nil, or_false] at hq; rcases hq with rfl | rfl | rfl | rfl | rfl | rfl <;> first | exact fun _ => rfl | exact fun _ => va_rf_cat _ | (intro h; simp at h))).trans rfl)) (fun ls hl_ => ?_)
      replace hl := hl_
      obtain ⟨n9, h⟩ := h
      exact t_X7_startsSince_36 hC hin hO hk4 ih n9 S x0 x1 x2 x3 (some b30) r32 0 _ _ _ h hT (lv_sub hl [2, 3, 4, 5, 6, 1, 0] rfl)
end
def w_X7_startsSince_4 (post : Int32 → cs_S → Prop) (G : Nat → Nat) : Nat → cs_S → Nat → Int32 → Int32 → Int32 → Prop
  | 0, _, _, _, _, _ => False
  | n + 1, S, x0, x1, x2, x3 => cs_k S x0 = 9 ∧ ∀ r34, r34 = cs_r S 816 x0 → ∃ b35, r34 = some b35 ∧ cs_k S b35 = 25 ∧ ((Int32.ofNat (cs_n S b35)) ≤ x3 → post x2 S) ∧ (¬ (Int32.ofNat (cs_n S b35)) ≤ x3 → ∀ r37, r37 = cs_r S 816 x0 → ∃ b38, r37 = some b38 ∧ cs_k S b38 = 25 ∧ vp_in x3 (cs_n S b38) ∧ ∀ r40, r40 = cs_ar S b38 x3.toNatClampNeg → ∃ n9, w_X7_startsSince_21 post G (w_X7_startsSince_4 post G n) n9 S x0 x1 x2 x3 r40)
section
variable {p : Program} {l : Launch} {e : Env} {s : State} {m : MethodId} {args : Array Value} {below : List Frame} {meth : Method} {c : Code} {P : hw_G} {G : Nat → Nat} {A : Nat → Prop}
set_option maxRecDepth 100000 in
set_option maxHeartbeats 4000000 in
theorem t_X7_startsSince_4 {post : Int32 → cs_S → Prop} (hC : rf_C P RX7 p s m meth c cX7_startsSince 7 (some .int)) (hin : meth.name = yX7_startsSince.name) (hO : cs_O G A s s.heap) : ∀ (n : Nat) (S : cs_S) (x0 : Nat) (x1 : Int32) (x2 : Int32) (x3 : Int32) (H : Heap) (locs : List Loc) (ls : Array Slot), w_X7_startsSince_4 post G n S x0 x1 x2 x3 → cs_T P s A S H locs → lv_has ls 7 [(0, .ref x0), (1, .int x1), (2, .int x2), (3, .int x3)] → W p l e rm_X7_startsSince s m args below meth c H locs 0 0 (MQ below (cs_Qi P A post) args s 0 0 A) (F0 m 4 ls []) := by
  obtain ⟨hx, hb, hml, hown, hK, -, -⟩ := id hC
  intro n
  induction n with
  | zero => intro S x0 x1 x2 x3 H locs ls h; exact False.elim h
  | succ n ih =>
    intro S x0 x1 x2 x3 H locs ls h hT hl
    refine lv_iload_n hx hb dX7_startsSince_4 rfl (lv_at hl 3 rfl) ?_
    refine lv_aload_n (x := x0) hx hb dX7_startsSince_5 rfl (lv_at hl 0 rfl) ?_
    obtain ⟨hk33_, h⟩ := h
    refine cs_get hx hb hK hT hown 8 hk33_ (by decide) rfl 16 (by decide) kfX7_33 (v := va_rf (cs_r S 816 x0)) rfl dX7_startsSince_6 ?_
    refine hw_topr (fun r34 er34 => ?_)
    replace h := h r34 er34
    obtain ⟨b35, rfl, h⟩ := h
    obtain ⟨hk36_, h⟩ := h
    refine cs_alen hx hb hK hT 25 hk36_ (by decide) (by decide) dX7_startsSince_9 ?_
    refine lv_icmp_ge (tgt := 105) hx hb dX7_startsSince_10 (by decide) (fun hc => ?_) (fun hc => ?_)
    · replace h := h.1 hc
      refine lv_iload_n hx hb dX7_startsSince_105 rfl (lv_at hl 2 rfl) ?_
      exact cs_iret hC hT h dX7_startsSince_106 (Nat.le_refl _) (Nat.le_refl _)
    · replace h := h.2 hc
      refine lv_aload_n (x := x0) hx hb dX7_startsSince_13 rfl (lv_at hl 0 rfl) ?_
      refine cs_get hx hb hK hT hown 8 hk33_ (by decide) rfl 16 (by decide) kfX7_33 (v := va_rf (cs_r S 816 x0)) rfl dX7_startsSince_14 ?_
      refine hw_topr (fun r37 er37 => ?_)
      replace h := h r37 er37
      refine lv_iload_n hx hb dX7_startsSince_17 rfl (lv_at hl 3 rfl) ?_
      obtain ⟨b38, rfl, h⟩ := h
      obtain ⟨hk39_, h⟩ := h
      obtain ⟨hi, h⟩ := h
      refine cs_aald hx hb hK hT 25 hk39_ (by decide) rfl (by decide) hi dX7_startsSince_18 ?_
      refine hw_topr (fun r40 er40 => ?_)
      replace h := h r40 er40
      refine hw_astore (lv' := [(4, _), (0, _), (1, _), (2, _), (3, _)]) (x := r40) hx hb dX7_startsSince_19 hl (by decide) rfl (fun ls hl_ => ?_)
      replace hl := hl_
      obtain ⟨n9, h⟩ := h
      exact t_X7_startsSince_21 hC hin hO ih n9 S x0 x1 x2 x3 r40 _ _ _ h hT (lv_sub hl [1, 2, 3, 4, 0] rfl)
end
def wp_X7_startsSince (post : Int32 → cs_S → Prop) (G : Nat → Nat) (S : cs_S) (o : Nat) (p1 : Int32) : Prop := ∃ n9, w_X7_startsSince_4 post G n9 S o p1 0 0
set_option maxRecDepth 100000 in
set_option maxHeartbeats 4000000 in
theorem c_X7_startsSince {l : Launch} {P : hw_G} {G : Nat → Nat} {S : cs_S} {sz : Nat} {o : Nat} {p1 : Int32} {post : Int32 → cs_S → Prop} (h : wp_X7_startsSince post G S o p1) : Met l yX7_startsSince [Cond.code yX7_startsSince cX7_startsSince 7 (some .int)] rm_X7_startsSince (cs_Pc P G S sz [.ref o, .int p1]) (cs_Qi P (cs_A S sz) post) 0 0 (cs_A S sz) := by
  refine cs_met (by decide) rfl (Nat.le_of_ble_eq_true rfl) ?_
  intro p e s m below meth c ls hC hin hO hT hl
  obtain ⟨hx, hb, hml, hown, hK, -, -⟩ := id hC
  replace hl : lv_has ls 7 [(0, .ref o), (1, .int p1)] := hl
  refine lv_iconst (v := 0) hx hb dX7_startsSince_0 (by decide) ?_
  refine lv_istore_n (lv' := [(2, _), (0, _), (1, _)]) hx hb dX7_startsSince_1 rfl hl (by decide) rfl (fun ls hl_ => ?_)
  replace hl := hl_
  refine lv_iconst (v := 0) hx hb dX7_startsSince_2 (by decide) ?_
  refine lv_istore_n (lv' := [(3, _), (2, _), (0, _), (1, _)]) hx hb dX7_startsSince_3 rfl hl (by decide) rfl (fun ls hl_ => ?_)
  replace hl := hl_
  obtain ⟨n9, h⟩ := h
  exact t_X7_startsSince_4 hC hin hO n9 S o p1 0 0 _ _ _ h hT (lv_sub hl [2, 3, 1, 0] rfl)
/-! X7_holdsAt -/
abbrev rm_X7_holdsAt : Room := { frames := 1, cells := 0, slots := 0, locals := 26 }
def w_X7_holdsAt_34 (post : Int32 → cs_S → Prop) (G : Nat → Nat) (S : cs_S) (x0 : Nat) : Prop := cs_k S x0 = 9 ∧ post (cs_i S 813 x0) S
section
variable {p : Program} {l : Launch} {e : Env} {s : State} {m : MethodId} {args : Array Value} {below : List Frame} {meth : Method} {c : Code} {P : hw_G} {G : Nat → Nat} {A : Nat → Prop}
set_option maxRecDepth 100000 in
set_option maxHeartbeats 4000000 in
theorem t_X7_holdsAt_34 {post : Int32 → cs_S → Prop} (hC : rf_C P RX7 p s m meth c cX7_holdsAt 2 (some .int)) (hin : meth.name = yX7_holdsAt.name) (hO : cs_O G A s s.heap) (S : cs_S) (x0 : Nat) (H : Heap) (locs : List Loc) (ls : Array Slot) (h : w_X7_holdsAt_34 post G S x0) (hT : cs_T P s A S H locs) (hl : lv_has ls 2 [(0, .ref x0)]) : W p l e rm_X7_holdsAt s m args below meth c H locs 0 0 (MQ below (cs_Qi P A post) args s 0 0 A) (F0 m 34 ls []) := by
  obtain ⟨hx, hb, hml, hown, hK, -, -⟩ := id hC
  refine lv_aload_n (x := x0) hx hb dX7_holdsAt_34 rfl (lv_at hl 0 rfl) ?_
  obtain ⟨hk4_, h⟩ := h
  refine cs_get hx hb hK hT hown 8 hk4_ (by decide) rfl 13 (by decide) kfX7_173 (v := .int (cs_i S 813 x0)) rfl dX7_holdsAt_35 ?_
  exact cs_iret hC hT h dX7_holdsAt_38 (Nat.le_refl _) (Nat.le_refl _)
end
def wp_X7_holdsAt (post : Int32 → cs_S → Prop) (G : Nat → Nat) (S : cs_S) (o : Nat) (p1 : Int32) : Prop := cs_k S o = 9 ∧ (¬ (cs_i S 802 o) = 28 → ((cs_i S 802 o) = 31 → w_X7_holdsAt_34 post G S o) ∧ (¬ (cs_i S 802 o) = 31 → wp_X7_forget (fun S6 => w_X7_holdsAt_34 post G S6 o) G S o p1)) ∧ ((cs_i S 802 o) = 28 → wp_X7_startsSince (fun r7 S7 => post r7 S7) G S o (p1 - (cs_i S 810 o)))
set_option maxRecDepth 100000 in
set_option maxHeartbeats 4000000 in
theorem c_X7_holdsAt {l : Launch} {P : hw_G} {G : Nat → Nat} {S : cs_S} {sz : Nat} {o : Nat} {p1 : Int32} {post : Int32 → cs_S → Prop} (h : wp_X7_holdsAt post G S o p1) : Met l yX7_holdsAt [Cond.code yX7_holdsAt cX7_holdsAt 2 (some .int)] rm_X7_holdsAt (cs_Pc P G S sz [.ref o, .int p1]) (cs_Qi P (cs_A S sz) post) 0 0 (cs_A S sz) := by
  refine cs_met (by decide) rfl (Nat.le_of_ble_eq_true rfl) ?_
  intro p e s m below meth c ls hC hin hO hT hl
  obtain ⟨hx, hb, hml, hown, hK, -, -⟩ := id hC
  replace hl : lv_has ls 2 [(0, .ref o), (1, .int p1)] := hl
  refine lv_aload_n (x := o) hx hb dX7_holdsAt_0 rfl (lv_at hl 0 rfl) ?_
  obtain ⟨hk5_, h⟩ := h
  refine cs_get hx hb hK hT hown 8 hk5_ (by decide) rfl 2 (by decide) kfX7_43 (v := .int (cs_i S 802 o)) rfl dX7_holdsAt_1 ?_
  refine lv_bipush (v := 28) hx hb dX7_holdsAt_4 (by decide) ?_
  refine lv_icmp_ne (tgt := 20) hx hb dX7_holdsAt_6 (by decide) (fun hc => ?_) (fun hc => ?_)
  · replace h := h.1 hc
    refine lv_aload_n (x := o) hx hb dX7_holdsAt_20 rfl (lv_at hl 0 rfl) ?_
    refine cs_get hx hb hK hT hown 8 hk5_ (by decide) rfl 2 (by decide) kfX7_43 (v := .int (cs_i S 802 o)) rfl dX7_holdsAt_21 ?_
    refine lv_bipush (v := 31) hx hb dX7_holdsAt_24 (by decide) ?_
    refine lv_icmp_eq (tgt := 34) hx hb dX7_holdsAt_26 (by decide) (fun hc => ?_) (fun hc => ?_)
    · replace h := h.1 hc
      exact t_X7_holdsAt_34 hC hin hO S o _ _ _ h hT (lv_sub hl [0] rfl)
    · replace h := h.2 hc
      refine lv_aload_n (x := o) hx hb dX7_holdsAt_29 rfl (lv_at hl 0 rfl) ?_
      refine lv_iload_n hx hb dX7_holdsAt_30 rfl (lv_at hl 1 rfl) ?_
      refine cs_callv0 (cs_runV hx hb hml hown hK hO hT 8 hk5_ (by decide) rfl (c_X7_forget h) rfl rfl klX7_95 ki_X7_forget ks_X7_forget kn_X7 kc_X7_forget 1 ⟨rfl, by decide, by decide, by decide +kernel⟩ ⟨by decide, by decide⟩ rfl hl.1 rfl (hw_cat8 (Nat.le_of_ble_eq_true rfl)) ⟨(Nat.le_refl _), (Nat.le_refl _)⟩ dX7_holdsAt_31) hT (fun S6 H locs h_ hT_ => ?_)
      replace h := h_
      replace hT := hT_
      exact t_X7_holdsAt_34 hC hin hO S6 o _ _ _ h hT (lv_sub hl [0] rfl)
  · replace h := h.2 hc
    refine lv_aload_n (x := o) hx hb dX7_holdsAt_9 rfl (lv_at hl 0 rfl) ?_
    refine lv_iload_n hx hb dX7_holdsAt_10 rfl (lv_at hl 1 rfl) ?_
    refine lv_aload_n (x := o) hx hb dX7_holdsAt_11 rfl (lv_at hl 0 rfl) ?_
    refine cs_get hx hb hK hT hown 8 hk5_ (by decide) rfl 10 (by decide) kfX7_147 (v := .int (cs_i S 810 o)) rfl dX7_holdsAt_12 ?_
    refine lv_isub hx hb dX7_holdsAt_15 ?_
    refine cs_calli0 (cs_runV hx hb hml hown hK hO hT 8 hk5_ (by decide) rfl (c_X7_startsSince h) rfl rfl klX7_201 ki_X7_startsSince ks_X7_startsSince kn_X7 kc_X7_startsSince 1 ⟨rfl, by decide, by decide, by decide +kernel⟩ ⟨by decide, by decide⟩ rfl hl.1 rfl (hw_cat8 (Nat.le_of_ble_eq_true rfl)) ⟨(Nat.le_refl _), (Nat.le_refl _)⟩ dX7_holdsAt_16) hT (fun r7 S7 H locs h_ hT_ => ?_)
    replace h := h_
    replace hT := hT_
    exact cs_iret hC hT h dX7_holdsAt_19 (Nat.le_refl _) (Nat.le_refl _)
/-! X8_octetAt -/
abbrev rm_X8_octetAt : Room := { frames := 0, cells := 0, slots := 0, locals := 0 }
def w_X8_octetAt_22 (post : Int32 → cs_S → Prop) (G : Nat → Nat) (S : cs_S) (y0 : Int32) : Prop := post y0 S
section
variable {p : Program} {l : Launch} {e : Env} {s : State} {m : MethodId} {args : Array Value} {below : List Frame} {meth : Method} {c : Code} {P : hw_G} {G : Nat → Nat} {A : Nat → Prop}
set_option maxRecDepth 100000 in
set_option maxHeartbeats 4000000 in
theorem t_X8_octetAt_22 {post : Int32 → cs_S → Prop} (hC : rf_C P RX8 p s m meth c cX8_octetAt 2 (some .int)) (hin : meth.name = yX8_octetAt.name) (hO : cs_O G A s s.heap) (S : cs_S) (y0 : Int32) (H : Heap) (locs : List Loc) (ls : Array Slot) (h : w_X8_octetAt_22 post G S y0) (hT : cs_T P s A S H locs) (hl : lv_has ls 2 []) : W p l e rm_X8_octetAt s m args below meth c H locs 0 0 (MQ below (cs_Qi P A post) args s 0 0 A) (F0 m 22 ls [.int y0]) := by
  obtain ⟨hx, hb, hml, hown, hK, -, -⟩ := id hC
  exact cs_iret hC hT h dX8_octetAt_22 (Nat.le_refl _) (Nat.le_refl _)
end
def w_X8_octetAt_21 (post : Int32 → cs_S → Prop) (G : Nat → Nat) (S : cs_S)  : Prop := w_X8_octetAt_22 post G S ((-1))
section
variable {p : Program} {l : Launch} {e : Env} {s : State} {m : MethodId} {args : Array Value} {below : List Frame} {meth : Method} {c : Code} {P : hw_G} {G : Nat → Nat} {A : Nat → Prop}
set_option maxRecDepth 100000 in
set_option maxHeartbeats 4000000 in
theorem t_X8_octetAt_21 {post : Int32 → cs_S → Prop} (hC : rf_C P RX8 p s m meth c cX8_octetAt 2 (some .int)) (hin : meth.name = yX8_octetAt.name) (hO : cs_O G A s s.heap) (S : cs_S)  (H : Heap) (locs : List Loc) (ls : Array Slot) (h : w_X8_octetAt_21 post G S ) (hT : cs_T P s A S H locs) (hl : lv_has ls 2 []) : W p l e rm_X8_octetAt s m args below meth c H locs 0 0 (MQ below (cs_Qi P A post) args s 0 0 A) (F0 m 21 ls []) := by
  obtain ⟨hx, hb, hml, hown, hK, -, -⟩ := id hC
  refine lv_iconst (v := (-1)) hx hb dX8_octetAt_21 (by decide) ?_
  exact t_X8_octetAt_22 hC hin hO S ((-1)) _ _ _ h hT (lv_sub hl [] rfl)
end
def wp_X8_octetAt (post : Int32 → cs_S → Prop) (G : Nat → Nat) (S : cs_S) (o : Nat) (p1 : Int32) : Prop := (p1 < 0 → w_X8_octetAt_21 post G S) ∧ (¬ p1 < 0 → cs_k S o = 10 ∧ ((cs_i S 905 o) ≤ p1 → w_X8_octetAt_21 post G S) ∧ (¬ (cs_i S 905 o) ≤ p1 → ∀ r6, r6 = cs_r S 904 o → ∃ b7, r6 = some b7 ∧ cs_k S b7 = 20 ∧ vp_in p1 (cs_n S b7) ∧ w_X8_octetAt_22 post G S (cs_ai S b7 p1.toNatClampNeg)))
set_option maxRecDepth 100000 in
set_option maxHeartbeats 4000000 in
theorem c_X8_octetAt {l : Launch} {P : hw_G} {G : Nat → Nat} {S : cs_S} {sz : Nat} {o : Nat} {p1 : Int32} {post : Int32 → cs_S → Prop} (h : wp_X8_octetAt post G S o p1) : Met l yX8_octetAt [Cond.code yX8_octetAt cX8_octetAt 2 (some .int)] rm_X8_octetAt (cs_Pc P G S sz [.ref o, .int p1]) (cs_Qi P (cs_A S sz) post) 0 0 (cs_A S sz) := by
  refine cs_met (by decide) rfl (Nat.le_of_ble_eq_true rfl) ?_
  intro p e s m below meth c ls hC hin hO hT hl
  obtain ⟨hx, hb, hml, hown, hK, -, -⟩ := id hC
  replace hl : lv_has ls 2 [(0, .ref o), (1, .int p1)] := hl
  refine lv_iload_n hx hb dX8_octetAt_0 rfl (lv_at hl 1 rfl) ?_
  refine lv_if_lt (tgt := 21) hx hb dX8_octetAt_1 (by decide) (fun hc => ?_) (fun hc => ?_)
  · replace h := h.1 hc
    exact t_X8_octetAt_21 hC hin hO S _ _ _ h hT (lv_sub hl [] rfl)
  · replace h := h.2 hc
    refine lv_iload_n hx hb dX8_octetAt_4 rfl (lv_at hl 1 rfl) ?_
    refine lv_aload_n (x := o) hx hb dX8_octetAt_5 rfl (lv_at hl 0 rfl) ?_
    obtain ⟨hk5_, h⟩ := h
    refine cs_get hx hb hK hT hown 9 hk5_ (by decide) rfl 5 (by decide) kfX8_53 (v := .int (cs_i S 905 o)) rfl dX8_octetAt_6 ?_
    refine lv_icmp_ge (tgt := 21) hx hb dX8_octetAt_9 (by decide) (fun hc => ?_) (fun hc => ?_)
    · replace h := h.1 hc
      exact t_X8_octetAt_21 hC hin hO S _ _ _ h hT (lv_sub hl [] rfl)
    · replace h := h.2 hc
      refine lv_aload_n (x := o) hx hb dX8_octetAt_12 rfl (lv_at hl 0 rfl) ?_
      refine cs_get hx hb hK hT hown 9 hk5_ (by decide) rfl 4 (by decide) kfX8_28 (v := va_rf (cs_r S 904 o)) rfl dX8_octetAt_13 ?_
      refine hw_topr (fun r6 er6 => ?_)
      replace h := h r6 er6
      refine lv_iload_n hx hb dX8_octetAt_16 rfl (lv_at hl 1 rfl) ?_
      obtain ⟨b7, rfl, h⟩ := h
      obtain ⟨hk8_, h⟩ := h
      obtain ⟨hi, h⟩ := h
      refine cs_iald hx hb hK hT hk8_ hi dX8_octetAt_17 ?_
      refine lv_goto (tgt := 22) hx hb dX8_octetAt_18 (by decide) ?_
      exact t_X8_octetAt_22 hC hin hO S (cs_ai S b7 p1.toNatClampNeg) _ _ _ h hT (lv_sub hl [] rfl)
/-! X11_isLetter -/
abbrev rm_X11_isLetter : Room := { frames := 0, cells := 0, slots := 0, locals := 0 }
def w_X11_isLetter_17 (post : Int32 → cs_S → Prop) (G : Nat → Nat) (S : cs_S) (y0 : Int32) : Prop := narrow .boolean (.int y0) = .int y0 ∧ post y0 S
section
variable {p : Program} {l : Launch} {e : Env} {s : State} {m : MethodId} {args : Array Value} {below : List Frame} {meth : Method} {c : Code} {P : hw_G} {G : Nat → Nat} {A : Nat → Prop}
set_option maxRecDepth 100000 in
set_option maxHeartbeats 4000000 in
theorem t_X11_isLetter_17 {post : Int32 → cs_S → Prop} (hC : rf_C P RX11 p s m meth c cX11_isLetter 1 (some .boolean)) (hin : meth.name = yX11_isLetter.name) (hO : cs_O G A s s.heap) (S : cs_S) (y0 : Int32) (H : Heap) (locs : List Loc) (ls : Array Slot) (h : w_X11_isLetter_17 post G S y0) (hT : cs_T P s A S H locs) (hl : lv_has ls 1 []) : W p l e rm_X11_isLetter s m args below meth c H locs 0 0 (MQ below (cs_Qi P A post) args s 0 0 A) (F0 m 17 ls [.int y0]) := by
  obtain ⟨hx, hb, hml, hown, hK, -, -⟩ := id hC
  exact cs_zret hC hT h.1 h.2 dX11_isLetter_17 (Nat.le_refl _) (Nat.le_refl _)
end
def w_X11_isLetter_16 (post : Int32 → cs_S → Prop) (G : Nat → Nat) (S : cs_S)  : Prop := w_X11_isLetter_17 post G S 0
section
variable {p : Program} {l : Launch} {e : Env} {s : State} {m : MethodId} {args : Array Value} {below : List Frame} {meth : Method} {c : Code} {P : hw_G} {G : Nat → Nat} {A : Nat → Prop}
set_option maxRecDepth 100000 in
set_option maxHeartbeats 4000000 in
theorem t_X11_isLetter_16 {post : Int32 → cs_S → Prop} (hC : rf_C P RX11 p s m meth c cX11_isLetter 1 (some .boolean)) (hin : meth.name = yX11_isLetter.name) (hO : cs_O G A s s.heap) (S : cs_S)  (H : Heap) (locs : List Loc) (ls : Array Slot) (h : w_X11_isLetter_16 post G S ) (hT : cs_T P s A S H locs) (hl : lv_has ls 1 []) : W p l e rm_X11_isLetter s m args below meth c H locs 0 0 (MQ below (cs_Qi P A post) args s 0 0 A) (F0 m 16 ls []) := by
  obtain ⟨hx, hb, hml, hown, hK, -, -⟩ := id hC
  refine lv_iconst (v := 0) hx hb dX11_isLetter_16 (by decide) ?_
  exact t_X11_isLetter_17 hC hin hO S 0 _ _ _ h hT (lv_sub hl [] rfl)
end
def wp_X11_isLetter (post : Int32 → cs_S → Prop) (G : Nat → Nat) (S : cs_S) (p0 : Int32) : Prop := (p0 < 97 → w_X11_isLetter_16 post G S) ∧ (¬ p0 < 97 → (122 < p0 → w_X11_isLetter_16 post G S) ∧ (¬ 122 < p0 → w_X11_isLetter_17 post G S 1))
set_option maxRecDepth 100000 in
set_option maxHeartbeats 4000000 in
theorem c_X11_isLetter {l : Launch} {P : hw_G} {G : Nat → Nat} {S : cs_S} {sz : Nat} {p0 : Int32} {post : Int32 → cs_S → Prop} (h : wp_X11_isLetter post G S p0) : Met l yX11_isLetter [Cond.code yX11_isLetter cX11_isLetter 1 (some .boolean)] rm_X11_isLetter (cs_Pc P G S sz [.int p0]) (cs_Qi P (cs_A S sz) post) 0 0 (cs_A S sz) := by
  refine cs_met (by decide) rfl (Nat.le_of_ble_eq_true rfl) ?_
  intro p e s m below meth c ls hC hin hO hT hl
  obtain ⟨hx, hb, hml, hown, hK, -, -⟩ := id hC
  replace hl : lv_has ls 1 [(0, .int p0)] := hl
  refine lv_iload_n hx hb dX11_isLetter_0 rfl (lv_at hl 0 rfl) ?_
  refine lv_bipush (v := 97) hx hb dX11_isLetter_1 (by decide) ?_
  refine lv_icmp_lt (tgt := 16) hx hb dX11_isLetter_3 (by decide) (fun hc => ?_) (fun hc => ?_)
  · replace h := h.1 hc
    exact t_X11_isLetter_16 hC hin hO S _ _ _ h hT (lv_sub hl [] rfl)
  · replace h := h.2 hc
    refine lv_iload_n hx hb dX11_isLetter_6 rfl (lv_at hl 0 rfl) ?_
    refine lv_bipush (v := 122) hx hb dX11_isLetter_7 (by decide) ?_
    refine lv_icmp_gt (tgt := 16) hx hb dX11_isLetter_9 (by decide) (fun hc => ?_) (fun hc => ?_)
    · replace h := h.1 hc
      exact t_X11_isLetter_16 hC hin hO S _ _ _ h hT (lv_sub hl [] rfl)
    · replace h := h.2 hc
      refine lv_iconst (v := 1) hx hb dX11_isLetter_12 (by decide) ?_
      refine lv_goto (tgt := 17) hx hb dX11_isLetter_13 (by decide) ?_
      exact t_X11_isLetter_17 hC hin hO S 1 _ _ _ h hT (lv_sub hl [] rfl)
/-! X11_isDigit -/
abbrev rm_X11_isDigit : Room := { frames := 0, cells := 0, slots := 0, locals := 0 }
def w_X11_isDigit_17 (post : Int32 → cs_S → Prop) (G : Nat → Nat) (S : cs_S) (y0 : Int32) : Prop := narrow .boolean (.int y0) = .int y0 ∧ post y0 S
section
variable {p : Program} {l : Launch} {e : Env} {s : State} {m : MethodId} {args : Array Value} {below : List Frame} {meth : Method} {c : Code} {P : hw_G} {G : Nat → Nat} {A : Nat → Prop}
set_option maxRecDepth 100000 in
set_option maxHeartbeats 4000000 in
theorem t_X11_isDigit_17 {post : Int32 → cs_S → Prop} (hC : rf_C P RX11 p s m meth c cX11_isDigit 1 (some .boolean)) (hin : meth.name = yX11_isDigit.name) (hO : cs_O G A s s.heap) (S : cs_S) (y0 : Int32) (H : Heap) (locs : List Loc) (ls : Array Slot) (h : w_X11_isDigit_17 post G S y0) (hT : cs_T P s A S H locs) (hl : lv_has ls 1 []) : W p l e rm_X11_isDigit s m args below meth c H locs 0 0 (MQ below (cs_Qi P A post) args s 0 0 A) (F0 m 17 ls [.int y0]) := by
  obtain ⟨hx, hb, hml, hown, hK, -, -⟩ := id hC
  exact cs_zret hC hT h.1 h.2 dX11_isDigit_17 (Nat.le_refl _) (Nat.le_refl _)
end
def w_X11_isDigit_16 (post : Int32 → cs_S → Prop) (G : Nat → Nat) (S : cs_S)  : Prop := w_X11_isDigit_17 post G S 0
section
variable {p : Program} {l : Launch} {e : Env} {s : State} {m : MethodId} {args : Array Value} {below : List Frame} {meth : Method} {c : Code} {P : hw_G} {G : Nat → Nat} {A : Nat → Prop}
set_option maxRecDepth 100000 in
set_option maxHeartbeats 4000000 in
theorem t_X11_isDigit_16 {post : Int32 → cs_S → Prop} (hC : rf_C P RX11 p s m meth c cX11_isDigit 1 (some .boolean)) (hin : meth.name = yX11_isDigit.name) (hO : cs_O G A s s.heap) (S : cs_S)  (H : Heap) (locs : List Loc) (ls : Array Slot) (h : w_X11_isDigit_16 post G S ) (hT : cs_T P s A S H locs) (hl : lv_has ls 1 []) : W p l e rm_X11_isDigit s m args below meth c H locs 0 0 (MQ below (cs_Qi P A post) args s 0 0 A) (F0 m 16 ls []) := by
  obtain ⟨hx, hb, hml, hown, hK, -, -⟩ := id hC
  refine lv_iconst (v := 0) hx hb dX11_isDigit_16 (by decide) ?_
  exact t_X11_isDigit_17 hC hin hO S 0 _ _ _ h hT (lv_sub hl [] rfl)
end
def wp_X11_isDigit (post : Int32 → cs_S → Prop) (G : Nat → Nat) (S : cs_S) (p0 : Int32) : Prop := (p0 < 48 → w_X11_isDigit_16 post G S) ∧ (¬ p0 < 48 → (57 < p0 → w_X11_isDigit_16 post G S) ∧ (¬ 57 < p0 → w_X11_isDigit_17 post G S 1))
set_option maxRecDepth 100000 in
set_option maxHeartbeats 4000000 in
theorem c_X11_isDigit {l : Launch} {P : hw_G} {G : Nat → Nat} {S : cs_S} {sz : Nat} {p0 : Int32} {post : Int32 → cs_S → Prop} (h : wp_X11_isDigit post G S p0) : Met l yX11_isDigit [Cond.code yX11_isDigit cX11_isDigit 1 (some .boolean)] rm_X11_isDigit (cs_Pc P G S sz [.int p0]) (cs_Qi P (cs_A S sz) post) 0 0 (cs_A S sz) := by
  refine cs_met (by decide) rfl (Nat.le_of_ble_eq_true rfl) ?_
  intro p e s m below meth c ls hC hin hO hT hl
  obtain ⟨hx, hb, hml, hown, hK, -, -⟩ := id hC
  replace hl : lv_has ls 1 [(0, .int p0)] := hl
  refine lv_iload_n hx hb dX11_isDigit_0 rfl (lv_at hl 0 rfl) ?_
  refine lv_bipush (v := 48) hx hb dX11_isDigit_1 (by decide) ?_
  refine lv_icmp_lt (tgt := 16) hx hb dX11_isDigit_3 (by decide) (fun hc => ?_) (fun hc => ?_)
  · replace h := h.1 hc
    exact t_X11_isDigit_16 hC hin hO S _ _ _ h hT (lv_sub hl [] rfl)
  · replace h := h.2 hc
    refine lv_iload_n hx hb dX11_isDigit_6 rfl (lv_at hl 0 rfl) ?_
    refine lv_bipush (v := 57) hx hb dX11_isDigit_7 (by decide) ?_
    refine lv_icmp_gt (tgt := 16) hx hb dX11_isDigit_9 (by decide) (fun hc => ?_) (fun hc => ?_)
    · replace h := h.1 hc
      exact t_X11_isDigit_16 hC hin hO S _ _ _ h hT (lv_sub hl [] rfl)
    · replace h := h.2 hc
      refine lv_iconst (v := 1) hx hb dX11_isDigit_12 (by decide) ?_
      refine lv_goto (tgt := 17) hx hb dX11_isDigit_13 (by decide) ?_
      exact t_X11_isDigit_17 hC hin hO S 1 _ _ _ h hT (lv_sub hl [] rfl)
/-! X8_put -/
abbrev rm_X8_put : Room := { frames := 0, cells := 0, slots := 0, locals := 0 }
def w_X8_put_52 (post : cs_S → Prop) (G : Nat → Nat) (S : cs_S)  : Prop := post S
section
variable {p : Program} {l : Launch} {e : Env} {s : State} {m : MethodId} {args : Array Value} {below : List Frame} {meth : Method} {c : Code} {P : hw_G} {G : Nat → Nat} {A : Nat → Prop}
set_option maxRecDepth 100000 in
set_option maxHeartbeats 4000000 in
theorem t_X8_put_52 {post : cs_S → Prop} (hC : rf_C P RX8 p s m meth c cX8_put 5 none) (hin : meth.name = yX8_put.name) (hO : cs_O G A s s.heap) (S : cs_S)  (H : Heap) (locs : List Loc) (ls : Array Slot) (h : w_X8_put_52 post G S ) (hT : cs_T P s A S H locs) (hl : lv_has ls 5 []) : W p l e rm_X8_put s m args below meth c H locs 0 0 (MQ below (cs_Qv P A post) args s 0 0 A) (F0 m 52 ls []) := by
  obtain ⟨hx, hb, hml, hown, hK, -, -⟩ := id hC
  exact cs_vret hC hT h dX8_put_52 (Nat.le_refl _) (Nat.le_refl _)
end
def wp_X8_put (post : cs_S → Prop) (G : Nat → Nat) (S : cs_S) (o : Nat) (p1 : Int32) (p2 : Int32) (p3 : Int64) : Prop := cs_k S o = 10 ∧ ∀ r22, r22 = cs_r S 900 o → ∃ b23, r22 = some b23 ∧ cs_k S b23 = 20 ∧ ((Int32.ofNat (cs_n S b23)) ≤ (cs_i S 906 o) → w_X8_put_52 post G S) ∧ (¬ (Int32.ofNat (cs_n S b23)) ≤ (cs_i S 906 o) → ∀ r25, r25 = cs_r S 900 o → ∃ b26, r25 = some b26 ∧ cs_k S b26 = 20 ∧ vp_in (cs_i S 906 o) (cs_n S b26) ∧ ∀ S28, S28 = cs_uai S b26 (cs_i S 906 o).toNatClampNeg p1 → cs_k S28 o = 10 ∧ ∀ r30, r30 = cs_r S28 901 o → ∃ b31, r30 = some b31 ∧ cs_k S28 b31 = 20 ∧ vp_in (cs_i S28 906 o) (cs_n S28 b31) ∧ ∀ S33, S33 = cs_uai S28 b31 (cs_i S28 906 o).toNatClampNeg p2 → cs_k S33 o = 10 ∧ ∀ r35, r35 = cs_r S33 902 o → ∃ b36, r35 = some b36 ∧ cs_k S33 b36 = 21 ∧ vp_in (cs_i S33 906 o) (cs_n S33 b36) ∧ ∀ S38, S38 = cs_ual S33 b36 (cs_i S33 906 o).toNatClampNeg p3 → cs_k S38 o = 10 ∧ ∀ S40, S40 = cs_ui S38 906 o ((cs_i S38 906 o) + 1) → w_X8_put_52 post G S40)
set_option maxRecDepth 100000 in
set_option maxHeartbeats 4000000 in
theorem c_X8_put {l : Launch} {P : hw_G} {G : Nat → Nat} {S : cs_S} {sz : Nat} {o : Nat} {p1 : Int32} {p2 : Int32} {p3 : Int64} {post : cs_S → Prop} (h : wp_X8_put post G S o p1 p2 p3) : Met l yX8_put [Cond.code yX8_put cX8_put 5 none] rm_X8_put (cs_Pc P G S sz [.ref o, .int p1, .int p2, .long p3]) (cs_Qv P (cs_A S sz) post) 0 0 (cs_A S sz) := by
  refine cs_met (by decide) rfl (Nat.le_of_ble_eq_true rfl) ?_
  intro p e s m below meth c ls hC hin hO hT hl
  obtain ⟨hx, hb, hml, hown, hK, -, -⟩ := id hC
  replace hl : lv_has ls 5 [(0, .ref o), (1, .int p1), (2, .int p2), (3, .long p3)] := hl
  refine lv_aload_n (x := o) hx hb dX8_put_0 rfl (lv_at hl 0 rfl) ?_
  obtain ⟨hk21_, h⟩ := h
  refine cs_get hx hb hK hT hown 9 hk21_ (by decide) rfl 6 (by decide) kfX8_57 (v := .int (cs_i S 906 o)) rfl dX8_put_1 ?_
  refine lv_aload_n (x := o) hx hb dX8_put_4 rfl (lv_at hl 0 rfl) ?_
  refine cs_get hx hb hK hT hown 9 hk21_ (by decide) rfl 0 (by decide) kfX8_9 (v := va_rf (cs_r S 900 o)) rfl dX8_put_5 ?_
  refine hw_topr (fun r22 er22 => ?_)
  replace h := h r22 er22
  obtain ⟨b23, rfl, h⟩ := h
  obtain ⟨hk24_, h⟩ := h
  refine cs_alen hx hb hK hT 20 hk24_ (by decide) (by decide) dX8_put_8 ?_
  refine lv_icmp_ge (tgt := 52) hx hb dX8_put_9 (by decide) (fun hc => ?_) (fun hc => ?_)
  · replace h := h.1 hc
    exact t_X8_put_52 hC hin hO S _ _ _ h hT (lv_sub hl [] rfl)
  · replace h := h.2 hc
    refine lv_aload_n (x := o) hx hb dX8_put_12 rfl (lv_at hl 0 rfl) ?_
    refine cs_get hx hb hK hT hown 9 hk21_ (by decide) rfl 0 (by decide) kfX8_9 (v := va_rf (cs_r S 900 o)) rfl dX8_put_13 ?_
    refine hw_topr (fun r25 er25 => ?_)
    replace h := h r25 er25
    refine lv_aload_n (x := o) hx hb dX8_put_16 rfl (lv_at hl 0 rfl) ?_
    refine cs_get hx hb hK hT hown 9 hk21_ (by decide) rfl 6 (by decide) kfX8_57 (v := .int (cs_i S 906 o)) rfl dX8_put_17 ?_
    refine lv_iload_n hx hb dX8_put_20 rfl (lv_at hl 1 rfl) ?_
    obtain ⟨b26, rfl, h⟩ := h
    obtain ⟨hk27_, h⟩ := h
    obtain ⟨hi, h⟩ := h
    refine cs_iast hx hb hK hT hk27_ hi dX8_put_21 (fun H locs hT_ => ?_)
    replace hT := hT_
    obtain ⟨S28, eS28⟩ : ∃ z, z = cs_uai S b26 (cs_i S 906 o).toNatClampNeg p1 := ⟨_, rfl⟩
    rw [← eS28] at hT
    replace h := h S28 eS28
    refine lv_aload_n (x := o) hx hb dX8_put_22 rfl (lv_at hl 0 rfl) ?_
    obtain ⟨hk29_, h⟩ := h
    refine cs_get hx hb hK hT hown 9 hk29_ (by decide) rfl 1 (by decide) kfX8_15 (v := va_rf (cs_r S28 901 o)) rfl dX8_put_23 ?_
    refine hw_topr (fun r30 er30 => ?_)
    replace h := h r30 er30
    refine lv_aload_n (x := o) hx hb dX8_put_26 rfl (lv_at hl 0 rfl) ?_
    refine cs_get hx hb hK hT hown 9 hk29_ (by decide) rfl 6 (by decide) kfX8_57 (v := .int (cs_i S28 906 o)) rfl dX8_put_27 ?_
    refine lv_iload_n hx hb dX8_put_30 rfl (lv_at hl 2 rfl) ?_
    obtain ⟨b31, rfl, h⟩ := h
    obtain ⟨hk32_, h⟩ := h
    obtain ⟨hi, h⟩ := h
    refine cs_iast hx hb hK hT hk32_ hi dX8_put_31 (fun H locs hT_ => ?_)
    replace hT := hT_
    obtain ⟨S33, eS33⟩ : ∃ z, z = cs_uai S28 b31 (cs_i S28 906 o).toNatClampNeg p2 := ⟨_, rfl⟩
    rw [← eS33] at hT
    replace h := h S33 eS33
    refine lv_aload_n (x := o) hx hb dX8_put_32 rfl (lv_at hl 0 rfl) ?_
    obtain ⟨hk34_, h⟩ := h
    refine cs_get hx hb hK hT hown 9 hk34_ (by decide) rfl 2 (by decide) kfX8_18 (v := va_rf (cs_r S33 902 o)) rfl dX8_put_33 ?_
    refine hw_topr (fun r35 er35 => ?_)
    replace h := h r35 er35
    refine lv_aload_n (x := o) hx hb dX8_put_36 rfl (lv_at hl 0 rfl) ?_
    refine cs_get hx hb hK hT hown 9 hk34_ (by decide) rfl 6 (by decide) kfX8_57 (v := .int (cs_i S33 906 o)) rfl dX8_put_37 ?_
    refine lv_lload_n hx hb dX8_put_40 rfl (lv_at hl 3 rfl) ?_
    obtain ⟨b36, rfl, h⟩ := h
    obtain ⟨hk37_, h⟩ := h
    obtain ⟨hi, h⟩ := h
    refine cs_last hx hb hK hT hk37_ hi dX8_put_41 (fun H locs hT_ => ?_)
    replace hT := hT_
    obtain ⟨S38, eS38⟩ : ∃ z, z = cs_ual S33 b36 (cs_i S33 906 o).toNatClampNeg p3 := ⟨_, rfl⟩
    rw [← eS38] at hT
    replace h := h S38 eS38
    refine lv_aload_n (x := o) hx hb dX8_put_42 rfl (lv_at hl 0 rfl) ?_
    refine lv_dup hx hb dX8_put_43 rfl ?_
    obtain ⟨hk39_, h⟩ := h
    refine cs_get hx hb hK hT hown 9 hk39_ (by decide) rfl 6 (by decide) kfX8_57 (v := .int (cs_i S38 906 o)) rfl dX8_put_44 ?_
    refine lv_iconst (v := 1) hx hb dX8_put_47 (by decide) ?_
    refine lv_iadd hx hb dX8_put_48 ?_
    refine cs_puti (x := ((cs_i S38 906 o) + 1)) hx hb hK hT hown 9 hk39_ (by decide) rfl 6 (by decide) kfX8_57 rfl (tyX8_ok 6 (by decide)) rfl 906 rfl dX8_put_49 (fun H locs hT_ => ?_)
    replace hT := hT_
    obtain ⟨S40, eS40⟩ : ∃ z, z = cs_ui S38 906 o ((cs_i S38 906 o) + 1) := ⟨_, rfl⟩
    rw [← eS40] at hT
    replace h := h S40 eS40
    exact t_X8_put_52 hC hin hO S40 _ _ _ h hT (lv_sub hl [] rfl)
/-! X8_scanWord -/
abbrev rm_X8_scanWord : Room := { frames := 1, cells := 0, slots := 0, locals := 24 }
def w_X8_scanWord_124 (post : Int32 → cs_S → Prop) (G : Nat → Nat) (k98 : cs_S → Nat → Int32 → Int32 → Int64 → Int32 → Int32 → Prop) (S : cs_S) (x0 : Nat) (x1 : Int32) (x2 : Int32) (x3 : Int64) (x6 : Int32) (x7 : Int32) : Prop := k98 S x0 x1 x2 x3 x6 (x7 + 1)
section
variable {p : Program} {l : Launch} {e : Env} {s : State} {m : MethodId} {args : Array Value} {below : List Frame} {meth : Method} {c : Code} {P : hw_G} {G : Nat → Nat} {A : Nat → Prop}
set_option maxRecDepth 100000 in
set_option maxHeartbeats 4000000 in
theorem t_X8_scanWord_124 {post : Int32 → cs_S → Prop} {k98 : cs_S → Nat → Int32 → Int32 → Int64 → Int32 → Int32 → Prop} (hC : rf_C P RX8 p s m meth c cX8_scanWord 8 (some .int)) (hin : meth.name = yX8_scanWord.name) (hO : cs_O G A s s.heap) (hk98 : ∀ (S : cs_S) (x0 : Nat) (x1 : Int32) (x2 : Int32) (x3 : Int64) (x6 : Int32) (x7 : Int32) (H : Heap) (locs : List Loc) (ls : Array Slot), k98 S x0 x1 x2 x3 x6 x7 → cs_T P s A S H locs → lv_has ls 8 [(0, .ref x0), (1, .int x1), (2, .int x2), (3, .long x3), (6, .int x6), (7, .int x7)] → W p l e rm_X8_scanWord s m args below meth c H locs 0 0 (MQ below (cs_Qi P A post) args s 0 0 A) (F0 m 98 ls [])) (S : cs_S) (x0 : Nat) (x1 : Int32) (x2 : Int32) (x3 : Int64) (x6 : Int32) (x7 : Int32) (H : Heap) (locs : List Loc) (ls : Array Slot) (h : w_X8_scanWord_124 post G k98 S x0 x1 x2 x3 x6 x7) (hT : cs_T P s A S H locs) (hl : lv_has ls 8 [(0, .ref x0), (1, .int x1), (2, .int x2), (3, .long x3), (6, .int x6), (7, .int x7)]) : W p l e rm_X8_scanWord s m args below meth c H locs 0 0 (MQ below (cs_Qi P A post) args s 0 0 A) (F0 m 124 ls []) := by
  obtain ⟨hx, hb, hml, hown, hK, -, -⟩ := id hC
  refine lv_iinc (v := x7 + 1) (lv' := [(7, _), (0, _), (1, _), (2, _), (3, _), (6, _)]) hx hb dX8_scanWord_124 hl (k := 5) rfl rfl (by decide) rfl (fun ls hl_ => ?_)
  replace hl := hl_
  refine lv_goto (tgt := 98) hx hb dX8_scanWord_127 (by decide) ?_
  exact hk98 S x0 x1 x2 x3 x6 (x7 + 1) _ _ _ h hT (lv_sub hl [1, 2, 3, 4, 5, 0] rfl)
end
def w_X8_scanWord_98 (post : Int32 → cs_S → Prop) (G : Nat → Nat) : Nat → cs_S → Nat → Int32 → Int32 → Int64 → Int32 → Int32 → Prop
  | 0, _, _, _, _, _, _, _ => False
  | n + 1, S, x0, x1, x2, x3, x6, x7 => (20 ≤ x7 → cs_k S x0 = 10 ∧ wp_X8_put (fun S25 => post x2 S25) G S x0 x6 x1 x3) ∧ (¬ 20 ≤ x7 → cs_k S x0 = 10 ∧ ∀ r28, r28 = cs_r S 903 x0 → ∃ b29, r28 = some b29 ∧ cs_k S b29 = 21 ∧ vp_in x7 (cs_n S b29) ∧ (¬ (lg_cmp (cs_al S b29 x7.toNatClampNeg) x3) = 0 → w_X8_scanWord_124 post G (w_X8_scanWord_98 post G n) S x0 x1 x2 x3 x6 x7) ∧ ((lg_cmp (cs_al S b29 x7.toNatClampNeg) x3) = 0 → w_X8_scanWord_124 post G (w_X8_scanWord_98 post G n) S x0 x1 x2 x3 (20 + x7) x7))
section
variable {p : Program} {l : Launch} {e : Env} {s : State} {m : MethodId} {args : Array Value} {below : List Frame} {meth : Method} {c : Code} {P : hw_G} {G : Nat → Nat} {A : Nat → Prop}
set_option maxRecDepth 100000 in
set_option maxHeartbeats 4000000 in
theorem t_X8_scanWord_98 {post : Int32 → cs_S → Prop} (hC : rf_C P RX8 p s m meth c cX8_scanWord 8 (some .int)) (hin : meth.name = yX8_scanWord.name) (hO : cs_O G A s s.heap) : ∀ (n : Nat) (S : cs_S) (x0 : Nat) (x1 : Int32) (x2 : Int32) (x3 : Int64) (x6 : Int32) (x7 : Int32) (H : Heap) (locs : List Loc) (ls : Array Slot), w_X8_scanWord_98 post G n S x0 x1 x2 x3 x6 x7 → cs_T P s A S H locs → lv_has ls 8 [(0, .ref x0), (1, .int x1), (2, .int x2), (3, .long x3), (6, .int x6), (7, .int x7)] → W p l e rm_X8_scanWord s m args below meth c H locs 0 0 (MQ below (cs_Qi P A post) args s 0 0 A) (F0 m 98 ls []) := by
  obtain ⟨hx, hb, hml, hown, hK, -, -⟩ := id hC
  intro n
  induction n with
  | zero => intro S x0 x1 x2 x3 x6 x7 H locs ls h; exact False.elim h
  | succ n ih =>
    intro S x0 x1 x2 x3 x6 x7 H locs ls h hT hl
    refine lv_iload hx hb dX8_scanWord_98 (lv_at hl 5 rfl) ?_
    refine lv_bipush (v := 20) hx hb dX8_scanWord_100 (by decide) ?_
    refine lv_icmp_ge (tgt := 130) hx hb dX8_scanWord_102 (by decide) (fun hc => ?_) (fun hc => ?_)
    · replace h := h.1 hc
      refine lv_aload_n (x := x0) hx hb dX8_scanWord_130 rfl (lv_at hl 0 rfl) ?_
      refine lv_iload hx hb dX8_scanWord_131 (lv_at hl 4 rfl) ?_
      refine lv_iload_n hx hb dX8_scanWord_133 rfl (lv_at hl 1 rfl) ?_
      refine lv_lload_n hx hb dX8_scanWord_134 rfl (lv_at hl 3 rfl) ?_
      obtain ⟨hk26_, h⟩ := h
      refine cs_callv0 (cs_runV hx hb hml hown hK hO hT 9 hk26_ (by decide) rfl (c_X8_put h) rfl rfl klX8_64 ki_X8_put ks_X8_put kn_X8 kc_X8_put 3 ⟨rfl, by decide, by decide, by decide +kernel⟩ ⟨by decide, by decide⟩ rfl hl.1 rfl (hw_cat8 (Nat.le_of_ble_eq_true rfl)) ⟨(Nat.le_refl _), (Nat.le_refl _)⟩ dX8_scanWord_135) hT (fun S25 H locs h_ hT_ => ?_)
      replace h := h_
      replace hT := hT_
      refine lv_iload_n hx hb dX8_scanWord_138 rfl (lv_at hl 2 rfl) ?_
      exact cs_iret hC hT h dX8_scanWord_139 (Nat.le_refl _) (Nat.le_refl _)
    · replace h := h.2 hc
      refine lv_aload_n (x := x0) hx hb dX8_scanWord_105 rfl (lv_at hl 0 rfl) ?_
      obtain ⟨hk27_, h⟩ := h
      refine cs_get hx hb hK hT hown 9 hk27_ (by decide) rfl 3 (by decide) kfX8_22 (v := va_rf (cs_r S 903 x0)) rfl dX8_scanWord_106 ?_
      refine hw_topr (fun r28 er28 => ?_)
      replace h := h r28 er28
      refine lv_iload hx hb dX8_scanWord_109 (lv_at hl 5 rfl) ?_
      obtain ⟨b29, rfl, h⟩ := h
      obtain ⟨hk30_, h⟩ := h
      obtain ⟨hi, h⟩ := h
      refine cs_lald hx hb hK hT hk30_ hi dX8_scanWord_111 ?_
      refine lv_lload_n hx hb dX8_scanWord_112 rfl (lv_at hl 3 rfl) ?_
      refine W.lcmp hx hb dX8_scanWord_113 ?_
      refine lv_if_ne (tgt := 124) hx hb dX8_scanWord_114 (by decide) (fun hc => ?_) (fun hc => ?_)
      · replace h := h.1 hc
        exact t_X8_scanWord_124 hC hin hO ih S x0 x1 x2 x3 x6 x7 _ _ _ h hT (lv_sub hl [0, 1, 2, 3, 4, 5] rfl)
      · replace h := h.2 hc
        refine lv_bipush (v := 20) hx hb dX8_scanWord_117 (by decide) ?_
        refine lv_iload hx hb dX8_scanWord_119 (lv_at hl 5 rfl) ?_
        refine lv_iadd hx hb dX8_scanWord_121 ?_
        refine lv_istore (lv' := [(6, _), (0, _), (1, _), (2, _), (3, _), (7, _)]) hx hb dX8_scanWord_122 hl (by decide) rfl (fun ls hl_ => ?_)
        replace hl := hl_
        exact t_X8_scanWord_124 hC hin hO ih S x0 x1 x2 x3 (20 + x7) x7 _ _ _ h hT (lv_sub hl [1, 2, 3, 4, 0, 5] rfl)
end
def w_X8_scanWord_85 (post : Int32 → cs_S → Prop) (G : Nat → Nat) (S : cs_S) (x0 : Nat) (x1 : Int32) (x2 : Int32) (x3 : Int64) (x5 : Int32) : Prop := (¬ x5 = 0 → ∃ n9, w_X8_scanWord_98 post G n9 S x0 x1 x2 x3 2 0) ∧ (x5 = 0 → post ((-1)) S)
section
variable {p : Program} {l : Launch} {e : Env} {s : State} {m : MethodId} {args : Array Value} {below : List Frame} {meth : Method} {c : Code} {P : hw_G} {G : Nat → Nat} {A : Nat → Prop}
set_option maxRecDepth 100000 in
set_option maxHeartbeats 4000000 in
theorem t_X8_scanWord_85 {post : Int32 → cs_S → Prop} (hC : rf_C P RX8 p s m meth c cX8_scanWord 8 (some .int)) (hin : meth.name = yX8_scanWord.name) (hO : cs_O G A s s.heap) (S : cs_S) (x0 : Nat) (x1 : Int32) (x2 : Int32) (x3 : Int64) (x5 : Int32) (H : Heap) (locs : List Loc) (ls : Array Slot) (h : w_X8_scanWord_85 post G S x0 x1 x2 x3 x5) (hT : cs_T P s A S H locs) (hl : lv_has ls 8 [(0, .ref x0), (1, .int x1), (2, .int x2), (3, .long x3), (5, .int x5)]) : W p l e rm_X8_scanWord s m args below meth c H locs 0 0 (MQ below (cs_Qi P A post) args s 0 0 A) (F0 m 85 ls []) := by
  obtain ⟨hx, hb, hml, hown, hK, -, -⟩ := id hC
  refine lv_iload hx hb dX8_scanWord_85 (lv_at hl 4 rfl) ?_
  refine lv_if_ne (tgt := 92) hx hb dX8_scanWord_87 (by decide) (fun hc => ?_) (fun hc => ?_)
  · replace h := h.1 hc
    refine lv_iconst (v := 2) hx hb dX8_scanWord_92 (by decide) ?_
    refine lv_istore (lv' := [(6, _), (0, _), (1, _), (2, _), (3, _), (5, _)]) hx hb dX8_scanWord_93 hl (by decide) rfl (fun ls hl_ => ?_)
    replace hl := hl_
    refine lv_iconst (v := 0) hx hb dX8_scanWord_95 (by decide) ?_
    refine lv_istore (lv' := [(7, _), (6, _), (0, _), (1, _), (2, _), (3, _), (5, _)]) hx hb dX8_scanWord_96 hl (by decide) rfl (fun ls hl_ => ?_)
    replace hl := hl_
    obtain ⟨n9, h⟩ := h
    exact t_X8_scanWord_98 hC hin hO n9 S x0 x1 x2 x3 2 0 _ _ _ h hT (lv_sub hl [2, 3, 4, 5, 1, 0] rfl)
  · replace h := h.2 hc
    refine lv_iconst (v := (-1)) hx hb dX8_scanWord_90 (by decide) ?_
    exact cs_iret hC hT h dX8_scanWord_91 (Nat.le_refl _) (Nat.le_refl _)
end
def w_X8_scanWord_79 (post : Int32 → cs_S → Prop) (G : Nat → Nat) (k7 : cs_S → Nat → Int32 → Int32 → Int64 → Int32 → Prop) (S : cs_S) (x0 : Nat) (x1 : Int32) (x2 : Int32) (x3 : Int64) (x5 : Int32) : Prop := k7 S x0 x1 (x2 + 1) x3 x5
section
variable {p : Program} {l : Launch} {e : Env} {s : State} {m : MethodId} {args : Array Value} {below : List Frame} {meth : Method} {c : Code} {P : hw_G} {G : Nat → Nat} {A : Nat → Prop}
set_option maxRecDepth 100000 in
set_option maxHeartbeats 4000000 in
theorem t_X8_scanWord_79 {post : Int32 → cs_S → Prop} {k7 : cs_S → Nat → Int32 → Int32 → Int64 → Int32 → Prop} (hC : rf_C P RX8 p s m meth c cX8_scanWord 8 (some .int)) (hin : meth.name = yX8_scanWord.name) (hO : cs_O G A s s.heap) (hk7 : ∀ (S : cs_S) (x0 : Nat) (x1 : Int32) (x2 : Int32) (x3 : Int64) (x5 : Int32) (H : Heap) (locs : List Loc) (ls : Array Slot), k7 S x0 x1 x2 x3 x5 → cs_T P s A S H locs → lv_has ls 8 [(0, .ref x0), (1, .int x1), (2, .int x2), (3, .long x3), (5, .int x5)] → W p l e rm_X8_scanWord s m args below meth c H locs 0 0 (MQ below (cs_Qi P A post) args s 0 0 A) (F0 m 7 ls [])) (S : cs_S) (x0 : Nat) (x1 : Int32) (x2 : Int32) (x3 : Int64) (x5 : Int32) (H : Heap) (locs : List Loc) (ls : Array Slot) (h : w_X8_scanWord_79 post G k7 S x0 x1 x2 x3 x5) (hT : cs_T P s A S H locs) (hl : lv_has ls 8 [(0, .ref x0), (1, .int x1), (2, .int x2), (3, .long x3), (5, .int x5)]) : W p l e rm_X8_scanWord s m args below meth c H locs 0 0 (MQ below (cs_Qi P A post) args s 0 0 A) (F0 m 79 ls []) := by
  obtain ⟨hx, hb, hml, hown, hK, -, -⟩ := id hC
  refine lv_iinc (v := x2 + 1) (lv' := [(2, _), (0, _), (1, _), (3, _), (5, _)]) hx hb dX8_scanWord_79 hl (k := 2) rfl rfl (by decide) rfl (fun ls hl_ => ?_)
  replace hl := hl_
  refine lv_goto (tgt := 7) hx hb dX8_scanWord_82 (by decide) ?_
  exact hk7 S x0 x1 (x2 + 1) x3 x5 _ _ _ h hT (lv_sub hl [1, 2, 0, 3, 4] rfl)
end
def w_X8_scanWord_76 (post : Int32 → cs_S → Prop) (G : Nat → Nat) (k7 : cs_S → Nat → Int32 → Int32 → Int64 → Int32 → Prop) (S : cs_S) (x0 : Nat) (x1 : Int32) (x2 : Int32) (x3 : Int64) : Prop := w_X8_scanWord_79 post G k7 S x0 x1 x2 x3 0
section
variable {p : Program} {l : Launch} {e : Env} {s : State} {m : MethodId} {args : Array Value} {below : List Frame} {meth : Method} {c : Code} {P : hw_G} {G : Nat → Nat} {A : Nat → Prop}
set_option maxRecDepth 100000 in
set_option maxHeartbeats 4000000 in
theorem t_X8_scanWord_76 {post : Int32 → cs_S → Prop} {k7 : cs_S → Nat → Int32 → Int32 → Int64 → Int32 → Prop} (hC : rf_C P RX8 p s m meth c cX8_scanWord 8 (some .int)) (hin : meth.name = yX8_scanWord.name) (hO : cs_O G A s s.heap) (hk7 : ∀ (S : cs_S) (x0 : Nat) (x1 : Int32) (x2 : Int32) (x3 : Int64) (x5 : Int32) (H : Heap) (locs : List Loc) (ls : Array Slot), k7 S x0 x1 x2 x3 x5 → cs_T P s A S H locs → lv_has ls 8 [(0, .ref x0), (1, .int x1), (2, .int x2), (3, .long x3), (5, .int x5)] → W p l e rm_X8_scanWord s m args below meth c H locs 0 0 (MQ below (cs_Qi P A post) args s 0 0 A) (F0 m 7 ls [])) (S : cs_S) (x0 : Nat) (x1 : Int32) (x2 : Int32) (x3 : Int64) (H : Heap) (locs : List Loc) (ls : Array Slot) (h : w_X8_scanWord_76 post G k7 S x0 x1 x2 x3) (hT : cs_T P s A S H locs) (hl : lv_has ls 8 [(0, .ref x0), (1, .int x1), (2, .int x2), (3, .long x3)]) : W p l e rm_X8_scanWord s m args below meth c H locs 0 0 (MQ below (cs_Qi P A post) args s 0 0 A) (F0 m 76 ls []) := by
  obtain ⟨hx, hb, hml, hown, hK, -, -⟩ := id hC
  refine lv_iconst (v := 0) hx hb dX8_scanWord_76 (by decide) ?_
  refine lv_istore (lv' := [(5, _), (0, _), (1, _), (2, _), (3, _)]) hx hb dX8_scanWord_77 hl (by decide) rfl (fun ls hl_ => ?_)
  replace hl := hl_
  exact t_X8_scanWord_79 hC hin hO hk7 S x0 x1 x2 x3 0 _ _ _ h hT (lv_sub hl [1, 2, 3, 4, 0] rfl)
end
def w_X8_scanWord_39 (post : Int32 → cs_S → Prop) (G : Nat → Nat) (k7 : cs_S → Nat → Int32 → Int32 → Int64 → Int32 → Prop) (S : cs_S) (x0 : Nat) (x1 : Int32) (x2 : Int32) (x3 : Int64) (x5 : Int32) : Prop := cs_k S x0 = 10 ∧ ∀ r32, r32 = cs_r S 904 x0 → ∃ b33, r32 = some b33 ∧ cs_k S b33 = 20 ∧ vp_in x2 (cs_n S b33) ∧ wp_X11_isLetter (fun r35 S35 => (r35 = 0 → w_X8_scanWord_76 post G k7 S35 x0 x1 x2 x3) ∧ (¬ r35 = 0 → (8 ≤ (x2 - x1) → w_X8_scanWord_76 post G k7 S35 x0 x1 x2 x3) ∧ (¬ 8 ≤ (x2 - x1) → cs_k S35 x0 = 10 ∧ ∀ r37, r37 = cs_r S35 904 x0 → ∃ b38, r37 = some b38 ∧ cs_k S35 b38 = 20 ∧ vp_in x2 (cs_n S35 b38) ∧ wp_X11_withLetter (fun r40 S40 => w_X8_scanWord_79 post G k7 S40 x0 x1 x2 r40 x5) G S35 x3 (x2 - x1) (cs_ai S35 b38 x2.toNatClampNeg)))) G S (cs_ai S b33 x2.toNatClampNeg)
section
variable {p : Program} {l : Launch} {e : Env} {s : State} {m : MethodId} {args : Array Value} {below : List Frame} {meth : Method} {c : Code} {P : hw_G} {G : Nat → Nat} {A : Nat → Prop}
set_option maxRecDepth 100000 in
set_option maxHeartbeats 4000000 in
theorem t_X8_scanWord_39 {post : Int32 → cs_S → Prop} {k7 : cs_S → Nat → Int32 → Int32 → Int64 → Int32 → Prop} (hC : rf_C P RX8 p s m meth c cX8_scanWord 8 (some .int)) (hin : meth.name = yX8_scanWord.name) (hO : cs_O G A s s.heap) (hk7 : ∀ (S : cs_S) (x0 : Nat) (x1 : Int32) (x2 : Int32) (x3 : Int64) (x5 : Int32) (H : Heap) (locs : List Loc) (ls : Array Slot), k7 S x0 x1 x2 x3 x5 → cs_T P s A S H locs → lv_has ls 8 [(0, .ref x0), (1, .int x1), (2, .int x2), (3, .long x3), (5, .int x5)] → W p l e rm_X8_scanWord s m args below meth c H locs 0 0 (MQ below (cs_Qi P A post) args s 0 0 A) (F0 m 7 ls [])) (S : cs_S) (x0 : Nat) (x1 : Int32) (x2 : Int32) (x3 : Int64) (x5 : Int32) (H : Heap) (locs : List Loc) (ls : Array Slot) (h : w_X8_scanWord_39 post G k7 S x0 x1 x2 x3 x5) (hT : cs_T P s A S H locs) (hl : lv_has ls 8 [(0, .ref x0), (1, .int x1), (2, .int x2), (3, .long x3), (5, .int x5)]) : W p l e rm_X8_scanWord s m args below meth c H locs 0 0 (MQ below (cs_Qi P A post) args s 0 0 A) (F0 m 39 ls []) := by
  obtain ⟨hx, hb, hml, hown, hK, -, -⟩ := id hC
  refine lv_aload_n (x := x0) hx hb dX8_scanWord_39 rfl (lv_at hl 0 rfl) ?_
  obtain ⟨hk31_, h⟩ := h
  refine cs_get hx hb hK hT hown 9 hk31_ (by decide) rfl 4 (by decide) kfX8_28 (v := va_rf (cs_r S 904 x0)) rfl dX8_scanWord_40 ?_
  refine hw_topr (fun r32 er32 => ?_)
  replace h := h r32 er32
  refine lv_iload_n hx hb dX8_scanWord_43 rfl (lv_at hl 2 rfl) ?_
  obtain ⟨b33, rfl, h⟩ := h
  obtain ⟨hk34_, h⟩ := h
  obtain ⟨hi, h⟩ := h
  refine cs_iald hx hb hK hT hk34_ hi dX8_scanWord_44 ?_
  refine cs_calli0 (cs_runSN hx hb hml hown hK hO hT (c_X11_isLetter h) rfl rfl klnX8_71 ki_X11_isLetter kn_X11 kc_X11_isLetter 1 ⟨by decide, by decide, by decide +kernel⟩ ⟨by decide, by decide⟩ rfl hl.1 rfl (hw_cat8 (Nat.le_of_ble_eq_true rfl)) ⟨(Nat.le_refl _), (Nat.le_refl _)⟩ dX8_scanWord_45) hT (fun r35 S35 H locs h_ hT_ => ?_)
  replace h := h_
  replace hT := hT_
  refine lv_if_eq (tgt := 76) hx hb dX8_scanWord_48 (by decide) (fun hc => ?_) (fun hc => ?_)
  · replace h := h.1 hc
    exact t_X8_scanWord_76 hC hin hO hk7 S35 x0 x1 x2 x3 _ _ _ h hT (lv_sub hl [0, 1, 2, 3] rfl)
  · replace h := h.2 hc
    refine lv_iload_n hx hb dX8_scanWord_51 rfl (lv_at hl 2 rfl) ?_
    refine lv_iload_n hx hb dX8_scanWord_52 rfl (lv_at hl 1 rfl) ?_
    refine lv_isub hx hb dX8_scanWord_53 ?_
    refine lv_bipush (v := 8) hx hb dX8_scanWord_54 (by decide) ?_
    refine lv_icmp_ge (tgt := 76) hx hb dX8_scanWord_56 (by decide) (fun hc => ?_) (fun hc => ?_)
    · replace h := h.1 hc
      exact t_X8_scanWord_76 hC hin hO hk7 S35 x0 x1 x2 x3 _ _ _ h hT (lv_sub hl [0, 1, 2, 3] rfl)
    · replace h := h.2 hc
      refine lv_lload_n hx hb dX8_scanWord_59 rfl (lv_at hl 3 rfl) ?_
      refine lv_iload_n hx hb dX8_scanWord_60 rfl (lv_at hl 2 rfl) ?_
      refine lv_iload_n hx hb dX8_scanWord_61 rfl (lv_at hl 1 rfl) ?_
      refine lv_isub hx hb dX8_scanWord_62 ?_
      refine lv_aload_n (x := x0) hx hb dX8_scanWord_63 rfl (lv_at hl 0 rfl) ?_
      obtain ⟨hk36_, h⟩ := h
      refine cs_get hx hb hK hT hown 9 hk36_ (by decide) rfl 4 (by decide) kfX8_28 (v := va_rf (cs_r S35 904 x0)) rfl dX8_scanWord_64 ?_
      refine hw_topr (fun r37 er37 => ?_)
      replace h := h r37 er37
      refine lv_iload_n hx hb dX8_scanWord_67 rfl (lv_at hl 2 rfl) ?_
      obtain ⟨b38, rfl, h⟩ := h
      obtain ⟨hk39_, h⟩ := h
      obtain ⟨hi, h⟩ := h
      refine cs_iald hx hb hK hT hk39_ hi dX8_scanWord_68 ?_
      refine cs_calll0 (cs_runSN hx hb hml hown hK hO hT (c_X11_withLetter h) rfl rfl klnX8_43 ki_X11_withLetter kn_X11 kc_X11_withLetter 3 ⟨by decide, by decide, by decide +kernel⟩ ⟨by decide, by decide⟩ rfl hl.1 rfl (hw_cat8 (Nat.le_of_ble_eq_true rfl)) ⟨(Nat.le_refl _), (Nat.le_refl _)⟩ dX8_scanWord_69) hT (fun r40 S40 H locs h_ hT_ => ?_)
      replace h := h_
      replace hT := hT_
      refine lv_lstore_n (lv' := [(3, _), (0, _), (1, _), (2, _), (5, _)]) hx hb dX8_scanWord_72 rfl hl (by decide) rfl (fun ls hl_ => ?_)
      replace hl := hl_
      refine lv_goto (tgt := 79) hx hb dX8_scanWord_73 (by decide) ?_
      exact t_X8_scanWord_79 hC hin hO hk7 S40 x0 x1 x2 r40 x5 _ _ _ h hT (lv_sub hl [1, 2, 3, 0, 4] rfl)
end
def w_X8_scanWord_7 (post : Int32 → cs_S → Prop) (G : Nat → Nat) : Nat → cs_S → Nat → Int32 → Int32 → Int64 → Int32 → Prop
  | 0, _, _, _, _, _, _ => False
  | n + 1, S, x0, x1, x2, x3, x5 => cs_k S x0 = 10 ∧ ((cs_i S 905 x0) ≤ x2 → w_X8_scanWord_85 post G S x0 x1 x2 x3 x5) ∧ (¬ (cs_i S 905 x0) ≤ x2 → ∀ r42, r42 = cs_r S 904 x0 → ∃ b43, r42 = some b43 ∧ cs_k S b43 = 20 ∧ vp_in x2 (cs_n S b43) ∧ wp_X11_isLetter (fun r45 S45 => (¬ r45 = 0 → w_X8_scanWord_39 post G (w_X8_scanWord_7 post G n) S45 x0 x1 x2 x3 x5) ∧ (r45 = 0 → cs_k S45 x0 = 10 ∧ ∀ r47, r47 = cs_r S45 904 x0 → ∃ b48, r47 = some b48 ∧ cs_k S45 b48 = 20 ∧ vp_in x2 (cs_n S45 b48) ∧ wp_X11_isDigit (fun r50 S50 => (r50 = 0 → w_X8_scanWord_85 post G S50 x0 x1 x2 x3 x5) ∧ (¬ r50 = 0 → w_X8_scanWord_39 post G (w_X8_scanWord_7 post G n) S50 x0 x1 x2 x3 x5)) G S45 (cs_ai S45 b48 x2.toNatClampNeg))) G S (cs_ai S b43 x2.toNatClampNeg))
section
variable {p : Program} {l : Launch} {e : Env} {s : State} {m : MethodId} {args : Array Value} {below : List Frame} {meth : Method} {c : Code} {P : hw_G} {G : Nat → Nat} {A : Nat → Prop}
set_option maxRecDepth 100000 in
set_option maxHeartbeats 4000000 in
theorem t_X8_scanWord_7 {post : Int32 → cs_S → Prop} (hC : rf_C P RX8 p s m meth c cX8_scanWord 8 (some .int)) (hin : meth.name = yX8_scanWord.name) (hO : cs_O G A s s.heap) : ∀ (n : Nat) (S : cs_S) (x0 : Nat) (x1 : Int32) (x2 : Int32) (x3 : Int64) (x5 : Int32) (H : Heap) (locs : List Loc) (ls : Array Slot), w_X8_scanWord_7 post G n S x0 x1 x2 x3 x5 → cs_T P s A S H locs → lv_has ls 8 [(0, .ref x0), (1, .int x1), (2, .int x2), (3, .long x3), (5, .int x5)] → W p l e rm_X8_scanWord s m args below meth c H locs 0 0 (MQ below (cs_Qi P A post) args s 0 0 A) (F0 m 7 ls []) := by
  obtain ⟨hx, hb, hml, hown, hK, -, -⟩ := id hC
  intro n
  induction n with
  | zero => intro S x0 x1 x2 x3 x5 H locs ls h; exact False.elim h
  | succ n ih =>
    intro S x0 x1 x2 x3 x5 H locs ls h hT hl
    refine lv_iload_n hx hb dX8_scanWord_7 rfl (lv_at hl 2 rfl) ?_
    refine lv_aload_n (x := x0) hx hb dX8_scanWord_8 rfl (lv_at hl 0 rfl) ?_
    obtain ⟨hk41_, h⟩ := h
    refine cs_get hx hb hK hT hown 9 hk41_ (by decide) rfl 5 (by decide) kfX8_53 (v := .int (cs_i S 905 x0)) rfl dX8_scanWord_9 ?_
    refine lv_icmp_ge (tgt := 85) hx hb dX8_scanWord_12 (by decide) (fun hc => ?_) (fun hc => ?_)
    · replace h := h.1 hc
      exact t_X8_scanWord_85 hC hin hO S x0 x1 x2 x3 x5 _ _ _ h hT (lv_sub hl [0, 1, 2, 3, 4] rfl)
    · replace h := h.2 hc
      refine lv_aload_n (x := x0) hx hb dX8_scanWord_15 rfl (lv_at hl 0 rfl) ?_
      refine cs_get hx hb hK hT hown 9 hk41_ (by decide) rfl 4 (by decide) kfX8_28 (v := va_rf (cs_r S 904 x0)) rfl dX8_scanWord_16 ?_
      refine hw_topr (fun r42 er42 => ?_)
      replace h := h r42 er42
      refine lv_iload_n hx hb dX8_scanWord_19 rfl (lv_at hl 2 rfl) ?_
      obtain ⟨b43, rfl, h⟩ := h
      obtain ⟨hk44_, h⟩ := h
      obtain ⟨hi, h⟩ := h
      refine cs_iald hx hb hK hT hk44_ hi dX8_scanWord_20 ?_
      refine cs_calli0 (cs_runSN hx hb hml hown hK hO hT (c_X11_isLetter h) rfl rfl klnX8_71 ki_X11_isLetter kn_X11 kc_X11_isLetter 1 ⟨by decide, by decide, by decide +kernel⟩ ⟨by decide, by decide⟩ rfl hl.1 rfl (hw_cat8 (Nat.le_of_ble_eq_true rfl)) ⟨(Nat.le_refl _), (Nat.le_refl _)⟩ dX8_scanWord_21) hT (fun r45 S45 H locs h_ hT_ => ?_)
      replace h := h_
      replace hT := hT_
      refine lv_if_ne (tgt := 39) hx hb dX8_scanWord_24 (by decide) (fun hc => ?_) (fun hc => ?_)
      · replace h := h.1 hc
        exact t_X8_scanWord_39 hC hin hO ih S45 x0 x1 x2 x3 x5 _ _ _ h hT (lv_sub hl [0, 1, 2, 3, 4] rfl)
      · replace h := h.2 hc
        refine lv_aload_n (x := x0) hx hb dX8_scanWord_27 rfl (lv_at hl 0 rfl) ?_
        obtain ⟨hk46_, h⟩ := h
        refine cs_get hx hb hK hT hown 9 hk46_ (by decide) rfl 4 (by decide) kfX8_28 (v := va_rf (cs_r S45 904 x0)) rfl dX8_scanWord_28 ?_
        refine hw_topr (fun r47 er47 => ?_)
        replace h := h r47 er47
        refine lv_iload_n hx hb dX8_scanWord_31 rfl (lv_at hl 2 rfl) ?_
        obtain ⟨b48, rfl, h⟩ := h
        obtain ⟨hk49_, h⟩ := h
        obtain ⟨hi, h⟩ := h
        refine cs_iald hx hb hK hT hk49_ hi dX8_scanWord_32 ?_
        refine cs_calli0 (cs_runSN hx hb hml hown hK hO hT (c_X11_isDigit h) rfl rfl klnX8_84 ki_X11_isDigit kn_X11 kc_X11_isDigit 1 ⟨by decide, by decide, by decide +kernel⟩ ⟨by decide, by decide⟩ rfl hl.1 rfl (hw_cat8 (Nat.le_of_ble_eq_true rfl)) ⟨(Nat.le_refl _), (Nat.le_refl _)⟩ dX8_scanWord_33) hT (fun r50 S50 H locs h_ hT_ => ?_)
        replace h := h_
        replace hT := hT_
        refine lv_if_eq (tgt := 85) hx hb dX8_scanWord_36 (by decide) (fun hc => ?_) (fun hc => ?_)
        · replace h := h.1 hc
          exact t_X8_scanWord_85 hC hin hO S50 x0 x1 x2 x3 x5 _ _ _ h hT (lv_sub hl [0, 1, 2, 3, 4] rfl)
        · replace h := h.2 hc
          exact t_X8_scanWord_39 hC hin hO ih S50 x0 x1 x2 x3 x5 _ _ _ h hT (lv_sub hl [0, 1, 2, 3, 4] rfl)
end
def wp_X8_scanWord (post : Int32 → cs_S → Prop) (G : Nat → Nat) (S : cs_S) (o : Nat) (p1 : Int32) : Prop := ∃ n9, w_X8_scanWord_7 post G n9 S o p1 p1 0 1
set_option maxRecDepth 100000 in
set_option maxHeartbeats 4000000 in
theorem c_X8_scanWord {l : Launch} {P : hw_G} {G : Nat → Nat} {S : cs_S} {sz : Nat} {o : Nat} {p1 : Int32} {post : Int32 → cs_S → Prop} (h : wp_X8_scanWord post G S o p1) : Met l yX8_scanWord [Cond.code yX8_scanWord cX8_scanWord 8 (some .int)] rm_X8_scanWord (cs_Pc P G S sz [.ref o, .int p1]) (cs_Qi P (cs_A S sz) post) 0 0 (cs_A S sz) := by
  refine cs_met (by decide) rfl (Nat.le_of_ble_eq_true rfl) ?_
  intro p e s m below meth c ls hC hin hO hT hl
  obtain ⟨hx, hb, hml, hown, hK, -, -⟩ := id hC
  replace hl : lv_has ls 8 [(0, .ref o), (1, .int p1)] := hl
  refine lv_iload_n hx hb dX8_scanWord_0 rfl (lv_at hl 1 rfl) ?_
  refine lv_istore_n (lv' := [(2, _), (0, _), (1, _)]) hx hb dX8_scanWord_1 rfl hl (by decide) rfl (fun ls hl_ => ?_)
  replace hl := hl_
  refine lv_lconst (v := 0) hx hb dX8_scanWord_2 (by decide) ?_
  refine lv_lstore_n (lv' := [(3, _), (2, _), (0, _), (1, _)]) hx hb dX8_scanWord_3 rfl hl (by decide) rfl (fun ls hl_ => ?_)
  replace hl := hl_
  refine lv_iconst (v := 1) hx hb dX8_scanWord_4 (by decide) ?_
  refine lv_istore (lv' := [(5, _), (3, _), (2, _), (0, _), (1, _)]) hx hb dX8_scanWord_5 hl (by decide) rfl (fun ls hl_ => ?_)
  replace hl := hl_
  obtain ⟨n9, h⟩ := h
  exact t_X8_scanWord_7 hC hin hO n9 S o p1 p1 0 1 _ _ _ h hT (lv_sub hl [3, 4, 2, 1, 0] rfl)
