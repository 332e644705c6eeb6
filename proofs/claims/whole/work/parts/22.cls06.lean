/-! X11_isPlain -/
abbrev rm_X11_isPlain : Room := { frames := 0, cells := 0, slots := 0, locals := 0 }
def w_X11_isPlain_17 (post : Int32 → cs_S → Prop) (G : Nat → Nat) (S : cs_S) (y0 : Int32) : Prop := narrow .boolean (.int y0) = .int y0 ∧ post y0 S
section
variable {p : Program} {l : Launch} {e : Env} {s : State} {m : MethodId} {args : Array Value} {below : List Frame} {meth : Method} {c : Code} {P : hw_G} {G : Nat → Nat} {A : Nat → Prop}
set_option maxRecDepth 100000 in
set_option maxHeartbeats 4000000 in
theorem t_X11_isPlain_17 {post : Int32 → cs_S → Prop} (hC : rf_C P RX11 p s m meth c cX11_isPlain 1 (some .boolean)) (hin : meth.name = yX11_isPlain.name) (hO : cs_O G A s s.heap) (S : cs_S) (y0 : Int32) (H : Heap) (locs : List Loc) (ls : Array Slot) (h : w_X11_isPlain_17 post G S y0) (hT : cs_T P s A S H locs) (hl : lv_has ls 1 []) : W p l e rm_X11_isPlain s m args below meth c H locs 0 0 (MQ below (cs_Qi P A post) args s 0 0 A) (F0 m 17 ls [.int y0]) := by
  obtain ⟨hx, hb, hml, hown, hK, -, -⟩ := id hC
  exact cs_zret hC hT h.1 h.2 dX11_isPlain_17 (Nat.le_refl _) (Nat.le_refl _)
end
def w_X11_isPlain_16 (post : Int32 → cs_S → Prop) (G : Nat → Nat) (S : cs_S)  : Prop := w_X11_isPlain_17 post G S 0
section
variable {p : Program} {l : Launch} {e : Env} {s : State} {m : MethodId} {args : Array Value} {below : List Frame} {meth : Method} {c : Code} {P : hw_G} {G : Nat → Nat} {A : Nat → Prop}
set_option maxRecDepth 100000 in
set_option maxHeartbeats 4000000 in
theorem t_X11_isPlain_16 {post : Int32 → cs_S → Prop} (hC : rf_C P RX11 p s m meth c cX11_isPlain 1 (some .boolean)) (hin : meth.name = yX11_isPlain.name) (hO : cs_O G A s s.heap) (S : cs_S)  (H : Heap) (locs : List Loc) (ls : Array Slot) (h : w_X11_isPlain_16 post G S ) (hT : cs_T P s A S H locs) (hl : lv_has ls 1 []) : W p l e rm_X11_isPlain s m args below meth c H locs 0 0 (MQ below (cs_Qi P A post) args s 0 0 A) (F0 m 16 ls []) := by
  obtain ⟨hx, hb, hml, hown, hK, -, -⟩ := id hC
  refine lv_iconst (v := 0) hx hb dX11_isPlain_16 (by decide) ?_
  exact t_X11_isPlain_17 hC hin hO S 0 _ _ _ h hT (lv_sub hl [] rfl)
end
def wp_X11_isPlain (post : Int32 → cs_S → Prop) (G : Nat → Nat) (S : cs_S) (p0 : Int32) : Prop := (p0 < 32 → w_X11_isPlain_16 post G S) ∧ (¬ p0 < 32 → (126 < p0 → w_X11_isPlain_16 post G S) ∧ (¬ 126 < p0 → w_X11_isPlain_17 post G S 1))
set_option maxRecDepth 100000 in
set_option maxHeartbeats 4000000 in
theorem c_X11_isPlain {l : Launch} {P : hw_G} {G : Nat → Nat} {S : cs_S} {sz : Nat} {p0 : Int32} {post : Int32 → cs_S → Prop} (h : wp_X11_isPlain post G S p0) : Met l yX11_isPlain [Cond.code yX11_isPlain cX11_isPlain 1 (some .boolean)] rm_X11_isPlain (cs_Pc P G S sz [.int p0]) (cs_Qi P (cs_A S sz) post) 0 0 (cs_A S sz) := by
  refine cs_met (by decide) rfl (Nat.le_of_ble_eq_true rfl) ?_
  intro p e s m below meth c ls hC hin hO hT hl
  obtain ⟨hx, hb, hml, hown, hK, -, -⟩ := id hC
  replace hl : lv_has ls 1 [(0, .int p0)] := hl
  refine lv_iload_n hx hb dX11_isPlain_0 rfl (lv_at hl 0 rfl) ?_
  refine lv_bipush (v := 32) hx hb dX11_isPlain_1 (by decide) ?_
  refine lv_icmp_lt (tgt := 16) hx hb dX11_isPlain_3 (by decide) (fun hc => ?_) (fun hc => ?_)
  · replace h := h.1 hc
    exact t_X11_isPlain_16 hC hin hO S _ _ _ h hT (lv_sub hl [] rfl)
  · replace h := h.2 hc
    refine lv_iload_n hx hb dX11_isPlain_6 rfl (lv_at hl 0 rfl) ?_
    refine lv_bipush (v := 126) hx hb dX11_isPlain_7 (by decide) ?_
    refine lv_icmp_gt (tgt := 16) hx hb dX11_isPlain_9 (by decide) (fun hc => ?_) (fun hc => ?_)
    · replace h := h.1 hc
      exact t_X11_isPlain_16 hC hin hO S _ _ _ h hT (lv_sub hl [] rfl)
    · replace h := h.2 hc
      refine lv_iconst (v := 1) hx hb dX11_isPlain_12 (by decide) ?_
      refine lv_goto (tgt := 17) hx hb dX11_isPlain_13 (by decide) ?_
      exact t_X11_isPlain_17 hC hin hO S 1 _ _ _ h hT (lv_sub hl [] rfl)
/-! X8_scanQuoted -/
abbrev rm_X8_scanQuoted : Room := { frames := 1, cells := 0, slots := 0, locals := 24 }
def w_X8_scanQuoted_49 (post : Int32 → cs_S → Prop) (G : Nat → Nat) (S : cs_S) (x0 : Nat) (x1 : Int32) (x2 : Int32) : Prop := cs_k S x0 = 10 ∧ wp_X8_octetAt (fun r13 S13 => (r13 = 34 → cs_k S13 x0 = 10 ∧ wp_X8_put (fun S15 => post (x2 + 1) S15) G S13 x0 4 x1 (((x2 - x1) - 1).toInt64)) ∧ (¬ r13 = 34 → post ((-1)) S13)) G S x0 x2
section
variable {p : Program} {l : Launch} {e : Env} {s : State} {m : MethodId} {args : Array Value} {below : List Frame} {meth : Method} {c : Code} {P : hw_G} {G : Nat → Nat} {A : Nat → Prop}
set_option maxRecDepth 100000 in
set_option maxHeartbeats 4000000 in
theorem t_X8_scanQuoted_49 {post : Int32 → cs_S → Prop} (hC : rf_C P RX8 p s m meth c cX8_scanQuoted 3 (some .int)) (hin : meth.name = yX8_scanQuoted.name) (hO : cs_O G A s s.heap) (S : cs_S) (x0 : Nat) (x1 : Int32) (x2 : Int32) (H : Heap) (locs : List Loc) (ls : Array Slot) (h : w_X8_scanQuoted_49 post G S x0 x1 x2) (hT : cs_T P s A S H locs) (hl : lv_has ls 3 [(0, .ref x0), (1, .int x1), (2, .int x2)]) : W p l e rm_X8_scanQuoted s m args below meth c H locs 0 0 (MQ below (cs_Qi P A post) args s 0 0 A) (F0 m 49 ls []) := by
  obtain ⟨hx, hb, hml, hown, hK, -, -⟩ := id hC
  refine lv_aload_n (x := x0) hx hb dX8_scanQuoted_49 rfl (lv_at hl 0 rfl) ?_
  refine lv_iload_n hx hb dX8_scanQuoted_50 rfl (lv_at hl 2 rfl) ?_
  obtain ⟨hk14_, h⟩ := h
  refine cs_calli0 (cs_runV hx hb hml hown hK hO hT 9 hk14_ (by decide) rfl (c_X8_octetAt h) rfl rfl klX8_68 ki_X8_octetAt ks_X8_octetAt kn_X8 kc_X8_octetAt 1 ⟨rfl, by decide, by decide, by decide +kernel⟩ ⟨by decide, by decide⟩ rfl hl.1 rfl (hw_cat8 (Nat.le_of_ble_eq_true rfl)) ⟨(Nat.le_refl _), (Nat.le_refl _)⟩ dX8_scanQuoted_51) hT (fun r13 S13 H locs h_ hT_ => ?_)
  replace h := h_
  replace hT := hT_
  refine lv_bipush (v := 34) hx hb dX8_scanQuoted_54 (by decide) ?_
  refine lv_icmp_eq (tgt := 61) hx hb dX8_scanQuoted_56 (by decide) (fun hc => ?_) (fun hc => ?_)
  · replace h := h.1 hc
    refine lv_aload_n (x := x0) hx hb dX8_scanQuoted_61 rfl (lv_at hl 0 rfl) ?_
    refine lv_iconst (v := 4) hx hb dX8_scanQuoted_62 (by decide) ?_
    refine lv_iload_n hx hb dX8_scanQuoted_63 rfl (lv_at hl 1 rfl) ?_
    refine lv_iload_n hx hb dX8_scanQuoted_64 rfl (lv_at hl 2 rfl) ?_
    refine lv_iload_n hx hb dX8_scanQuoted_65 rfl (lv_at hl 1 rfl) ?_
    refine lv_isub hx hb dX8_scanQuoted_66 ?_
    refine lv_iconst (v := 1) hx hb dX8_scanQuoted_67 (by decide) ?_
    refine lv_isub hx hb dX8_scanQuoted_68 ?_
    refine lv_i2l (v := ((x2 - x1) - 1).toInt64) hx hb dX8_scanQuoted_69 rfl ?_
    obtain ⟨hk16_, h⟩ := h
    refine cs_callv0 (cs_runV hx hb hml hown hK hO hT 9 hk16_ (by decide) rfl (c_X8_put h) rfl rfl klX8_64 ki_X8_put ks_X8_put kn_X8 kc_X8_put 3 ⟨rfl, by decide, by decide, by decide +kernel⟩ ⟨by decide, by decide⟩ rfl hl.1 rfl (hw_cat8 (Nat.le_of_ble_eq_true rfl)) ⟨(Nat.le_refl _), (Nat.le_refl _)⟩ dX8_scanQuoted_70) hT (fun S15 H locs h_ hT_ => ?_)
    replace h := h_
    replace hT := hT_
    refine lv_iload_n hx hb dX8_scanQuoted_73 rfl (lv_at hl 2 rfl) ?_
    refine lv_iconst (v := 1) hx hb dX8_scanQuoted_74 (by decide) ?_
    refine lv_iadd hx hb dX8_scanQuoted_75 ?_
    exact cs_iret hC hT h dX8_scanQuoted_76 (Nat.le_refl _) (Nat.le_refl _)
  · replace h := h.2 hc
    refine lv_iconst (v := (-1)) hx hb dX8_scanQuoted_59 (by decide) ?_
    exact cs_iret hC hT h dX8_scanQuoted_60 (Nat.le_refl _) (Nat.le_refl _)
end
def w_X8_scanQuoted_4 (post : Int32 → cs_S → Prop) (G : Nat → Nat) : Nat → cs_S → Nat → Int32 → Int32 → Prop
  | 0, _, _, _, _ => False
  | n + 1, S, x0, x1, x2 => cs_k S x0 = 10 ∧ ((cs_i S 905 x0) ≤ x2 → w_X8_scanQuoted_49 post G S x0 x1 x2) ∧ (¬ (cs_i S 905 x0) ≤ x2 → (24 < (x2 - x1) → w_X8_scanQuoted_49 post G S x0 x1 x2) ∧ (¬ 24 < (x2 - x1) → ∀ r18, r18 = cs_r S 904 x0 → ∃ b19, r18 = some b19 ∧ cs_k S b19 = 20 ∧ vp_in x2 (cs_n S b19) ∧ wp_X11_isPlain (fun r21 S21 => (r21 = 0 → w_X8_scanQuoted_49 post G S21 x0 x1 x2) ∧ (¬ r21 = 0 → cs_k S21 x0 = 10 ∧ ∀ r23, r23 = cs_r S21 904 x0 → ∃ b24, r23 = some b24 ∧ cs_k S21 b24 = 20 ∧ vp_in x2 (cs_n S21 b24) ∧ ((cs_ai S21 b24 x2.toNatClampNeg) = 34 → w_X8_scanQuoted_49 post G S21 x0 x1 x2) ∧ (¬ (cs_ai S21 b24 x2.toNatClampNeg) = 34 → w_X8_scanQuoted_4 post G n S21 x0 x1 (x2 + 1)))) G S (cs_ai S b19 x2.toNatClampNeg)))
section
variable {p : Program} {l : Launch} {e : Env} {s : State} {m : MethodId} {args : Array Value} {below : List Frame} {meth : Method} {c : Code} {P : hw_G} {G : Nat → Nat} {A : Nat → Prop}
set_option maxRecDepth 100000 in
set_option maxHeartbeats 4000000 in
theorem t_X8_scanQuoted_4 {post : Int32 → cs_S → Prop} (hC : rf_C P RX8 p s m meth c cX8_scanQuoted 3 (some .int)) (hin : meth.name = yX8_scanQuoted.name) (hO : cs_O G A s s.heap) : ∀ (n : Nat) (S : cs_S) (x0 : Nat) (x1 : Int32) (x2 : Int32) (H : Heap) (locs : List Loc) (ls : Array Slot), w_X8_scanQuoted_4 post G n S x0 x1 x2 → cs_T P s A S H locs → lv_has ls 3 [(0, .ref x0), (1, .int x1), (2, .int x2)] → W p l e rm_X8_scanQuoted s m args below meth c H locs 0 0 (MQ below (cs_Qi P A post) args s 0 0 A) (F0 m 4 ls []) := by
  obtain ⟨hx, hb, hml, hown, hK, -, -⟩ := id hC
  intro n
  induction n with
  | zero => intro S x0 x1 x2 H locs ls h; exact False.elim h
  | succ n ih =>
    intro S x0 x1 x2 H locs ls h hT hl
    refine lv_iload_n hx hb dX8_scanQuoted_4 rfl (lv_at hl 2 rfl) ?_
    refine lv_aload_n (x := x0) hx hb dX8_scanQuoted_5 rfl (lv_at hl 0 rfl) ?_
    obtain ⟨hk17_, h⟩ := h
    refine cs_get hx hb hK hT hown 9 hk17_ (by decide) rfl 5 (by decide) kfX8_53 (v := .int (cs_i S 905 x0)) rfl dX8_scanQuoted_6 ?_
    refine lv_icmp_ge (tgt := 49) hx hb dX8_scanQuoted_9 (by decide) (fun hc => ?_) (fun hc => ?_)
    · replace h := h.1 hc
      exact t_X8_scanQuoted_49 hC hin hO S x0 x1 x2 _ _ _ h hT (lv_sub hl [0, 1, 2] rfl)
    · replace h := h.2 hc
      refine lv_iload_n hx hb dX8_scanQuoted_12 rfl (lv_at hl 2 rfl) ?_
      refine lv_iload_n hx hb dX8_scanQuoted_13 rfl (lv_at hl 1 rfl) ?_
      refine lv_isub hx hb dX8_scanQuoted_14 ?_
      refine lv_bipush (v := 24) hx hb dX8_scanQuoted_15 (by decide) ?_
      refine lv_icmp_gt (tgt := 49) hx hb dX8_scanQuoted_17 (by decide) (fun hc => ?_) (fun hc => ?_)
      · replace h := h.1 hc
        exact t_X8_scanQuoted_49 hC hin hO S x0 x1 x2 _ _ _ h hT (lv_sub hl [0, 1, 2] rfl)
      · replace h := h.2 hc
        refine lv_aload_n (x := x0) hx hb dX8_scanQuoted_20 rfl (lv_at hl 0 rfl) ?_
        refine cs_get hx hb hK hT hown 9 hk17_ (by decide) rfl 4 (by decide) kfX8_28 (v := va_rf (cs_r S 904 x0)) rfl dX8_scanQuoted_21 ?_
        refine hw_topr (fun r18 er18 => ?_)
        replace h := h r18 er18
        refine lv_iload_n hx hb dX8_scanQuoted_24 rfl (lv_at hl 2 rfl) ?_
        obtain ⟨b19, rfl, h⟩ := h
        obtain ⟨hk20_, h⟩ := h
        obtain ⟨hi, h⟩ := h
        refine cs_iald hx hb hK hT hk20_ hi dX8_scanQuoted_25 ?_
        refine cs_calli0 (cs_runSN hx hb hml hown hK hO hT (c_X11_isPlain h) rfl rfl klnX8_97 ki_X11_isPlain kn_X11 kc_X11_isPlain 1 ⟨by decide, by decide, by decide +kernel⟩ ⟨by decide, by decide⟩ rfl hl.1 rfl (hw_cat8 (Nat.le_of_ble_eq_true rfl)) ⟨(Nat.le_refl _), (Nat.le_refl _)⟩ dX8_scanQuoted_26) hT (fun r21 S21 H locs h_ hT_ => ?_)
        replace h := h_
        replace hT := hT_
        refine lv_if_eq (tgt := 49) hx hb dX8_scanQuoted_29 (by decide) (fun hc => ?_) (fun hc => ?_)
        · replace h := h.1 hc
          exact t_X8_scanQuoted_49 hC hin hO S21 x0 x1 x2 _ _ _ h hT (lv_sub hl [0, 1, 2] rfl)
        · replace h := h.2 hc
          refine lv_aload_n (x := x0) hx hb dX8_scanQuoted_32 rfl (lv_at hl 0 rfl) ?_
          obtain ⟨hk22_, h⟩ := h
          refine cs_get hx hb hK hT hown 9 hk22_ (by decide) rfl 4 (by decide) kfX8_28 (v := va_rf (cs_r S21 904 x0)) rfl dX8_scanQuoted_33 ?_
          refine hw_topr (fun r23 er23 => ?_)
          replace h := h r23 er23
          refine lv_iload_n hx hb dX8_scanQuoted_36 rfl (lv_at hl 2 rfl) ?_
          obtain ⟨b24, rfl, h⟩ := h
          obtain ⟨hk25_, h⟩ := h
          obtain ⟨hi, h⟩ := h
          refine cs_iald hx hb hK hT hk25_ hi dX8_scanQuoted_37 ?_
          refine lv_bipush (v := 34) hx hb dX8_scanQuoted_38 (by decide) ?_
          refine lv_icmp_eq (tgt := 49) hx hb dX8_scanQuoted_40 (by decide) (fun hc => ?_) (fun hc => ?_)
          · replace h := h.1 hc
            exact t_X8_scanQuoted_49 hC hin hO S21 x0 x1 x2 _ _ _ h hT (lv_sub hl [0, 1, 2] rfl)
          · replace h := h.2 hc
            refine lv_iinc (v := x2 + 1) (lv' := [(2, _), (0, _), (1, _)]) hx hb dX8_scanQuoted_43 hl (k := 2) rfl rfl (by decide) rfl (fun ls hl_ => ?_)
            replace hl := hl_
            refine lv_goto (tgt := 4) hx hb dX8_scanQuoted_46 (by decide) ?_
            exact ih S21 x0 x1 (x2 + 1) _ _ _ h hT (lv_sub hl [1, 2, 0] rfl)
end
def wp_X8_scanQuoted (post : Int32 → cs_S → Prop) (G : Nat → Nat) (S : cs_S) (o : Nat) (p1 : Int32) : Prop := ∃ n9, w_X8_scanQuoted_4 post G n9 S o p1 (p1 + 1)
set_option maxRecDepth 100000 in
set_option maxHeartbeats 4000000 in
theorem c_X8_scanQuoted {l : Launch} {P : hw_G} {G : Nat → Nat} {S : cs_S} {sz : Nat} {o : Nat} {p1 : Int32} {post : Int32 → cs_S → Prop} (h : wp_X8_scanQuoted post G S o p1) : Met l yX8_scanQuoted [Cond.code yX8_scanQuoted cX8_scanQuoted 3 (some .int)] rm_X8_scanQuoted (cs_Pc P G S sz [.ref o, .int p1]) (cs_Qi P (cs_A S sz) post) 0 0 (cs_A S sz) := by
  refine cs_met (by decide) rfl (Nat.le_of_ble_eq_true rfl) ?_
  intro p e s m below meth c ls hC hin hO hT hl
  obtain ⟨hx, hb, hml, hown, hK, -, -⟩ := id hC
  replace hl : lv_has ls 3 [(0, .ref o), (1, .int p1)] := hl
  refine lv_iload_n hx hb dX8_scanQuoted_0 rfl (lv_at hl 1 rfl) ?_
  refine lv_iconst (v := 1) hx hb dX8_scanQuoted_1 (by decide) ?_
  refine lv_iadd hx hb dX8_scanQuoted_2 ?_
  refine lv_istore_n (lv' := [(2, _), (0, _), (1, _)]) hx hb dX8_scanQuoted_3 rfl hl (by decide) rfl (fun ls hl_ => ?_)
  replace hl := hl_
  obtain ⟨n9, h⟩ := h
  exact t_X8_scanQuoted_4 hC hin hO n9 S o p1 (p1 + 1) _ _ _ h hT (lv_sub hl [1, 2, 0] rfl)
/-! X8_scanNumber -/
abbrev rm_X8_scanNumber : Room := { frames := 1, cells := 0, slots := 0, locals := 24 }
def w_X8_scanNumber_122 (post : Int32 → cs_S → Prop) (G : Nat → Nat) (S : cs_S)  : Prop := post ((-1)) S
section
variable {p : Program} {l : Launch} {e : Env} {s : State} {m : MethodId} {args : Array Value} {below : List Frame} {meth : Method} {c : Code} {P : hw_G} {G : Nat → Nat} {A : Nat → Prop}
set_option maxRecDepth 100000 in
set_option maxHeartbeats 4000000 in
theorem t_X8_scanNumber_122 {post : Int32 → cs_S → Prop} (hC : rf_C P RX8 p s m meth c cX8_scanNumber 7 (some .int)) (hin : meth.name = yX8_scanNumber.name) (hO : cs_O G A s s.heap) (S : cs_S)  (H : Heap) (locs : List Loc) (ls : Array Slot) (h : w_X8_scanNumber_122 post G S ) (hT : cs_T P s A S H locs) (hl : lv_has ls 7 []) : W p l e rm_X8_scanNumber s m args below meth c H locs 0 0 (MQ below (cs_Qi P A post) args s 0 0 A) (F0 m 122 ls []) := by
  obtain ⟨hx, hb, hml, hown, hK, -, -⟩ := id hC
  refine lv_iconst (v := (-1)) hx hb dX8_scanNumber_122 (by decide) ?_
  exact cs_iret hC hT h dX8_scanNumber_123 (Nat.le_refl _) (Nat.le_refl _)
end
def w_X8_scanNumber_102 (post : Int32 → cs_S → Prop) (G : Nat → Nat) (S : cs_S) (x0 : Nat) (x1 : Int32) (x2 : Int32) (x3 : Int32) (x4 : Int64) (x6 : Int32) : Prop := (x6 = 0 → w_X8_scanNumber_122 post G S) ∧ (¬ x6 = 0 → (x3 = x2 → w_X8_scanNumber_122 post G S) ∧ (¬ x3 = x2 → ((lg_cmp x4 x4.toInt32.toInt64) = 0 → cs_k S x0 = 10 ∧ wp_X8_put (fun S21 => post x3 S21) G S x0 3 x1 x4) ∧ (¬ (lg_cmp x4 x4.toInt32.toInt64) = 0 → w_X8_scanNumber_122 post G S)))
section
variable {p : Program} {l : Launch} {e : Env} {s : State} {m : MethodId} {args : Array Value} {below : List Frame} {meth : Method} {c : Code} {P : hw_G} {G : Nat → Nat} {A : Nat → Prop}
set_option maxRecDepth 100000 in
set_option maxHeartbeats 4000000 in
theorem t_X8_scanNumber_102 {post : Int32 → cs_S → Prop} (hC : rf_C P RX8 p s m meth c cX8_scanNumber 7 (some .int)) (hin : meth.name = yX8_scanNumber.name) (hO : cs_O G A s s.heap) (S : cs_S) (x0 : Nat) (x1 : Int32) (x2 : Int32) (x3 : Int32) (x4 : Int64) (x6 : Int32) (H : Heap) (locs : List Loc) (ls : Array Slot) (h : w_X8_scanNumber_102 post G S x0 x1 x2 x3 x4 x6) (hT : cs_T P s A S H locs) (hl : lv_has ls 7 [(0, .ref x0), (1, .int x1), (2, .int x2), (3, .int x3), (4, .long x4), (6, .int x6)]) : W p l e rm_X8_scanNumber s m args below meth c H locs 0 0 (MQ below (cs_Qi P A post) args s 0 0 A) (F0 m 102 ls []) := by
  obtain ⟨hx, hb, hml, hown, hK, -, -⟩ := id hC
  refine lv_iload hx hb dX8_scanNumber_102 (lv_at hl 5 rfl) ?_
  refine lv_if_eq (tgt := 122) hx hb dX8_scanNumber_104 (by decide) (fun hc => ?_) (fun hc => ?_)
  · replace h := h.1 hc
    exact t_X8_scanNumber_122 hC hin hO S _ _ _ h hT (lv_sub hl [] rfl)
  · replace h := h.2 hc
    refine lv_iload_n hx hb dX8_scanNumber_107 rfl (lv_at hl 3 rfl) ?_
    refine lv_iload_n hx hb dX8_scanNumber_108 rfl (lv_at hl 2 rfl) ?_
    refine lv_icmp_eq (tgt := 122) hx hb dX8_scanNumber_109 (by decide) (fun hc => ?_) (fun hc => ?_)
    · replace h := h.1 hc
      exact t_X8_scanNumber_122 hC hin hO S _ _ _ h hT (lv_sub hl [] rfl)
    · replace h := h.2 hc
      refine lv_lload hx hb dX8_scanNumber_112 (lv_at hl 4 rfl) ?_
      refine lv_lload hx hb dX8_scanNumber_114 (lv_at hl 4 rfl) ?_
      refine lv_l2i (v := x4.toInt32) hx hb dX8_scanNumber_116 rfl ?_
      refine lv_i2l (v := x4.toInt32.toInt64) hx hb dX8_scanNumber_117 rfl ?_
      refine W.lcmp hx hb dX8_scanNumber_118 ?_
      refine lv_if_eq (tgt := 124) hx hb dX8_scanNumber_119 (by decide) (fun hc => ?_) (fun hc => ?_)
      · replace h := h.1 hc
        refine lv_aload_n (x := x0) hx hb dX8_scanNumber_124 rfl (lv_at hl 0 rfl) ?_
        refine lv_iconst (v := 3) hx hb dX8_scanNumber_125 (by decide) ?_
        refine lv_iload_n hx hb dX8_scanNumber_126 rfl (lv_at hl 1 rfl) ?_
        refine lv_lload hx hb dX8_scanNumber_127 (lv_at hl 4 rfl) ?_
        obtain ⟨hk22_, h⟩ := h
        refine cs_callv0 (cs_runV hx hb hml hown hK hO hT 9 hk22_ (by decide) rfl (c_X8_put h) rfl rfl klX8_64 ki_X8_put ks_X8_put kn_X8 kc_X8_put 3 ⟨rfl, by decide, by decide, by decide +kernel⟩ ⟨by decide, by decide⟩ rfl hl.1 rfl (hw_cat8 (Nat.le_of_ble_eq_true rfl)) ⟨(Nat.le_refl _), (Nat.le_refl _)⟩ dX8_scanNumber_129) hT (fun S21 H locs h_ hT_ => ?_)
        replace h := h_
        replace hT := hT_
        refine lv_iload_n hx hb dX8_scanNumber_132 rfl (lv_at hl 3 rfl) ?_
        exact cs_iret hC hT h dX8_scanNumber_133 (Nat.le_refl _) (Nat.le_refl _)
      · replace h := h.2 hc
        exact t_X8_scanNumber_122 hC hin hO S _ _ _ h hT (lv_sub hl [] rfl)
end
def w_X8_scanNumber_92 (post : Int32 → cs_S → Prop) (G : Nat → Nat) (S : cs_S) (x0 : Nat) (x1 : Int32) (x2 : Int32) (x3 : Int32) (x4 : Int64) (x6 : Int32) : Prop := (x2 ≤ x1 → w_X8_scanNumber_102 post G S x0 x1 x2 x3 x4 x6) ∧ (¬ x2 ≤ x1 → w_X8_scanNumber_102 post G S x0 x1 x2 x3 (-x4) x6)
section
variable {p : Program} {l : Launch} {e : Env} {s : State} {m : MethodId} {args : Array Value} {below : List Frame} {meth : Method} {c : Code} {P : hw_G} {G : Nat → Nat} {A : Nat → Prop}
set_option maxRecDepth 100000 in
set_option maxHeartbeats 4000000 in
theorem t_X8_scanNumber_92 {post : Int32 → cs_S → Prop} (hC : rf_C P RX8 p s m meth c cX8_scanNumber 7 (some .int)) (hin : meth.name = yX8_scanNumber.name) (hO : cs_O G A s s.heap) (S : cs_S) (x0 : Nat) (x1 : Int32) (x2 : Int32) (x3 : Int32) (x4 : Int64) (x6 : Int32) (H : Heap) (locs : List Loc) (ls : Array Slot) (h : w_X8_scanNumber_92 post G S x0 x1 x2 x3 x4 x6) (hT : cs_T P s A S H locs) (hl : lv_has ls 7 [(0, .ref x0), (1, .int x1), (2, .int x2), (3, .int x3), (4, .long x4), (6, .int x6)]) : W p l e rm_X8_scanNumber s m args below meth c H locs 0 0 (MQ below (cs_Qi P A post) args s 0 0 A) (F0 m 92 ls []) := by
  obtain ⟨hx, hb, hml, hown, hK, -, -⟩ := id hC
  refine lv_iload_n hx hb dX8_scanNumber_92 rfl (lv_at hl 1 rfl) ?_
  refine lv_iload_n hx hb dX8_scanNumber_93 rfl (lv_at hl 2 rfl) ?_
  refine lv_icmp_ge (tgt := 102) hx hb dX8_scanNumber_94 (by decide) (fun hc => ?_) (fun hc => ?_)
  · replace h := h.1 hc
    exact t_X8_scanNumber_102 hC hin hO S x0 x1 x2 x3 x4 x6 _ _ _ h hT (lv_sub hl [0, 1, 2, 3, 4, 5] rfl)
  · replace h := h.2 hc
    refine lv_lload hx hb dX8_scanNumber_97 (lv_at hl 4 rfl) ?_
    refine lv_lneg hx hb dX8_scanNumber_99 ?_
    refine lv_lstore (lv' := [(4, _), (0, _), (1, _), (2, _), (3, _), (6, _)]) hx hb dX8_scanNumber_100 hl (by decide) rfl (fun ls hl_ => ?_)
    replace hl := hl_
    exact t_X8_scanNumber_102 hC hin hO S x0 x1 x2 x3 (-x4) x6 _ _ _ h hT (lv_sub hl [1, 2, 3, 4, 0, 5] rfl)
end
def w_X8_scanNumber_86 (post : Int32 → cs_S → Prop) (G : Nat → Nat) (k8 : cs_S → Nat → Int32 → Int32 → Int32 → Int64 → Int32 → Prop) (S : cs_S) (x0 : Nat) (x1 : Int32) (x2 : Int32) (x3 : Int32) (x4 : Int64) (x6 : Int32) : Prop := k8 S x0 x1 x2 (x3 + 1) x4 x6
section
variable {p : Program} {l : Launch} {e : Env} {s : State} {m : MethodId} {args : Array Value} {below : List Frame} {meth : Method} {c : Code} {P : hw_G} {G : Nat → Nat} {A : Nat → Prop}
set_option maxRecDepth 100000 in
set_option maxHeartbeats 4000000 in
theorem t_X8_scanNumber_86 {post : Int32 → cs_S → Prop} {k8 : cs_S → Nat → Int32 → Int32 → Int32 → Int64 → Int32 → Prop} (hC : rf_C P RX8 p s m meth c cX8_scanNumber 7 (some .int)) (hin : meth.name = yX8_scanNumber.name) (hO : cs_O G A s s.heap) (hk8 : ∀ (S : cs_S) (x0 : Nat) (x1 : Int32) (x2 : Int32) (x3 : Int32) (x4 : Int64) (x6 : Int32) (H : Heap) (locs : List Loc) (ls : Array Slot), k8 S x0 x1 x2 x3 x4 x6 → cs_T P s A S H locs → lv_has ls 7 [(0, .ref x0), (1, .int x1), (2, .int x2), (3, .int x3), (4, .long x4), (6, .int x6)] → W p l e rm_X8_scanNumber s m args below meth c H locs 0 0 (MQ below (cs_Qi P A post) args s 0 0 A) (F0 m 8 ls [])) (S : cs_S) (x0 : Nat) (x1 : Int32) (x2 : Int32) (x3 : Int32) (x4 : Int64) (x6 : Int32) (H : Heap) (locs : List Loc) (ls : Array Slot) (h : w_X8_scanNumber_86 post G k8 S x0 x1 x2 x3 x4 x6) (hT : cs_T P s A S H locs) (hl : lv_has ls 7 [(0, .ref x0), (1, .int x1), (2, .int x2), (3, .int x3), (4, .long x4), (6, .int x6)]) : W p l e rm_X8_scanNumber s m args below meth c H locs 0 0 (MQ below (cs_Qi P A post) args s 0 0 A) (F0 m 86 ls []) := by
  obtain ⟨hx, hb, hml, hown, hK, -, -⟩ := id hC
  refine lv_iinc (v := x3 + 1) (lv' := [(3, _), (0, _), (1, _), (2, _), (4, _), (6, _)]) hx hb dX8_scanNumber_86 hl (k := 3) rfl rfl (by decide) rfl (fun ls hl_ => ?_)
  replace hl := hl_
  refine lv_goto (tgt := 8) hx hb dX8_scanNumber_89 (by decide) ?_
  exact hk8 S x0 x1 x2 (x3 + 1) x4 x6 _ _ _ h hT (lv_sub hl [1, 2, 3, 0, 4, 5] rfl)
end
def w_X8_scanNumber_83 (post : Int32 → cs_S → Prop) (G : Nat → Nat) (k8 : cs_S → Nat → Int32 → Int32 → Int32 → Int64 → Int32 → Prop) (S : cs_S) (x0 : Nat) (x1 : Int32) (x2 : Int32) (x3 : Int32) (x4 : Int64) : Prop := w_X8_scanNumber_86 post G k8 S x0 x1 x2 x3 x4 0
section
variable {p : Program} {l : Launch} {e : Env} {s : State} {m : MethodId} {args : Array Value} {below : List Frame} {meth : Method} {c : Code} {P : hw_G} {G : Nat → Nat} {A : Nat → Prop}
set_option maxRecDepth 100000 in
set_option maxHeartbeats 4000000 in
theorem t_X8_scanNumber_83 {post : Int32 → cs_S → Prop} {k8 : cs_S → Nat → Int32 → Int32 → Int32 → Int64 → Int32 → Prop} (hC : rf_C P RX8 p s m meth c cX8_scanNumber 7 (some .int)) (hin : meth.name = yX8_scanNumber.name) (hO : cs_O G A s s.heap) (hk8 : ∀ (S : cs_S) (x0 : Nat) (x1 : Int32) (x2 : Int32) (x3 : Int32) (x4 : Int64) (x6 : Int32) (H : Heap) (locs : List Loc) (ls : Array Slot), k8 S x0 x1 x2 x3 x4 x6 → cs_T P s A S H locs → lv_has ls 7 [(0, .ref x0), (1, .int x1), (2, .int x2), (3, .int x3), (4, .long x4), (6, .int x6)] → W p l e rm_X8_scanNumber s m args below meth c H locs 0 0 (MQ below (cs_Qi P A post) args s 0 0 A) (F0 m 8 ls [])) (S : cs_S) (x0 : Nat) (x1 : Int32) (x2 : Int32) (x3 : Int32) (x4 : Int64) (H : Heap) (locs : List Loc) (ls : Array Slot) (h : w_X8_scanNumber_83 post G k8 S x0 x1 x2 x3 x4) (hT : cs_T P s A S H locs) (hl : lv_has ls 7 [(0, .ref x0), (1, .int x1), (2, .int x2), (3, .int x3), (4, .long x4)]) : W p l e rm_X8_scanNumber s m args below meth c H locs 0 0 (MQ below (cs_Qi P A post) args s 0 0 A) (F0 m 83 ls []) := by
  obtain ⟨hx, hb, hml, hown, hK, -, -⟩ := id hC
  refine lv_iconst (v := 0) hx hb dX8_scanNumber_83 (by decide) ?_
  refine lv_istore (lv' := [(6, _), (0, _), (1, _), (2, _), (3, _), (4, _)]) hx hb dX8_scanNumber_84 hl (by decide) rfl (fun ls hl_ => ?_)
  replace hl := hl_
  exact t_X8_scanNumber_86 hC hin hO hk8 S x0 x1 x2 x3 x4 0 _ _ _ h hT (lv_sub hl [1, 2, 3, 4, 5, 0] rfl)
end
def w_X8_scanNumber_40 (post : Int32 → cs_S → Prop) (G : Nat → Nat) (k8 : cs_S → Nat → Int32 → Int32 → Int32 → Int64 → Int32 → Prop) (S : cs_S) (x0 : Nat) (x1 : Int32) (x2 : Int32) (x3 : Int32) (x4 : Int64) (x6 : Int32) : Prop := cs_k S x0 = 10 ∧ ∀ r24, r24 = cs_r S 904 x0 → ∃ b25, r24 = some b25 ∧ cs_k S b25 = 20 ∧ vp_in x3 (cs_n S b25) ∧ wp_X11_isDigit (fun r27 S27 => (r27 = 0 → w_X8_scanNumber_83 post G k8 S27 x0 x1 x2 x3 x4) ∧ (¬ r27 = 0 → (10 ≤ (x3 - x2) → w_X8_scanNumber_83 post G k8 S27 x0 x1 x2 x3 x4) ∧ (¬ 10 ≤ (x3 - x2) → cs_k S27 x0 = 10 ∧ ∀ r29, r29 = cs_r S27 904 x0 → ∃ b30, r29 = some b30 ∧ cs_k S27 b30 = 20 ∧ vp_in x3 (cs_n S27 b30) ∧ w_X8_scanNumber_86 post G k8 S27 x0 x1 x2 x3 (((10 * x4) + ((cs_ai S27 b30 x3.toNatClampNeg).toInt64)) - 48) x6))) G S (cs_ai S b25 x3.toNatClampNeg)
section
variable {p : Program} {l : Launch} {e : Env} {s : State} {m : MethodId} {args : Array Value} {below : List Frame} {meth : Method} {c : Code} {P : hw_G} {G : Nat → Nat} {A : Nat → Prop}
set_option maxRecDepth 100000 in
set_option maxHeartbeats 4000000 in
theorem t_X8_scanNumber_40 {post : Int32 → cs_S → Prop} {k8 : cs_S → Nat → Int32 → Int32 → Int32 → Int64 → Int32 → Prop} (hC : rf_C P RX8 p s m meth c cX8_scanNumber 7 (some .int)) (hin : meth.name = yX8_scanNumber.name) (hO : cs_O G A s s.heap) (hk8 : ∀ (S : cs_S) (x0 : Nat) (x1 : Int32) (x2 : Int32) (x3 : Int32) (x4 : Int64) (x6 : Int32) (H : Heap) (locs : List Loc) (ls : Array Slot), k8 S x0 x1 x2 x3 x4 x6 → cs_T P s A S H locs → lv_has ls 7 [(0, .ref x0), (1, .int x1), (2, .int x2), (3, .int x3), (4, .long x4), (6, .int x6)] → W p l e rm_X8_scanNumber s m args below meth c H locs 0 0 (MQ below (cs_Qi P A post) args s 0 0 A) (F0 m 8 ls [])) (S : cs_S) (x0 : Nat) (x1 : Int32) (x2 : Int32) (x3 : Int32) (x4 : Int64) (x6 : Int32) (H : Heap) (locs : List Loc) (ls : Array Slot) (h : w_X8_scanNumber_40 post G k8 S x0 x1 x2 x3 x4 x6) (hT : cs_T P s A S H locs) (hl : lv_has ls 7 [(0, .ref x0), (1, .int x1), (2, .int x2), (3, .int x3), (4, .long x4), (6, .int x6)]) : W p l e rm_X8_scanNumber s m args below meth c H locs 0 0 (MQ below (cs_Qi P A post) args s 0 0 A) (F0 m 40 ls []) := by
  obtain ⟨hx, hb, hml, hown, hK, -, -⟩ := id hC
  refine lv_aload_n (x := x0) hx hb dX8_scanNumber_40 rfl (lv_at hl 0 rfl) ?_
  obtain ⟨hk23_, h⟩ := h
  refine cs_get hx hb hK hT hown 9 hk23_ (by decide) rfl 4 (by decide) kfX8_28 (v := va_rf (cs_r S 904 x0)) rfl dX8_scanNumber_41 ?_
  refine hw_topr (fun r24 er24 => ?_)
  replace h := h r24 er24
  refine lv_iload_n hx hb dX8_scanNumber_44 rfl (lv_at hl 3 rfl) ?_
  obtain ⟨b25, rfl, h⟩ := h
  obtain ⟨hk26_, h⟩ := h
  obtain ⟨hi, h⟩ := h
  refine cs_iald hx hb hK hT hk26_ hi dX8_scanNumber_45 ?_
  refine cs_calli0 (cs_runSN hx hb hml hown hK hO hT (c_X11_isDigit h) rfl rfl klnX8_84 ki_X11_isDigit kn_X11 kc_X11_isDigit 1 ⟨by decide, by decide, by decide +kernel⟩ ⟨by decide, by decide⟩ rfl hl.1 rfl (hw_cat8 (Nat.le_of_ble_eq_true rfl)) ⟨(Nat.le_refl _), (Nat.le_refl _)⟩ dX8_scanNumber_46) hT (fun r27 S27 H locs h_ hT_ => ?_)
  replace h := h_
  replace hT := hT_
  refine lv_if_eq (tgt := 83) hx hb dX8_scanNumber_49 (by decide) (fun hc => ?_) (fun hc => ?_)
  · replace h := h.1 hc
    exact t_X8_scanNumber_83 hC hin hO hk8 S27 x0 x1 x2 x3 x4 _ _ _ h hT (lv_sub hl [0, 1, 2, 3, 4] rfl)
  · replace h := h.2 hc
    refine lv_iload_n hx hb dX8_scanNumber_52 rfl (lv_at hl 3 rfl) ?_
    refine lv_iload_n hx hb dX8_scanNumber_53 rfl (lv_at hl 2 rfl) ?_
    refine lv_isub hx hb dX8_scanNumber_54 ?_
    refine lv_bipush (v := 10) hx hb dX8_scanNumber_55 (by decide) ?_
    refine lv_icmp_ge (tgt := 83) hx hb dX8_scanNumber_57 (by decide) (fun hc => ?_) (fun hc => ?_)
    · replace h := h.1 hc
      exact t_X8_scanNumber_83 hC hin hO hk8 S27 x0 x1 x2 x3 x4 _ _ _ h hT (lv_sub hl [0, 1, 2, 3, 4] rfl)
    · replace h := h.2 hc
      refine lv_ldc2 (v := 10) hx hb hown (hK.word kkX8_93 rfl) dX8_scanNumber_60 ?_
      refine lv_lload hx hb dX8_scanNumber_63 (lv_at hl 4 rfl) ?_
      refine lv_lmul hx hb dX8_scanNumber_65 ?_
      refine lv_aload_n (x := x0) hx hb dX8_scanNumber_66 rfl (lv_at hl 0 rfl) ?_
      obtain ⟨hk28_, h⟩ := h
      refine cs_get hx hb hK hT hown 9 hk28_ (by decide) rfl 4 (by decide) kfX8_28 (v := va_rf (cs_r S27 904 x0)) rfl dX8_scanNumber_67 ?_
      refine hw_topr (fun r29 er29 => ?_)
      replace h := h r29 er29
      refine lv_iload_n hx hb dX8_scanNumber_70 rfl (lv_at hl 3 rfl) ?_
      obtain ⟨b30, rfl, h⟩ := h
      obtain ⟨hk31_, h⟩ := h
      obtain ⟨hi, h⟩ := h
      refine cs_iald hx hb hK hT hk31_ hi dX8_scanNumber_71 ?_
      refine lv_i2l (v := (cs_ai S27 b30 x3.toNatClampNeg).toInt64) hx hb dX8_scanNumber_72 rfl ?_
      refine lv_ladd hx hb dX8_scanNumber_73 ?_
      refine lv_ldc2 (v := 48) hx hb hown (hK.word kkX8_95 rfl) dX8_scanNumber_74 ?_
      refine lv_lsub hx hb dX8_scanNumber_77 ?_
      refine lv_lstore (lv' := [(4, _), (0, _), (1, _), (2, _), (3, _), (6, _)]) hx hb dX8_scanNumber_78 hl (by decide) rfl (fun ls hl_ => ?_)
      replace hl := hl_
      refine lv_goto (tgt := 86) hx hb dX8_scanNumber_80 (by decide) ?_
      exact t_X8_scanNumber_86 hC hin hO hk8 S27 x0 x1 x2 x3 (((10 * x4) + ((cs_ai S27 b30 x3.toNatClampNeg).toInt64)) - 48) x6 _ _ _ h hT (lv_sub hl [1, 2, 3, 4, 0, 5] rfl)
end
def w_X8_scanNumber_8 (post : Int32 → cs_S → Prop) (G : Nat → Nat) : Nat → cs_S → Nat → Int32 → Int32 → Int32 → Int64 → Int32 → Prop
  | 0, _, _, _, _, _, _, _ => False
  | n + 1, S, x0, x1, x2, x3, x4, x6 => cs_k S x0 = 10 ∧ ((cs_i S 905 x0) ≤ x3 → w_X8_scanNumber_92 post G S x0 x1 x2 x3 x4 x6) ∧ (¬ (cs_i S 905 x0) ≤ x3 → ∀ r33, r33 = cs_r S 904 x0 → ∃ b34, r33 = some b34 ∧ cs_k S b34 = 20 ∧ vp_in x3 (cs_n S b34) ∧ wp_X11_isLetter (fun r36 S36 => (¬ r36 = 0 → w_X8_scanNumber_40 post G (w_X8_scanNumber_8 post G n) S36 x0 x1 x2 x3 x4 x6) ∧ (r36 = 0 → cs_k S36 x0 = 10 ∧ ∀ r38, r38 = cs_r S36 904 x0 → ∃ b39, r38 = some b39 ∧ cs_k S36 b39 = 20 ∧ vp_in x3 (cs_n S36 b39) ∧ wp_X11_isDigit (fun r41 S41 => (r41 = 0 → w_X8_scanNumber_92 post G S41 x0 x1 x2 x3 x4 x6) ∧ (¬ r41 = 0 → w_X8_scanNumber_40 post G (w_X8_scanNumber_8 post G n) S41 x0 x1 x2 x3 x4 x6)) G S36 (cs_ai S36 b39 x3.toNatClampNeg))) G S (cs_ai S b34 x3.toNatClampNeg))
section
variable {p : Program} {l : Launch} {e : Env} {s : State} {m : MethodId} {args : Array Value} {below : List Frame} {meth : Method} {c : Code} {P : hw_G} {G : Nat → Nat} {A : Nat → Prop}
set_option maxRecDepth 100000 in
set_option maxHeartbeats 4000000 in
theorem t_X8_scanNumber_8 {post : Int32 → cs_S → Prop} (hC : rf_C P RX8 p s m meth c cX8_scanNumber 7 (some .int)) (hin : meth.name = yX8_scanNumber.name) (hO : cs_O G A s s.heap) : ∀ (n : Nat) (S : cs_S) (x0 : Nat) (x1 : Int32) (x2 : Int32) (x3 : Int32) (x4 : Int64) (x6 : Int32) (H : Heap) (locs : List Loc) (ls : Array Slot), w_X8_scanNumber_8 post G n S x0 x1 x2 x3 x4 x6 → cs_T P s A S H locs → lv_has ls 7 [(0, .ref x0), (1, .int x1), (2, .int x2), (3, .int x3), (4, .long x4), (6, .int x6)] → W p l e rm_X8_scanNumber s m args below meth c H locs 0 0 (MQ below (cs_Qi P A post) args s 0 0 A) (F0 m 8 ls []) := by
  obtain ⟨hx, hb, hml, hown, hK, -, -⟩ := id hC
  intro n
  induction n with
  | zero => intro S x0 x1 x2 x3 x4 x6 H locs ls h; exact False.elim h
  | succ n ih =>
    intro S x0 x1 x2 x3 x4 x6 H locs ls h hT hl
    refine lv_iload_n hx hb dX8_scanNumber_8 rfl (lv_at hl 3 rfl) ?_
    refine lv_aload_n (x := x0) hx hb dX8_scanNumber_9 rfl (lv_at hl 0 rfl) ?_
    obtain ⟨hk32_, h⟩ := h
    refine cs_get hx hb hK hT hown 9 hk32_ (by decide) rfl 5 (by decide) kfX8_53 (v := .int (cs_i S 905 x0)) rfl dX8_scanNumber_10 ?_
    refine lv_icmp_ge (tgt := 92) hx hb dX8_scanNumber_13 (by decide) (fun hc => ?_) (fun hc => ?_)
    · replace h := h.1 hc
      exact t_X8_scanNumber_92 hC hin hO S x0 x1 x2 x3 x4 x6 _ _ _ h hT (lv_sub hl [0, 1, 2, 3, 4, 5] rfl)
    · replace h := h.2 hc
      refine lv_aload_n (x := x0) hx hb dX8_scanNumber_16 rfl (lv_at hl 0 rfl) ?_
      refine cs_get hx hb hK hT hown 9 hk32_ (by decide) rfl 4 (by decide) kfX8_28 (v := va_rf (cs_r S 904 x0)) rfl dX8_scanNumber_17 ?_
      refine hw_topr (fun r33 er33 => ?_)
      replace h := h r33 er33
      refine lv_iload_n hx hb dX8_scanNumber_20 rfl (lv_at hl 3 rfl) ?_
      obtain ⟨b34, rfl, h⟩ := h
      obtain ⟨hk35_, h⟩ := h
      obtain ⟨hi, h⟩ := h
      refine cs_iald hx hb hK hT hk35_ hi dX8_scanNumber_21 ?_
      refine cs_calli0 (cs_runSN hx hb hml hown hK hO hT (c_X11_isLetter h) rfl rfl klnX8_71 ki_X11_isLetter kn_X11 kc_X11_isLetter 1 ⟨by decide, by decide, by decide +kernel⟩ ⟨by decide, by decide⟩ rfl hl.1 rfl (hw_cat8 (Nat.le_of_ble_eq_true rfl)) ⟨(Nat.le_refl _), (Nat.le_refl _)⟩ dX8_scanNumber_22) hT (fun r36 S36 H locs h_ hT_ => ?_)
      replace h := h_
      replace hT := hT_
      refine lv_if_ne (tgt := 40) hx hb dX8_scanNumber_25 (by decide) (fun hc => ?_) (fun hc => ?_)
      · replace h := h.1 hc
        exact t_X8_scanNumber_40 hC hin hO ih S36 x0 x1 x2 x3 x4 x6 _ _ _ h hT (lv_sub hl [0, 1, 2, 3, 4, 5] rfl)
      · replace h := h.2 hc
        refine lv_aload_n (x := x0) hx hb dX8_scanNumber_28 rfl (lv_at hl 0 rfl) ?_
        obtain ⟨hk37_, h⟩ := h
        refine cs_get hx hb hK hT hown 9 hk37_ (by decide) rfl 4 (by decide) kfX8_28 (v := va_rf (cs_r S36 904 x0)) rfl dX8_scanNumber_29 ?_
        refine hw_topr (fun r38 er38 => ?_)
        replace h := h r38 er38
        refine lv_iload_n hx hb dX8_scanNumber_32 rfl (lv_at hl 3 rfl) ?_
        obtain ⟨b39, rfl, h⟩ := h
        obtain ⟨hk40_, h⟩ := h
        obtain ⟨hi, h⟩ := h
        refine cs_iald hx hb hK hT hk40_ hi dX8_scanNumber_33 ?_
        refine cs_calli0 (cs_runSN hx hb hml hown hK hO hT (c_X11_isDigit h) rfl rfl klnX8_84 ki_X11_isDigit kn_X11 kc_X11_isDigit 1 ⟨by decide, by decide, by decide +kernel⟩ ⟨by decide, by decide⟩ rfl hl.1 rfl (hw_cat8 (Nat.le_of_ble_eq_true rfl)) ⟨(Nat.le_refl _), (Nat.le_refl _)⟩ dX8_scanNumber_34) hT (fun r41 S41 H locs h_ hT_ => ?_)
        replace h := h_
        replace hT := hT_
        refine lv_if_eq (tgt := 92) hx hb dX8_scanNumber_37 (by decide) (fun hc => ?_) (fun hc => ?_)
        · replace h := h.1 hc
          exact t_X8_scanNumber_92 hC hin hO S41 x0 x1 x2 x3 x4 x6 _ _ _ h hT (lv_sub hl [0, 1, 2, 3, 4, 5] rfl)
        · replace h := h.2 hc
          exact t_X8_scanNumber_40 hC hin hO ih S41 x0 x1 x2 x3 x4 x6 _ _ _ h hT (lv_sub hl [0, 1, 2, 3, 4, 5] rfl)
end
def wp_X8_scanNumber (post : Int32 → cs_S → Prop) (G : Nat → Nat) (S : cs_S) (o : Nat) (p1 : Int32) (p2 : Int32) : Prop := ∃ n9, w_X8_scanNumber_8 post G n9 S o p1 p2 p2 0 1
set_option maxRecDepth 100000 in
set_option maxHeartbeats 4000000 in
theorem c_X8_scanNumber {l : Launch} {P : hw_G} {G : Nat → Nat} {S : cs_S} {sz : Nat} {o : Nat} {p1 : Int32} {p2 : Int32} {post : Int32 → cs_S → Prop} (h : wp_X8_scanNumber post G S o p1 p2) : Met l yX8_scanNumber [Cond.code yX8_scanNumber cX8_scanNumber 7 (some .int)] rm_X8_scanNumber (cs_Pc P G S sz [.ref o, .int p1, .int p2]) (cs_Qi P (cs_A S sz) post) 0 0 (cs_A S sz) := by
  refine cs_met (by decide) rfl (Nat.le_of_ble_eq_true rfl) ?_
  intro p e s m below meth c ls hC hin hO hT hl
  obtain ⟨hx, hb, hml, hown, hK, -, -⟩ := id hC
  replace hl : lv_has ls 7 [(0, .ref o), (1, .int p1), (2, .int p2)] := hl
  refine lv_iload_n hx hb dX8_scanNumber_0 rfl (lv_at hl 2 rfl) ?_
  refine lv_istore_n (lv' := [(3, _), (0, _), (1, _), (2, _)]) hx hb dX8_scanNumber_1 rfl hl (by decide) rfl (fun ls hl_ => ?_)
  replace hl := hl_
  refine lv_lconst (v := 0) hx hb dX8_scanNumber_2 (by decide) ?_
  refine lv_lstore (lv' := [(4, _), (3, _), (0, _), (1, _), (2, _)]) hx hb dX8_scanNumber_3 hl (by decide) rfl (fun ls hl_ => ?_)
  replace hl := hl_
  refine lv_iconst (v := 1) hx hb dX8_scanNumber_5 (by decide) ?_
  refine lv_istore (lv' := [(6, _), (4, _), (3, _), (0, _), (1, _), (2, _)]) hx hb dX8_scanNumber_6 hl (by decide) rfl (fun ls hl_ => ?_)
  replace hl := hl_
  obtain ⟨n9, h⟩ := h
  exact t_X8_scanNumber_8 hC hin hO n9 S o p1 p2 p2 0 1 _ _ _ h hT (lv_sub hl [3, 4, 5, 2, 1, 0] rfl)
/-! X8_scanAddress -/
abbrev rm_X8_scanAddress : Room := { frames := 1, cells := 0, slots := 0, locals := 24 }
def w_X8_scanAddress_212 (post : Int32 → cs_S → Prop) (G : Nat → Nat) (S : cs_S)  : Prop := post ((-1)) S
section
variable {p : Program} {l : Launch} {e : Env} {s : State} {m : MethodId} {args : Array Value} {below : List Frame} {meth : Method} {c : Code} {P : hw_G} {G : Nat → Nat} {A : Nat → Prop}
set_option maxRecDepth 100000 in
set_option maxHeartbeats 4000000 in
theorem t_X8_scanAddress_212 {post : Int32 → cs_S → Prop} (hC : rf_C P RX8 p s m meth c cX8_scanAddress 8 (some .int)) (hin : meth.name = yX8_scanAddress.name) (hO : cs_O G A s s.heap) (S : cs_S)  (H : Heap) (locs : List Loc) (ls : Array Slot) (h : w_X8_scanAddress_212 post G S ) (hT : cs_T P s A S H locs) (hl : lv_has ls 8 []) : W p l e rm_X8_scanAddress s m args below meth c H locs 0 0 (MQ below (cs_Qi P A post) args s 0 0 A) (F0 m 212 ls []) := by
  obtain ⟨hx, hb, hml, hown, hK, -, -⟩ := id hC
  refine lv_iconst (v := (-1)) hx hb dX8_scanAddress_212 (by decide) ?_
  exact cs_iret hC hT h dX8_scanAddress_213 (Nat.le_refl _) (Nat.le_refl _)
end
def w_X8_scanAddress_196 (post : Int32 → cs_S → Prop) (G : Nat → Nat) (S : cs_S) (x0 : Nat) (x1 : Int32) (x2 : Int32) (x3 : Int32) (x4 : Int32) (x5 : Int32) (x6 : Int32) (x7 : Int32) : Prop := (x7 = 0 → w_X8_scanAddress_212 post G S) ∧ (¬ x7 = 0 → (¬ x6 = 3 → w_X8_scanAddress_212 post G S) ∧ (x6 = 3 → (¬ x5 = 0 → cs_k S x0 = 10 ∧ wp_X8_put (fun S27 => post x2 S27) G S x0 5 x1 (((x3 <<< (8 &&& 31)) ||| (x4 &&& 255)).toInt64)) ∧ (x5 = 0 → w_X8_scanAddress_212 post G S)))
section
variable {p : Program} {l : Launch} {e : Env} {s : State} {m : MethodId} {args : Array Value} {below : List Frame} {meth : Method} {c : Code} {P : hw_G} {G : Nat → Nat} {A : Nat → Prop}
set_option maxRecDepth 100000 in
set_option maxHeartbeats 4000000 in
theorem t_X8_scanAddress_196 {post : Int32 → cs_S → Prop} (hC : rf_C P RX8 p s m meth c cX8_scanAddress 8 (some .int)) (hin : meth.name = yX8_scanAddress.name) (hO : cs_O G A s s.heap) (S : cs_S) (x0 : Nat) (x1 : Int32) (x2 : Int32) (x3 : Int32) (x4 : Int32) (x5 : Int32) (x6 : Int32) (x7 : Int32) (H : Heap) (locs : List Loc) (ls : Array Slot) (h : w_X8_scanAddress_196 post G S x0 x1 x2 x3 x4 x5 x6 x7) (hT : cs_T P s A S H locs) (hl : lv_has ls 8 [(0, .ref x0), (1, .int x1), (2, .int x2), (3, .int x3), (4, .int x4), (5, .int x5), (6, .int x6), (7, .int x7)]) : W p l e rm_X8_scanAddress s m args below meth c H locs 0 0 (MQ below (cs_Qi P A post) args s 0 0 A) (F0 m 196 ls []) := by
  obtain ⟨hx, hb, hml, hown, hK, -, -⟩ := id hC
  refine lv_iload hx hb dX8_scanAddress_196 (lv_at hl 7 rfl) ?_
  refine lv_if_eq (tgt := 212) hx hb dX8_scanAddress_198 (by decide) (fun hc => ?_) (fun hc => ?_)
  · replace h := h.1 hc
    exact t_X8_scanAddress_212 hC hin hO S _ _ _ h hT (lv_sub hl [] rfl)
  · replace h := h.2 hc
    refine lv_iload hx hb dX8_scanAddress_201 (lv_at hl 6 rfl) ?_
    refine lv_iconst (v := 3) hx hb dX8_scanAddress_203 (by decide) ?_
    refine lv_icmp_ne (tgt := 212) hx hb dX8_scanAddress_204 (by decide) (fun hc => ?_) (fun hc => ?_)
    · replace h := h.1 hc
      exact t_X8_scanAddress_212 hC hin hO S _ _ _ h hT (lv_sub hl [] rfl)
    · replace h := h.2 hc
      refine lv_iload hx hb dX8_scanAddress_207 (lv_at hl 5 rfl) ?_
      refine lv_if_ne (tgt := 214) hx hb dX8_scanAddress_209 (by decide) (fun hc => ?_) (fun hc => ?_)
      · replace h := h.1 hc
        refine lv_aload_n (x := x0) hx hb dX8_scanAddress_214 rfl (lv_at hl 0 rfl) ?_
        refine lv_iconst (v := 5) hx hb dX8_scanAddress_215 (by decide) ?_
        refine lv_iload_n hx hb dX8_scanAddress_216 rfl (lv_at hl 1 rfl) ?_
        refine lv_iload_n hx hb dX8_scanAddress_217 rfl (lv_at hl 3 rfl) ?_
        refine lv_bipush (v := 8) hx hb dX8_scanAddress_218 (by decide) ?_
        refine lv_ishl hx hb dX8_scanAddress_220 ?_
        refine lv_iload hx hb dX8_scanAddress_221 (lv_at hl 4 rfl) ?_
        refine lv_sipush (v := 255) hx hb dX8_scanAddress_223 (by decide) ?_
        refine lv_iand hx hb dX8_scanAddress_226 ?_
        refine lv_ior hx hb dX8_scanAddress_227 ?_
        refine lv_i2l (v := ((x3 <<< (8 &&& 31)) ||| (x4 &&& 255)).toInt64) hx hb dX8_scanAddress_228 rfl ?_
        obtain ⟨hk28_, h⟩ := h
        refine cs_callv0 (cs_runV hx hb hml hown hK hO hT 9 hk28_ (by decide) rfl (c_X8_put h) rfl rfl klX8_64 ki_X8_put ks_X8_put kn_X8 kc_X8_put 3 ⟨rfl, by decide, by decide, by decide +kernel⟩ ⟨by decide, by decide⟩ rfl hl.1 rfl (hw_cat8 (Nat.le_of_ble_eq_true rfl)) ⟨(Nat.le_refl _), (Nat.le_refl _)⟩ dX8_scanAddress_229) hT (fun S27 H locs h_ hT_ => ?_)
        replace h := h_
        replace hT := hT_
        refine lv_iload_n hx hb dX8_scanAddress_232 rfl (lv_at hl 2 rfl) ?_
        exact cs_iret hC hT h dX8_scanAddress_233 (Nat.le_refl _) (Nat.le_refl _)
      · replace h := h.2 hc
        exact t_X8_scanAddress_212 hC hin hO S _ _ _ h hT (lv_sub hl [] rfl)
end
def w_X8_scanAddress_190 (post : Int32 → cs_S → Prop) (G : Nat → Nat) (k16 : cs_S → Nat → Int32 → Int32 → Int32 → Int32 → Int32 → Int32 → Int32 → Prop) (S : cs_S) (x0 : Nat) (x1 : Int32) (x2 : Int32) (x3 : Int32) (x4 : Int32) (x5 : Int32) (x6 : Int32) (x7 : Int32) : Prop := k16 S x0 x1 (x2 + 1) x3 x4 x5 x6 x7
section
variable {p : Program} {l : Launch} {e : Env} {s : State} {m : MethodId} {args : Array Value} {below : List Frame} {meth : Method} {c : Code} {P : hw_G} {G : Nat → Nat} {A : Nat → Prop}
set_option maxRecDepth 100000 in
set_option maxHeartbeats 4000000 in
theorem t_X8_scanAddress_190 {post : Int32 → cs_S → Prop} {k16 : cs_S → Nat → Int32 → Int32 → Int32 → Int32 → Int32 → Int32 → Int32 → Prop} (hC : rf_C P RX8 p s m meth c cX8_scanAddress 8 (some .int)) (hin : meth.name = yX8_scanAddress.name) (hO : cs_O G A s s.heap) (hk16 : ∀ (S : cs_S) (x0 : Nat) (x1 : Int32) (x2 : Int32) (x3 : Int32) (x4 : Int32) (x5 : Int32) (x6 : Int32) (x7 : Int32) (H : Heap) (locs : List Loc) (ls : Array Slot), k16 S x0 x1 x2 x3 x4 x5 x6 x7 → cs_T P s A S H locs → lv_has ls 8 [(0, .ref x0), (1, .int x1), (2, .int x2), (3, .int x3), (4, .int x4), (5, .int x5), (6, .int x6), (7, .int x7)] → W p l e rm_X8_scanAddress s m args below meth c H locs 0 0 (MQ below (cs_Qi P A post) args s 0 0 A) (F0 m 16 ls [])) (S : cs_S) (x0 : Nat) (x1 : Int32) (x2 : Int32) (x3 : Int32) (x4 : Int32) (x5 : Int32) (x6 : Int32) (x7 : Int32) (H : Heap) (locs : List Loc) (ls : Array Slot) (h : w_X8_scanAddress_190 post G k16 S x0 x1 x2 x3 x4 x5 x6 x7) (hT : cs_T P s A S H locs) (hl : lv_has ls 8 [(0, .ref x0), (1, .int x1), (2, .int x2), (3, .int x3), (4, .int x4), (5, .int x5), (6, .int x6), (7, .int x7)]) : W p l e rm_X8_scanAddress s m args below meth c H locs 0 0 (MQ below (cs_Qi P A post) args s 0 0 A) (F0 m 190 ls []) := by
  obtain ⟨hx, hb, hml, hown, hK, -, -⟩ := id hC
  refine lv_iinc (v := x2 + 1) (lv' := [(2, _), (0, _), (1, _), (3, _), (4, _), (5, _), (6, _), (7, _)]) hx hb dX8_scanAddress_190 hl (k := 2) rfl rfl (by decide) rfl (fun ls hl_ => ?_)
  replace hl := hl_
  refine lv_goto (tgt := 16) hx hb dX8_scanAddress_193 (by decide) ?_
  exact hk16 S x0 x1 (x2 + 1) x3 x4 x5 x6 x7 _ _ _ h hT (lv_sub hl [1, 2, 0, 3, 4, 5, 6, 7] rfl)
end
def w_X8_scanAddress_188 (post : Int32 → cs_S → Prop) (G : Nat → Nat) (k16 : cs_S → Nat → Int32 → Int32 → Int32 → Int32 → Int32 → Int32 → Int32 → Prop) (S : cs_S) (x0 : Nat) (x1 : Int32) (x2 : Int32) (x3 : Int32) (x4 : Int32) (x5 : Int32) (x6 : Int32) (y0 : Int32) : Prop := w_X8_scanAddress_190 post G k16 S x0 x1 x2 x3 x4 x5 x6 y0
section
variable {p : Program} {l : Launch} {e : Env} {s : State} {m : MethodId} {args : Array Value} {below : List Frame} {meth : Method} {c : Code} {P : hw_G} {G : Nat → Nat} {A : Nat → Prop}
set_option maxRecDepth 100000 in
set_option maxHeartbeats 4000000 in
theorem t_X8_scanAddress_188 {post : Int32 → cs_S → Prop} {k16 : cs_S → Nat → Int32 → Int32 → Int32 → Int32 → Int32 → Int32 → Int32 → Prop} (hC : rf_C P RX8 p s m meth c cX8_scanAddress 8 (some .int)) (hin : meth.name = yX8_scanAddress.name) (hO : cs_O G A s s.heap) (hk16 : ∀ (S : cs_S) (x0 : Nat) (x1 : Int32) (x2 : Int32) (x3 : Int32) (x4 : Int32) (x5 : Int32) (x6 : Int32) (x7 : Int32) (H : Heap) (locs : List Loc) (ls : Array Slot), k16 S x0 x1 x2 x3 x4 x5 x6 x7 → cs_T P s A S H locs → lv_has ls 8 [(0, .ref x0), (1, .int x1), (2, .int x2), (3, .int x3), (4, .int x4), (5, .int x5), (6, .int x6), (7, .int x7)] → W p l e rm_X8_scanAddress s m args below meth c H locs 0 0 (MQ below (cs_Qi P A post) args s 0 0 A) (F0 m 16 ls [])) (S : cs_S) (x0 : Nat) (x1 : Int32) (x2 : Int32) (x3 : Int32) (x4 : Int32) (x5 : Int32) (x6 : Int32) (y0 : Int32) (H : Heap) (locs : List Loc) (ls : Array Slot) (h : w_X8_scanAddress_188 post G k16 S x0 x1 x2 x3 x4 x5 x6 y0) (hT : cs_T P s A S H locs) (hl : lv_has ls 8 [(0, .ref x0), (1, .int x1), (2, .int x2), (3, .int x3), (4, .int x4), (5, .int x5), (6, .int x6)]) : W p l e rm_X8_scanAddress s m args below meth c H locs 0 0 (MQ below (cs_Qi P A post) args s 0 0 A) (F0 m 188 ls [.int y0]) := by
  obtain ⟨hx, hb, hml, hown, hK, -, -⟩ := id hC
  refine lv_istore (lv' := [(7, _), (0, _), (1, _), (2, _), (3, _), (4, _), (5, _), (6, _)]) hx hb dX8_scanAddress_188 hl (by decide) rfl (fun ls hl_ => ?_)
  replace hl := hl_
  exact t_X8_scanAddress_190 hC hin hO hk16 S x0 x1 x2 x3 x4 x5 x6 y0 _ _ _ h hT (lv_sub hl [1, 2, 3, 4, 5, 6, 7, 0] rfl)
end
def w_X8_scanAddress_187 (post : Int32 → cs_S → Prop) (G : Nat → Nat) (k16 : cs_S → Nat → Int32 → Int32 → Int32 → Int32 → Int32 → Int32 → Int32 → Prop) (S : cs_S) (x0 : Nat) (x1 : Int32) (x2 : Int32) (x3 : Int32) (x4 : Int32) (x5 : Int32) (x6 : Int32) : Prop := w_X8_scanAddress_188 post G k16 S x0 x1 x2 x3 x4 x5 x6 0
section
variable {p : Program} {l : Launch} {e : Env} {s : State} {m : MethodId} {args : Array Value} {below : List Frame} {meth : Method} {c : Code} {P : hw_G} {G : Nat → Nat} {A : Nat → Prop}
set_option maxRecDepth 100000 in
set_option maxHeartbeats 4000000 in
theorem t_X8_scanAddress_187 {post : Int32 → cs_S → Prop} {k16 : cs_S → Nat → Int32 → Int32 → Int32 → Int32 → Int32 → Int32 → Int32 → Prop} (hC : rf_C P RX8 p s m meth c cX8_scanAddress 8 (some .int)) (hin : meth.name = yX8_scanAddress.name) (hO : cs_O G A s s.heap) (hk16 : ∀ (S : cs_S) (x0 : Nat) (x1 : Int32) (x2 : Int32) (x3 : Int32) (x4 : Int32) (x5 : Int32) (x6 : Int32) (x7 : Int32) (H : Heap) (locs : List Loc) (ls : Array Slot), k16 S x0 x1 x2 x3 x4 x5 x6 x7 → cs_T P s A S H locs → lv_has ls 8 [(0, .ref x0), (1, .int x1), (2, .int x2), (3, .int x3), (4, .int x4), (5, .int x5), (6, .int x6), (7, .int x7)] → W p l e rm_X8_scanAddress s m args below meth c H locs 0 0 (MQ below (cs_Qi P A post) args s 0 0 A) (F0 m 16 ls [])) (S : cs_S) (x0 : Nat) (x1 : Int32) (x2 : Int32) (x3 : Int32) (x4 : Int32) (x5 : Int32) (x6 : Int32) (H : Heap) (locs : List Loc) (ls : Array Slot) (h : w_X8_scanAddress_187 post G k16 S x0 x1 x2 x3 x4 x5 x6) (hT : cs_T P s A S H locs) (hl : lv_has ls 8 [(0, .ref x0), (1, .int x1), (2, .int x2), (3, .int x3), (4, .int x4), (5, .int x5), (6, .int x6)]) : W p l e rm_X8_scanAddress s m args below meth c H locs 0 0 (MQ below (cs_Qi P A post) args s 0 0 A) (F0 m 187 ls []) := by
  obtain ⟨hx, hb, hml, hown, hK, -, -⟩ := id hC
  refine lv_iconst (v := 0) hx hb dX8_scanAddress_187 (by decide) ?_
  exact t_X8_scanAddress_188 hC hin hO hk16 S x0 x1 x2 x3 x4 x5 x6 0 _ _ _ h hT (lv_sub hl [0, 1, 2, 3, 4, 5, 6] rfl)
end
def w_X8_scanAddress_168 (post : Int32 → cs_S → Prop) (G : Nat → Nat) (k16 : cs_S → Nat → Int32 → Int32 → Int32 → Int32 → Int32 → Int32 → Int32 → Prop) (S : cs_S) (x0 : Nat) (x1 : Int32) (x2 : Int32) (x3 : Int32) (x5 : Int32) (x6 : Int32) (x7 : Int32) (y0 : Int32) : Prop := (x7 = 0 → w_X8_scanAddress_187 post G k16 S x0 x1 x2 x3 y0 x5 x6) ∧ (¬ x7 = 0 → (255 < y0 → w_X8_scanAddress_187 post G k16 S x0 x1 x2 x3 y0 x5 x6) ∧ (¬ 255 < y0 → w_X8_scanAddress_188 post G k16 S x0 x1 x2 x3 y0 x5 x6 1))
section
variable {p : Program} {l : Launch} {e : Env} {s : State} {m : MethodId} {args : Array Value} {below : List Frame} {meth : Method} {c : Code} {P : hw_G} {G : Nat → Nat} {A : Nat → Prop}
set_option maxRecDepth 100000 in
set_option maxHeartbeats 4000000 in
theorem t_X8_scanAddress_168 {post : Int32 → cs_S → Prop} {k16 : cs_S → Nat → Int32 → Int32 → Int32 → Int32 → Int32 → Int32 → Int32 → Prop} (hC : rf_C P RX8 p s m meth c cX8_scanAddress 8 (some .int)) (hin : meth.name = yX8_scanAddress.name) (hO : cs_O G A s s.heap) (hk16 : ∀ (S : cs_S) (x0 : Nat) (x1 : Int32) (x2 : Int32) (x3 : Int32) (x4 : Int32) (x5 : Int32) (x6 : Int32) (x7 : Int32) (H : Heap) (locs : List Loc) (ls : Array Slot), k16 S x0 x1 x2 x3 x4 x5 x6 x7 → cs_T P s A S H locs → lv_has ls 8 [(0, .ref x0), (1, .int x1), (2, .int x2), (3, .int x3), (4, .int x4), (5, .int x5), (6, .int x6), (7, .int x7)] → W p l e rm_X8_scanAddress s m args below meth c H locs 0 0 (MQ below (cs_Qi P A post) args s 0 0 A) (F0 m 16 ls [])) (S : cs_S) (x0 : Nat) (x1 : Int32) (x2 : Int32) (x3 : Int32) (x5 : Int32) (x6 : Int32) (x7 : Int32) (y0 : Int32) (H : Heap) (locs : List Loc) (ls : Array Slot) (h : w_X8_scanAddress_168 post G k16 S x0 x1 x2 x3 x5 x6 x7 y0) (hT : cs_T P s A S H locs) (hl : lv_has ls 8 [(0, .ref x0), (1, .int x1), (2, .int x2), (3, .int x3), (5, .int x5), (6, .int x6), (7, .int x7)]) : W p l e rm_X8_scanAddress s m args below meth c H locs 0 0 (MQ below (cs_Qi P A post) args s 0 0 A) (F0 m 168 ls [.int y0]) := by
  obtain ⟨hx, hb, hml, hown, hK, -, -⟩ := id hC
  refine lv_istore (lv' := [(4, _), (0, _), (1, _), (2, _), (3, _), (5, _), (6, _), (7, _)]) hx hb dX8_scanAddress_168 hl (by decide) rfl (fun ls hl_ => ?_)
  replace hl := hl_
  refine lv_iload hx hb dX8_scanAddress_170 (lv_at hl 7 rfl) ?_
  refine lv_if_eq (tgt := 187) hx hb dX8_scanAddress_172 (by decide) (fun hc => ?_) (fun hc => ?_)
  · replace h := h.1 hc
    exact t_X8_scanAddress_187 hC hin hO hk16 S x0 x1 x2 x3 y0 x5 x6 _ _ _ h hT (lv_sub hl [1, 2, 3, 4, 0, 5, 6] rfl)
  · replace h := h.2 hc
    refine lv_iload hx hb dX8_scanAddress_175 (lv_at hl 0 rfl) ?_
    refine lv_sipush (v := 255) hx hb dX8_scanAddress_177 (by decide) ?_
    refine lv_icmp_gt (tgt := 187) hx hb dX8_scanAddress_180 (by decide) (fun hc => ?_) (fun hc => ?_)
    · replace h := h.1 hc
      exact t_X8_scanAddress_187 hC hin hO hk16 S x0 x1 x2 x3 y0 x5 x6 _ _ _ h hT (lv_sub hl [1, 2, 3, 4, 0, 5, 6] rfl)
    · replace h := h.2 hc
      refine lv_iconst (v := 1) hx hb dX8_scanAddress_183 (by decide) ?_
      refine lv_goto (tgt := 188) hx hb dX8_scanAddress_184 (by decide) ?_
      exact t_X8_scanAddress_188 hC hin hO hk16 S x0 x1 x2 x3 y0 x5 x6 1 _ _ _ h hT (lv_sub hl [1, 2, 3, 4, 0, 5, 6] rfl)
end
def w_X8_scanAddress_142 (post : Int32 → cs_S → Prop) (G : Nat → Nat) (k16 : cs_S → Nat → Int32 → Int32 → Int32 → Int32 → Int32 → Int32 → Int32 → Prop) (S : cs_S) (x0 : Nat) (x1 : Int32) (x2 : Int32) (x3 : Int32) (x4 : Int32) (x5 : Int32) (x6 : Int32) (y0 : Int32) : Prop := (y0 = 0 → w_X8_scanAddress_168 post G k16 S x0 x1 x2 x3 x5 x6 y0 0) ∧ (¬ y0 = 0 → cs_k S x0 = 10 ∧ ∀ r30, r30 = cs_r S 904 x0 → ∃ b31, r30 = some b31 ∧ cs_k S b31 = 20 ∧ vp_in x2 (cs_n S b31) ∧ w_X8_scanAddress_168 post G k16 S x0 x1 x2 x3 x5 x6 y0 (((10 * x4) + (cs_ai S b31 x2.toNatClampNeg)) - 48))
section
variable {p : Program} {l : Launch} {e : Env} {s : State} {m : MethodId} {args : Array Value} {below : List Frame} {meth : Method} {c : Code} {P : hw_G} {G : Nat → Nat} {A : Nat → Prop}
set_option maxRecDepth 100000 in
set_option maxHeartbeats 4000000 in
theorem t_X8_scanAddress_142 {post : Int32 → cs_S → Prop} {k16 : cs_S → Nat → Int32 → Int32 → Int32 → Int32 → Int32 → Int32 → Int32 → Prop} (hC : rf_C P RX8 p s m meth c cX8_scanAddress 8 (some .int)) (hin : meth.name = yX8_scanAddress.name) (hO : cs_O G A s s.heap) (hk16 : ∀ (S : cs_S) (x0 : Nat) (x1 : Int32) (x2 : Int32) (x3 : Int32) (x4 : Int32) (x5 : Int32) (x6 : Int32) (x7 : Int32) (H : Heap) (locs : List Loc) (ls : Array Slot), k16 S x0 x1 x2 x3 x4 x5 x6 x7 → cs_T P s A S H locs → lv_has ls 8 [(0, .ref x0), (1, .int x1), (2, .int x2), (3, .int x3), (4, .int x4), (5, .int x5), (6, .int x6), (7, .int x7)] → W p l e rm_X8_scanAddress s m args below meth c H locs 0 0 (MQ below (cs_Qi P A post) args s 0 0 A) (F0 m 16 ls [])) (S : cs_S) (x0 : Nat) (x1 : Int32) (x2 : Int32) (x3 : Int32) (x4 : Int32) (x5 : Int32) (x6 : Int32) (y0 : Int32) (H : Heap) (locs : List Loc) (ls : Array Slot) (h : w_X8_scanAddress_142 post G k16 S x0 x1 x2 x3 x4 x5 x6 y0) (hT : cs_T P s A S H locs) (hl : lv_has ls 8 [(0, .ref x0), (1, .int x1), (2, .int x2), (3, .int x3), (4, .int x4), (5, .int x5), (6, .int x6)]) : W p l e rm_X8_scanAddress s m args below meth c H locs 0 0 (MQ below (cs_Qi P A post) args s 0 0 A) (F0 m 142 ls [.int y0]) := by
  obtain ⟨hx, hb, hml, hown, hK, -, -⟩ := id hC
  refine lv_istore (lv' := [(7, _), (0, _), (1, _), (2, _), (3, _), (4, _), (5, _), (6, _)]) hx hb dX8_scanAddress_142 hl (by decide) rfl (fun ls hl_ => ?_)
  replace hl := hl_
  refine lv_iload hx hb dX8_scanAddress_144 (lv_at hl 0 rfl) ?_
  refine lv_if_eq (tgt := 167) hx hb dX8_scanAddress_146 (by decide) (fun hc => ?_) (fun hc => ?_)
  · replace h := h.1 hc
    refine lv_iconst (v := 0) hx hb dX8_scanAddress_167 (by decide) ?_
    exact t_X8_scanAddress_168 hC hin hO hk16 S x0 x1 x2 x3 x5 x6 y0 0 _ _ _ h hT (lv_sub hl [1, 2, 3, 4, 6, 7, 0] rfl)
  · replace h := h.2 hc
    refine lv_bipush (v := 10) hx hb dX8_scanAddress_149 (by decide) ?_
    refine lv_iload hx hb dX8_scanAddress_151 (lv_at hl 5 rfl) ?_
    refine lv_imul hx hb dX8_scanAddress_153 ?_
    refine lv_aload_n (x := x0) hx hb dX8_scanAddress_154 rfl (lv_at hl 1 rfl) ?_
    obtain ⟨hk29_, h⟩ := h
    refine cs_get hx hb hK hT hown 9 hk29_ (by decide) rfl 4 (by decide) kfX8_28 (v := va_rf (cs_r S 904 x0)) rfl dX8_scanAddress_155 ?_
    refine hw_topr (fun r30 er30 => ?_)
    replace h := h r30 er30
    refine lv_iload_n hx hb dX8_scanAddress_158 rfl (lv_at hl 3 rfl) ?_
    obtain ⟨b31, rfl, h⟩ := h
    obtain ⟨hk32_, h⟩ := h
    obtain ⟨hi, h⟩ := h
    refine cs_iald hx hb hK hT hk32_ hi dX8_scanAddress_159 ?_
    refine lv_iadd hx hb dX8_scanAddress_160 ?_
    refine lv_bipush (v := 48) hx hb dX8_scanAddress_161 (by decide) ?_
    refine lv_isub hx hb dX8_scanAddress_163 ?_
    refine lv_goto (tgt := 168) hx hb dX8_scanAddress_164 (by decide) ?_
    exact t_X8_scanAddress_168 hC hin hO hk16 S x0 x1 x2 x3 x5 x6 y0 (((10 * x4) + (cs_ai S b31 x2.toNatClampNeg)) - 48) _ _ _ h hT (lv_sub hl [1, 2, 3, 4, 6, 7, 0] rfl)
end
def w_X8_scanAddress_141 (post : Int32 → cs_S → Prop) (G : Nat → Nat) (k16 : cs_S → Nat → Int32 → Int32 → Int32 → Int32 → Int32 → Int32 → Int32 → Prop) (S : cs_S) (x0 : Nat) (x1 : Int32) (x2 : Int32) (x3 : Int32) (x4 : Int32) (x5 : Int32) (x6 : Int32) : Prop := w_X8_scanAddress_142 post G k16 S x0 x1 x2 x3 x4 x5 x6 0
section
variable {p : Program} {l : Launch} {e : Env} {s : State} {m : MethodId} {args : Array Value} {below : List Frame} {meth : Method} {c : Code} {P : hw_G} {G : Nat → Nat} {A : Nat → Prop}
set_option maxRecDepth 100000 in
set_option maxHeartbeats 4000000 in
theorem t_X8_scanAddress_141 {post : Int32 → cs_S → Prop} {k16 : cs_S → Nat → Int32 → Int32 → Int32 → Int32 → Int32 → Int32 → Int32 → Prop} (hC : rf_C P RX8 p s m meth c cX8_scanAddress 8 (some .int)) (hin : meth.name = yX8_scanAddress.name) (hO : cs_O G A s s.heap) (hk16 : ∀ (S : cs_S) (x0 : Nat) (x1 : Int32) (x2 : Int32) (x3 : Int32) (x4 : Int32) (x5 : Int32) (x6 : Int32) (x7 : Int32) (H : Heap) (locs : List Loc) (ls : Array Slot), k16 S x0 x1 x2 x3 x4 x5 x6 x7 → cs_T P s A S H locs → lv_has ls 8 [(0, .ref x0), (1, .int x1), (2, .int x2), (3, .int x3), (4, .int x4), (5, .int x5), (6, .int x6), (7, .int x7)] → W p l e rm_X8_scanAddress s m args below meth c H locs 0 0 (MQ below (cs_Qi P A post) args s 0 0 A) (F0 m 16 ls [])) (S : cs_S) (x0 : Nat) (x1 : Int32) (x2 : Int32) (x3 : Int32) (x4 : Int32) (x5 : Int32) (x6 : Int32) (H : Heap) (locs : List Loc) (ls : Array Slot) (h : w_X8_scanAddress_141 post G k16 S x0 x1 x2 x3 x4 x5 x6) (hT : cs_T P s A S H locs) (hl : lv_has ls 8 [(0, .ref x0), (1, .int x1), (2, .int x2), (3, .int x3), (4, .int x4), (5, .int x5), (6, .int x6)]) : W p l e rm_X8_scanAddress s m args below meth c H locs 0 0 (MQ below (cs_Qi P A post) args s 0 0 A) (F0 m 141 ls []) := by
  obtain ⟨hx, hb, hml, hown, hK, -, -⟩ := id hC
  refine lv_iconst (v := 0) hx hb dX8_scanAddress_141 (by decide) ?_
  exact t_X8_scanAddress_142 hC hin hO hk16 S x0 x1 x2 x3 x4 x5 x6 0 _ _ _ h hT (lv_sub hl [0, 1, 2, 3, 4, 5, 6] rfl)
end
def w_X8_scanAddress_85 (post : Int32 → cs_S → Prop) (G : Nat → Nat) (k16 : cs_S → Nat → Int32 → Int32 → Int32 → Int32 → Int32 → Int32 → Int32 → Prop) (S : cs_S) (x0 : Nat) (x1 : Int32) (x2 : Int32) (x3 : Int32) (x4 : Int32) (x6 : Int32) (y0 : Int32) : Prop := w_X8_scanAddress_190 post G k16 S x0 x1 x2 ((x3 <<< (8 &&& 31)) ||| (x4 &&& 255)) 0 0 (x6 + 1) y0
section
variable {p : Program} {l : Launch} {e : Env} {s : State} {m : MethodId} {args : Array Value} {below : List Frame} {meth : Method} {c : Code} {P : hw_G} {G : Nat → Nat} {A : Nat → Prop}
set_option maxRecDepth 100000 in
set_option maxHeartbeats 4000000 in
theorem t_X8_scanAddress_85 {post : Int32 → cs_S → Prop} {k16 : cs_S → Nat → Int32 → Int32 → Int32 → Int32 → Int32 → Int32 → Int32 → Prop} (hC : rf_C P RX8 p s m meth c cX8_scanAddress 8 (some .int)) (hin : meth.name = yX8_scanAddress.name) (hO : cs_O G A s s.heap) (hk16 : ∀ (S : cs_S) (x0 : Nat) (x1 : Int32) (x2 : Int32) (x3 : Int32) (x4 : Int32) (x5 : Int32) (x6 : Int32) (x7 : Int32) (H : Heap) (locs : List Loc) (ls : Array Slot), k16 S x0 x1 x2 x3 x4 x5 x6 x7 → cs_T P s A S H locs → lv_has ls 8 [(0, .ref x0), (1, .int x1), (2, .int x2), (3, .int x3), (4, .int x4), (5, .int x5), (6, .int x6), (7, .int x7)] → W p l e rm_X8_scanAddress s m args below meth c H locs 0 0 (MQ below (cs_Qi P A post) args s 0 0 A) (F0 m 16 ls [])) (S : cs_S) (x0 : Nat) (x1 : Int32) (x2 : Int32) (x3 : Int32) (x4 : Int32) (x6 : Int32) (y0 : Int32) (H : Heap) (locs : List Loc) (ls : Array Slot) (h : w_X8_scanAddress_85 post G k16 S x0 x1 x2 x3 x4 x6 y0) (hT : cs_T P s A S H locs) (hl : lv_has ls 8 [(0, .ref x0), (1, .int x1), (2, .int x2), (3, .int x3), (4, .int x4), (6, .int x6)]) : W p l e rm_X8_scanAddress s m args below meth c H locs 0 0 (MQ below (cs_Qi P A post) args s 0 0 A) (F0 m 85 ls [.int y0]) := by
  obtain ⟨hx, hb, hml, hown, hK, -, -⟩ := id hC
  refine lv_istore (lv' := [(7, _), (0, _), (1, _), (2, _), (3, _), (4, _), (6, _)]) hx hb dX8_scanAddress_85 hl (by decide) rfl (fun ls hl_ => ?_)
  replace hl := hl_
  refine lv_iload_n hx hb dX8_scanAddress_87 rfl (lv_at hl 4 rfl) ?_
  refine lv_bipush (v := 8) hx hb dX8_scanAddress_88 (by decide) ?_
  refine lv_ishl hx hb dX8_scanAddress_90 ?_
  refine lv_iload hx hb dX8_scanAddress_91 (lv_at hl 5 rfl) ?_
  refine lv_sipush (v := 255) hx hb dX8_scanAddress_93 (by decide) ?_
  refine lv_iand hx hb dX8_scanAddress_96 ?_
  refine lv_ior hx hb dX8_scanAddress_97 ?_
  refine lv_istore_n (lv' := [(3, _), (7, _), (0, _), (1, _), (2, _), (4, _), (6, _)]) hx hb dX8_scanAddress_98 rfl hl (by decide) rfl (fun ls hl_ => ?_)
  replace hl := hl_
  refine lv_iinc (v := x6 + 1) (lv' := [(6, _), (3, _), (7, _), (0, _), (1, _), (2, _), (4, _)]) hx hb dX8_scanAddress_99 hl (k := 6) rfl rfl (by decide) rfl (fun ls hl_ => ?_)
  replace hl := hl_
  refine lv_iconst (v := 0) hx hb dX8_scanAddress_102 (by decide) ?_
  refine lv_istore (lv' := [(4, _), (6, _), (3, _), (7, _), (0, _), (1, _), (2, _)]) hx hb dX8_scanAddress_103 hl (by decide) rfl (fun ls hl_ => ?_)
  replace hl := hl_
  refine lv_iconst (v := 0) hx hb dX8_scanAddress_105 (by decide) ?_
  refine lv_istore (lv' := [(5, _), (4, _), (6, _), (3, _), (7, _), (0, _), (1, _), (2, _)]) hx hb dX8_scanAddress_106 hl (by decide) rfl (fun ls hl_ => ?_)
  replace hl := hl_
  refine lv_goto (tgt := 190) hx hb dX8_scanAddress_108 (by decide) ?_
  exact t_X8_scanAddress_190 hC hin hO hk16 S x0 x1 x2 ((x3 <<< (8 &&& 31)) ||| (x4 &&& 255)) 0 0 (x6 + 1) y0 _ _ _ h hT (lv_sub hl [5, 6, 7, 3, 1, 0, 2, 4] rfl)
end
def w_X8_scanAddress_84 (post : Int32 → cs_S → Prop) (G : Nat → Nat) (k16 : cs_S → Nat → Int32 → Int32 → Int32 → Int32 → Int32 → Int32 → Int32 → Prop) (S : cs_S) (x0 : Nat) (x1 : Int32) (x2 : Int32) (x3 : Int32) (x4 : Int32) (x6 : Int32) : Prop := w_X8_scanAddress_85 post G k16 S x0 x1 x2 x3 x4 x6 0
section
variable {p : Program} {l : Launch} {e : Env} {s : State} {m : MethodId} {args : Array Value} {below : List Frame} {meth : Method} {c : Code} {P : hw_G} {G : Nat → Nat} {A : Nat → Prop}
set_option maxRecDepth 100000 in
set_option maxHeartbeats 4000000 in
theorem t_X8_scanAddress_84 {post : Int32 → cs_S → Prop} {k16 : cs_S → Nat → Int32 → Int32 → Int32 → Int32 → Int32 → Int32 → Int32 → Prop} (hC : rf_C P RX8 p s m meth c cX8_scanAddress 8 (some .int)) (hin : meth.name = yX8_scanAddress.name) (hO : cs_O G A s s.heap) (hk16 : ∀ (S : cs_S) (x0 : Nat) (x1 : Int32) (x2 : Int32) (x3 : Int32) (x4 : Int32) (x5 : Int32) (x6 : Int32) (x7 : Int32) (H : Heap) (locs : List Loc) (ls : Array Slot), k16 S x0 x1 x2 x3 x4 x5 x6 x7 → cs_T P s A S H locs → lv_has ls 8 [(0, .ref x0), (1, .int x1), (2, .int x2), (3, .int x3), (4, .int x4), (5, .int x5), (6, .int x6), (7, .int x7)] → W p l e rm_X8_scanAddress s m args below meth c H locs 0 0 (MQ below (cs_Qi P A post) args s 0 0 A) (F0 m 16 ls [])) (S : cs_S) (x0 : Nat) (x1 : Int32) (x2 : Int32) (x3 : Int32) (x4 : Int32) (x6 : Int32) (H : Heap) (locs : List Loc) (ls : Array Slot) (h : w_X8_scanAddress_84 post G k16 S x0 x1 x2 x3 x4 x6) (hT : cs_T P s A S H locs) (hl : lv_has ls 8 [(0, .ref x0), (1, .int x1), (2, .int x2), (3, .int x3), (4, .int x4), (6, .int x6)]) : W p l e rm_X8_scanAddress s m args below meth c H locs 0 0 (MQ below (cs_Qi P A post) args s 0 0 A) (F0 m 84 ls []) := by
  obtain ⟨hx, hb, hml, hown, hK, -, -⟩ := id hC
  refine lv_iconst (v := 0) hx hb dX8_scanAddress_84 (by decide) ?_
  exact t_X8_scanAddress_85 hC hin hO hk16 S x0 x1 x2 x3 x4 x6 0 _ _ _ h hT (lv_sub hl [0, 1, 2, 3, 4, 5] rfl)
end
def w_X8_scanAddress_59 (post : Int32 → cs_S → Prop) (G : Nat → Nat) (k16 : cs_S → Nat → Int32 → Int32 → Int32 → Int32 → Int32 → Int32 → Int32 → Prop) (S : cs_S) (x0 : Nat) (x1 : Int32) (x2 : Int32) (x3 : Int32) (x4 : Int32) (x5 : Int32) (x6 : Int32) (x7 : Int32) : Prop := cs_k S x0 = 10 ∧ ∀ r34, r34 = cs_r S 904 x0 → ∃ b35, r34 = some b35 ∧ cs_k S b35 = 20 ∧ vp_in x2 (cs_n S b35) ∧ (¬ (cs_ai S b35 x2.toNatClampNeg) = 46 → (x7 = 0 → w_X8_scanAddress_141 post G k16 S x0 x1 x2 x3 x4 (x5 + 1) x6) ∧ (¬ x7 = 0 → ∀ r37, r37 = cs_r S 904 x0 → ∃ b38, r37 = some b38 ∧ cs_k S b38 = 20 ∧ vp_in x2 (cs_n S b38) ∧ wp_X11_isDigit (fun r40 S40 => (r40 = 0 → w_X8_scanAddress_141 post G k16 S40 x0 x1 x2 x3 x4 (x5 + 1) x6) ∧ (¬ r40 = 0 → (3 < (x5 + 1) → w_X8_scanAddress_141 post G k16 S40 x0 x1 x2 x3 x4 (x5 + 1) x6) ∧ (¬ 3 < (x5 + 1) → w_X8_scanAddress_142 post G k16 S40 x0 x1 x2 x3 x4 (x5 + 1) x6 1))) G S (cs_ai S b38 x2.toNatClampNeg))) ∧ ((cs_ai S b35 x2.toNatClampNeg) = 46 → (x7 = 0 → w_X8_scanAddress_84 post G k16 S x0 x1 x2 x3 x4 x6) ∧ (¬ x7 = 0 → (x5 ≤ 0 → w_X8_scanAddress_84 post G k16 S x0 x1 x2 x3 x4 x6) ∧ (¬ x5 ≤ 0 → w_X8_scanAddress_85 post G k16 S x0 x1 x2 x3 x4 x6 1)))
section
variable {p : Program} {l : Launch} {e : Env} {s : State} {m : MethodId} {args : Array Value} {below : List Frame} {meth : Method} {c : Code} {P : hw_G} {G : Nat → Nat} {A : Nat → Prop}
set_option maxRecDepth 100000 in
set_option maxHeartbeats 4000000 in
theorem t_X8_scanAddress_59 {post : Int32 → cs_S → Prop} {k16 : cs_S → Nat → Int32 → Int32 → Int32 → Int32 → Int32 → Int32 → Int32 → Prop} (hC : rf_C P RX8 p s m meth c cX8_scanAddress 8 (some .int)) (hin : meth.name = yX8_scanAddress.name) (hO : cs_O G A s s.heap) (hk16 : ∀ (S : cs_S) (x0 : Nat) (x1 : Int32) (x2 : Int32) (x3 : Int32) (x4 : Int32) (x5 : Int32) (x6 : Int32) (x7 : Int32) (H : Heap) (locs : List Loc) (ls : Array Slot), k16 S x0 x1 x2 x3 x4 x5 x6 x7 → cs_T P s A S H locs → lv_has ls 8 [(0, .ref x0), (1, .int x1), (2, .int x2), (3, .int x3), (4, .int x4), (5, .int x5), (6, .int x6), (7, .int x7)] → W p l e rm_X8_scanAddress s m args below meth c H locs 0 0 (MQ below (cs_Qi P A post) args s 0 0 A) (F0 m 16 ls [])) (S : cs_S) (x0 : Nat) (x1 : Int32) (x2 : Int32) (x3 : Int32) (x4 : Int32) (x5 : Int32) (x6 : Int32) (x7 : Int32) (H : Heap) (locs : List Loc) (ls : Array Slot) (h : w_X8_scanAddress_59 post G k16 S x0 x1 x2 x3 x4 x5 x6 x7) (hT : cs_T P s A S H locs) (hl : lv_has ls 8 [(0, .ref x0), (1, .int x1), (2, .int x2), (3, .int x3), (4, .int x4), (5, .int x5), (6, .int x6), (7, .int x7)]) : W p l e rm_X8_scanAddress s m args below meth c H locs 0 0 (MQ below (cs_Qi P A post) args s 0 0 A) (F0 m 59 ls []) := by
  obtain ⟨hx, hb, hml, hown, hK, -, -⟩ := id hC
  refine lv_aload_n (x := x0) hx hb dX8_scanAddress_59 rfl (lv_at hl 0 rfl) ?_
  obtain ⟨hk33_, h⟩ := h
  refine cs_get hx hb hK hT hown 9 hk33_ (by decide) rfl 4 (by decide) kfX8_28 (v := va_rf (cs_r S 904 x0)) rfl dX8_scanAddress_60 ?_
  refine hw_topr (fun r34 er34 => ?_)
  replace h := h r34 er34
  refine lv_iload_n hx hb dX8_scanAddress_63 rfl (lv_at hl 2 rfl) ?_
  obtain ⟨b35, rfl, h⟩ := h
  obtain ⟨hk36_, h⟩ := h
  obtain ⟨hi, h⟩ := h
  refine cs_iald hx hb hK hT hk36_ hi dX8_scanAddress_64 ?_
  refine lv_bipush (v := 46) hx hb dX8_scanAddress_65 (by decide) ?_
  refine lv_icmp_ne (tgt := 111) hx hb dX8_scanAddress_67 (by decide) (fun hc => ?_) (fun hc => ?_)
  · replace h := h.1 hc
    refine lv_iinc (v := x5 + 1) (lv' := [(5, _), (0, _), (1, _), (2, _), (3, _), (4, _), (6, _), (7, _)]) hx hb dX8_scanAddress_111 hl (k := 5) rfl rfl (by decide) rfl (fun ls hl_ => ?_)
    replace hl := hl_
    refine lv_iload hx hb dX8_scanAddress_114 (lv_at hl 7 rfl) ?_
    refine lv_if_eq (tgt := 141) hx hb dX8_scanAddress_116 (by decide) (fun hc => ?_) (fun hc => ?_)
    · replace h := h.1 hc
      exact t_X8_scanAddress_141 hC hin hO hk16 S x0 x1 x2 x3 x4 (x5 + 1) x6 _ _ _ h hT (lv_sub hl [1, 2, 3, 4, 5, 0, 6] rfl)
    · replace h := h.2 hc
      refine lv_aload_n (x := x0) hx hb dX8_scanAddress_119 rfl (lv_at hl 1 rfl) ?_
      refine cs_get hx hb hK hT hown 9 hk33_ (by decide) rfl 4 (by decide) kfX8_28 (v := va_rf (cs_r S 904 x0)) rfl dX8_scanAddress_120 ?_
      refine hw_topr (fun r37 er37 => ?_)
      replace h := h r37 er37
      refine lv_iload_n hx hb dX8_scanAddress_123 rfl (lv_at hl 3 rfl) ?_
      obtain ⟨b38, rfl, h⟩ := h
      obtain ⟨hk39_, h⟩ := h
      obtain ⟨hi, h⟩ := h
      refine cs_iald hx hb hK hT hk39_ hi dX8_scanAddress_124 ?_
      refine cs_calli0 (cs_runSN hx hb hml hown hK hO hT (c_X11_isDigit h) rfl rfl klnX8_84 ki_X11_isDigit kn_X11 kc_X11_isDigit 1 ⟨by decide, by decide, by decide +kernel⟩ ⟨by decide, by decide⟩ rfl hl.1 rfl (hw_cat8 (Nat.le_of_ble_eq_true rfl)) ⟨(Nat.le_refl _), (Nat.le_refl _)⟩ dX8_scanAddress_125) hT (fun r40 S40 H locs h_ hT_ => ?_)
      replace h := h_
      replace hT := hT_
      refine lv_if_eq (tgt := 141) hx hb dX8_scanAddress_128 (by decide) (fun hc => ?_) (fun hc => ?_)
      · replace h := h.1 hc
        exact t_X8_scanAddress_141 hC hin hO hk16 S40 x0 x1 x2 x3 x4 (x5 + 1) x6 _ _ _ h hT (lv_sub hl [1, 2, 3, 4, 5, 0, 6] rfl)
      · replace h := h.2 hc
        refine lv_iload hx hb dX8_scanAddress_131 (lv_at hl 0 rfl) ?_
        refine lv_iconst (v := 3) hx hb dX8_scanAddress_133 (by decide) ?_
        refine lv_icmp_gt (tgt := 141) hx hb dX8_scanAddress_134 (by decide) (fun hc => ?_) (fun hc => ?_)
        · replace h := h.1 hc
          exact t_X8_scanAddress_141 hC hin hO hk16 S40 x0 x1 x2 x3 x4 (x5 + 1) x6 _ _ _ h hT (lv_sub hl [1, 2, 3, 4, 5, 0, 6] rfl)
        · replace h := h.2 hc
          refine lv_iconst (v := 1) hx hb dX8_scanAddress_137 (by decide) ?_
          refine lv_goto (tgt := 142) hx hb dX8_scanAddress_138 (by decide) ?_
          exact t_X8_scanAddress_142 hC hin hO hk16 S40 x0 x1 x2 x3 x4 (x5 + 1) x6 1 _ _ _ h hT (lv_sub hl [1, 2, 3, 4, 5, 0, 6] rfl)
  · replace h := h.2 hc
    refine lv_iload hx hb dX8_scanAddress_70 (lv_at hl 7 rfl) ?_
    refine lv_if_eq (tgt := 84) hx hb dX8_scanAddress_72 (by decide) (fun hc => ?_) (fun hc => ?_)
    · replace h := h.1 hc
      exact t_X8_scanAddress_84 hC hin hO hk16 S x0 x1 x2 x3 x4 x6 _ _ _ h hT (lv_sub hl [0, 1, 2, 3, 4, 6] rfl)
    · replace h := h.2 hc
      refine lv_iload hx hb dX8_scanAddress_75 (lv_at hl 5 rfl) ?_
      refine lv_if_le (tgt := 84) hx hb dX8_scanAddress_77 (by decide) (fun hc => ?_) (fun hc => ?_)
      · replace h := h.1 hc
        exact t_X8_scanAddress_84 hC hin hO hk16 S x0 x1 x2 x3 x4 x6 _ _ _ h hT (lv_sub hl [0, 1, 2, 3, 4, 6] rfl)
      · replace h := h.2 hc
        refine lv_iconst (v := 1) hx hb dX8_scanAddress_80 (by decide) ?_
        refine lv_goto (tgt := 85) hx hb dX8_scanAddress_81 (by decide) ?_
        exact t_X8_scanAddress_85 hC hin hO hk16 S x0 x1 x2 x3 x4 x6 1 _ _ _ h hT (lv_sub hl [0, 1, 2, 3, 4, 6] rfl)
end
def w_X8_scanAddress_16 (post : Int32 → cs_S → Prop) (G : Nat → Nat) : Nat → cs_S → Nat → Int32 → Int32 → Int32 → Int32 → Int32 → Int32 → Int32 → Prop
  | 0, _, _, _, _, _, _, _, _, _ => False
  | n + 1, S, x0, x1, x2, x3, x4, x5, x6, x7 => cs_k S x0 = 10 ∧ ((cs_i S 905 x0) ≤ x2 → w_X8_scanAddress_196 post G S x0 x1 x2 x3 x4 x5 x6 x7) ∧ (¬ (cs_i S 905 x0) ≤ x2 → ∀ r42, r42 = cs_r S 904 x0 → ∃ b43, r42 = some b43 ∧ cs_k S b43 = 20 ∧ vp_in x2 (cs_n S b43) ∧ wp_X11_isLetter (fun r45 S45 => (¬ r45 = 0 → w_X8_scanAddress_59 post G (w_X8_scanAddress_16 post G n) S45 x0 x1 x2 x3 x4 x5 x6 x7) ∧ (r45 = 0 → cs_k S45 x0 = 10 ∧ ∀ r47, r47 = cs_r S45 904 x0 → ∃ b48, r47 = some b48 ∧ cs_k S45 b48 = 20 ∧ vp_in x2 (cs_n S45 b48) ∧ wp_X11_isDigit (fun r50 S50 => (¬ r50 = 0 → w_X8_scanAddress_59 post G (w_X8_scanAddress_16 post G n) S50 x0 x1 x2 x3 x4 x5 x6 x7) ∧ (r50 = 0 → cs_k S50 x0 = 10 ∧ ∀ r52, r52 = cs_r S50 904 x0 → ∃ b53, r52 = some b53 ∧ cs_k S50 b53 = 20 ∧ vp_in x2 (cs_n S50 b53) ∧ (¬ (cs_ai S50 b53 x2.toNatClampNeg) = 46 → w_X8_scanAddress_196 post G S50 x0 x1 x2 x3 x4 x5 x6 x7) ∧ ((cs_ai S50 b53 x2.toNatClampNeg) = 46 → w_X8_scanAddress_59 post G (w_X8_scanAddress_16 post G n) S50 x0 x1 x2 x3 x4 x5 x6 x7))) G S45 (cs_ai S45 b48 x2.toNatClampNeg))) G S (cs_ai S b43 x2.toNatClampNeg))
section
variable {p : Program} {l : Launch} {e : Env} {s : State} {m : MethodId} {args : Array Value} {below : List Frame} {meth : Method} {c : Code} {P : hw_G} {G : Nat → Nat} {A : Nat → Prop}
set_option maxRecDepth 100000 in
set_option maxHeartbeats 4000000 in
theorem t_X8_scanAddress_16 {post : Int32 → cs_S → Prop} (hC : rf_C P RX8 p s m meth c cX8_scanAddress 8 (some .int)) (hin : meth.name = yX8_scanAddress.name) (hO : cs_O G A s s.heap) : ∀ (n : Nat) (S : cs_S) (x0 : Nat) (x1 : Int32) (x2 : Int32) (x3 : Int32) (x4 : Int32) (x5 : Int32) (x6 : Int32) (x7 : Int32) (H : Heap) (locs : List Loc) (ls : Array Slot), w_X8_scanAddress_16 post G n S x0 x1 x2 x3 x4 x5 x6 x7 → cs_T P s A S H locs → lv_has ls 8 [(0, .ref x0), (1, .int x1), (2, .int x2), (3, .int x3), (4, .int x4), (5, .int x5), (6, .int x6), (7, .int x7)] → W p l e rm_X8_scanAddress s m args below meth c H locs 0 0 (MQ below (cs_Qi P A post) args s 0 0 A) (F0 m 16 ls []) := by
  obtain ⟨hx, hb, hml, hown, hK, -, -⟩ := id hC
  intro n
  induction n with
  | zero => intro S x0 x1 x2 x3 x4 x5 x6 x7 H locs ls h; exact False.elim h
  | succ n ih =>
    intro S x0 x1 x2 x3 x4 x5 x6 x7 H locs ls h hT hl
    refine lv_iload_n hx hb dX8_scanAddress_16 rfl (lv_at hl 2 rfl) ?_
    refine lv_aload_n (x := x0) hx hb dX8_scanAddress_17 rfl (lv_at hl 0 rfl) ?_
    obtain ⟨hk41_, h⟩ := h
    refine cs_get hx hb hK hT hown 9 hk41_ (by decide) rfl 5 (by decide) kfX8_53 (v := .int (cs_i S 905 x0)) rfl dX8_scanAddress_18 ?_
    refine lv_icmp_ge (tgt := 196) hx hb dX8_scanAddress_21 (by decide) (fun hc => ?_) (fun hc => ?_)
    · replace h := h.1 hc
      exact t_X8_scanAddress_196 hC hin hO S x0 x1 x2 x3 x4 x5 x6 x7 _ _ _ h hT (lv_sub hl [0, 1, 2, 3, 4, 5, 6, 7] rfl)
    · replace h := h.2 hc
      refine lv_aload_n (x := x0) hx hb dX8_scanAddress_24 rfl (lv_at hl 0 rfl) ?_
      refine cs_get hx hb hK hT hown 9 hk41_ (by decide) rfl 4 (by decide) kfX8_28 (v := va_rf (cs_r S 904 x0)) rfl dX8_scanAddress_25 ?_
      refine hw_topr (fun r42 er42 => ?_)
      replace h := h r42 er42
      refine lv_iload_n hx hb dX8_scanAddress_28 rfl (lv_at hl 2 rfl) ?_
      obtain ⟨b43, rfl, h⟩ := h
      obtain ⟨hk44_, h⟩ := h
      obtain ⟨hi, h⟩ := h
      refine cs_iald hx hb hK hT hk44_ hi dX8_scanAddress_29 ?_
      refine cs_calli0 (cs_runSN hx hb hml hown hK hO hT (c_X11_isLetter h) rfl rfl klnX8_71 ki_X11_isLetter kn_X11 kc_X11_isLetter 1 ⟨by decide, by decide, by decide +kernel⟩ ⟨by decide, by decide⟩ rfl hl.1 rfl (hw_cat8 (Nat.le_of_ble_eq_true rfl)) ⟨(Nat.le_refl _), (Nat.le_refl _)⟩ dX8_scanAddress_30) hT (fun r45 S45 H locs h_ hT_ => ?_)
      replace h := h_
      replace hT := hT_
      refine lv_if_ne (tgt := 59) hx hb dX8_scanAddress_33 (by decide) (fun hc => ?_) (fun hc => ?_)
      · replace h := h.1 hc
        exact t_X8_scanAddress_59 hC hin hO ih S45 x0 x1 x2 x3 x4 x5 x6 x7 _ _ _ h hT (lv_sub hl [0, 1, 2, 3, 4, 5, 6, 7] rfl)
      · replace h := h.2 hc
        refine lv_aload_n (x := x0) hx hb dX8_scanAddress_36 rfl (lv_at hl 0 rfl) ?_
        obtain ⟨hk46_, h⟩ := h
        refine cs_get hx hb hK hT hown 9 hk46_ (by decide) rfl 4 (by decide) kfX8_28 (v := va_rf (cs_r S45 904 x0)) rfl dX8_scanAddress_37 ?_
        refine hw_topr (fun r47 er47 => ?_)
        replace h := h r47 er47
        refine lv_iload_n hx hb dX8_scanAddress_40 rfl (lv_at hl 2 rfl) ?_
        obtain ⟨b48, rfl, h⟩ := h
        obtain ⟨hk49_, h⟩ := h
        obtain ⟨hi, h⟩ := h
        refine cs_iald hx hb hK hT hk49_ hi dX8_scanAddress_41 ?_
        refine cs_calli0 (cs_runSN hx hb hml hown hK hO hT (c_X11_isDigit h) rfl rfl klnX8_84 ki_X11_isDigit kn_X11 kc_X11_isDigit 1 ⟨by decide, by decide, by decide +kernel⟩ ⟨by decide, by decide⟩ rfl hl.1 rfl (hw_cat8 (Nat.le_of_ble_eq_true rfl)) ⟨(Nat.le_refl _), (Nat.le_refl _)⟩ dX8_scanAddress_42) hT (fun r50 S50 H locs h_ hT_ => ?_)
        replace h := h_
        replace hT := hT_
        refine lv_if_ne (tgt := 59) hx hb dX8_scanAddress_45 (by decide) (fun hc => ?_) (fun hc => ?_)
        · replace h := h.1 hc
          exact t_X8_scanAddress_59 hC hin hO ih S50 x0 x1 x2 x3 x4 x5 x6 x7 _ _ _ h hT (lv_sub hl [0, 1, 2, 3, 4, 5, 6, 7] rfl)
        · replace h := h.2 hc
          refine lv_aload_n (x := x0) hx hb dX8_scanAddress_48 rfl (lv_at hl 0 rfl) ?_
          obtain ⟨hk51_, h⟩ := h
          refine cs_get hx hb hK hT hown 9 hk51_ (by decide) rfl 4 (by decide) kfX8_28 (v := va_rf (cs_r S50 904 x0)) rfl dX8_scanAddress_49 ?_
          refine hw_topr (fun r52 er52 => ?_)
          replace h := h r52 er52
          refine lv_iload_n hx hb dX8_scanAddress_52 rfl (lv_at hl 2 rfl) ?_
          obtain ⟨b53, rfl, h⟩ := h
          obtain ⟨hk54_, h⟩ := h
          obtain ⟨hi, h⟩ := h
          refine cs_iald hx hb hK hT hk54_ hi dX8_scanAddress_53 ?_
          refine lv_bipush (v := 46) hx hb dX8_scanAddress_54 (by decide) ?_
          refine lv_icmp_ne (tgt := 196) hx hb dX8_scanAddress_56 (by decide) (fun hc => ?_) (fun hc => ?_)
          · replace h := h.1 hc
            exact t_X8_scanAddress_196 hC hin hO S50 x0 x1 x2 x3 x4 x5 x6 x7 _ _ _ h hT (lv_sub hl [0, 1, 2, 3, 4, 5, 6, 7] rfl)
          · replace h := h.2 hc
            exact t_X8_scanAddress_59 hC hin hO ih S50 x0 x1 x2 x3 x4 x5 x6 x7 _ _ _ h hT (lv_sub hl [0, 1, 2, 3, 4, 5, 6, 7] rfl)
end
def wp_X8_scanAddress (post : Int32 → cs_S → Prop) (G : Nat → Nat) (S : cs_S) (o : Nat) (p1 : Int32) : Prop := ∃ n9, w_X8_scanAddress_16 post G n9 S o p1 p1 0 0 0 0 1
set_option maxRecDepth 100000 in
set_option maxHeartbeats 4000000 in
theorem c_X8_scanAddress {l : Launch} {P : hw_G} {G : Nat → Nat} {S : cs_S} {sz : Nat} {o : Nat} {p1 : Int32} {post : Int32 → cs_S → Prop} (h : wp_X8_scanAddress post G S o p1) : Met l yX8_scanAddress [Cond.code yX8_scanAddress cX8_scanAddress 8 (some .int)] rm_X8_scanAddress (cs_Pc P G S sz [.ref o, .int p1]) (cs_Qi P (cs_A S sz) post) 0 0 (cs_A S sz) := by
  refine cs_met (by decide) rfl (Nat.le_of_ble_eq_true rfl) ?_
  intro p e s m below meth c ls hC hin hO hT hl
  obtain ⟨hx, hb, hml, hown, hK, -, -⟩ := id hC
  replace hl : lv_has ls 8 [(0, .ref o), (1, .int p1)] := hl
  refine lv_iload_n hx hb dX8_scanAddress_0 rfl (lv_at hl 1 rfl) ?_
  refine lv_istore_n (lv' := [(2, _), (0, _), (1, _)]) hx hb dX8_scanAddress_1 rfl hl (by decide) rfl (fun ls hl_ => ?_)
  replace hl := hl_
  refine lv_iconst (v := 0) hx hb dX8_scanAddress_2 (by decide) ?_
  refine lv_istore_n (lv' := [(3, _), (2, _), (0, _), (1, _)]) hx hb dX8_scanAddress_3 rfl hl (by decide) rfl (fun ls hl_ => ?_)
  replace hl := hl_
  refine lv_iconst (v := 0) hx hb dX8_scanAddress_4 (by decide) ?_
  refine lv_istore (lv' := [(4, _), (3, _), (2, _), (0, _), (1, _)]) hx hb dX8_scanAddress_5 hl (by decide) rfl (fun ls hl_ => ?_)
  replace hl := hl_
  refine lv_iconst (v := 0) hx hb dX8_scanAddress_7 (by decide) ?_
  refine lv_istore (lv' := [(5, _), (4, _), (3, _), (2, _), (0, _), (1, _)]) hx hb dX8_scanAddress_8 hl (by decide) rfl (fun ls hl_ => ?_)
  replace hl := hl_
  refine lv_iconst (v := 0) hx hb dX8_scanAddress_10 (by decide) ?_
  refine lv_istore (lv' := [(6, _), (5, _), (4, _), (3, _), (2, _), (0, _), (1, _)]) hx hb dX8_scanAddress_11 hl (by decide) rfl (fun ls hl_ => ?_)
  replace hl := hl_
  refine lv_iconst (v := 1) hx hb dX8_scanAddress_13 (by decide) ?_
  refine lv_istore (lv' := [(7, _), (6, _), (5, _), (4, _), (3, _), (2, _), (0, _), (1, _)]) hx hb dX8_scanAddress_14 hl (by decide) rfl (fun ls hl_ => ?_)
  replace hl := hl_
  obtain ⟨n9, h⟩ := h
  exact t_X8_scanAddress_16 hC hin hO n9 S o p1 p1 0 0 0 0 1 _ _ _ h hT (lv_sub hl [6, 7, 5, 4, 3, 2, 1, 0] rfl)
/-! X8_scanSign -/
abbrev rm_X8_scanSign : Room := { frames := 1, cells := 0, slots := 0, locals := 24 }
def w_X8_scanSign_274 (post : Int32 → cs_S → Prop) (G : Nat → Nat) (S : cs_S) (x0 : Nat) (x1 : Int32) (x4 : Int32) (x5 : Int32) : Prop := (¬ x4 = 0 → cs_k S x0 = 10 ∧ wp_X8_put (fun S5 => post (x1 + x5) S5) G S x0 x4 x1 0) ∧ (x4 = 0 → post ((-1)) S)
section
variable {p : Program} {l : Launch} {e : Env} {s : State} {m : MethodId} {args : Array Value} {below : List Frame} {meth : Method} {c : Code} {P : hw_G} {G : Nat → Nat} {A : Nat → Prop}
set_option maxRecDepth 100000 in
set_option maxHeartbeats 4000000 in
theorem t_X8_scanSign_274 {post : Int32 → cs_S → Prop} (hC : rf_C P RX8 p s m meth c cX8_scanSign 6 (some .int)) (hin : meth.name = yX8_scanSign.name) (hO : cs_O G A s s.heap) (S : cs_S) (x0 : Nat) (x1 : Int32) (x4 : Int32) (x5 : Int32) (H : Heap) (locs : List Loc) (ls : Array Slot) (h : w_X8_scanSign_274 post G S x0 x1 x4 x5) (hT : cs_T P s A S H locs) (hl : lv_has ls 6 [(0, .ref x0), (1, .int x1), (4, .int x4), (5, .int x5)]) : W p l e rm_X8_scanSign s m args below meth c H locs 0 0 (MQ below (cs_Qi P A post) args s 0 0 A) (F0 m 274 ls []) := by
  obtain ⟨hx, hb, hml, hown, hK, -, -⟩ := id hC
  refine lv_iload hx hb dX8_scanSign_274 (lv_at hl 2 rfl) ?_
  refine lv_if_ne (tgt := 281) hx hb dX8_scanSign_276 (by decide) (fun hc => ?_) (fun hc => ?_)
  · replace h := h.1 hc
    refine lv_aload_n (x := x0) hx hb dX8_scanSign_281 rfl (lv_at hl 0 rfl) ?_
    refine lv_iload hx hb dX8_scanSign_282 (lv_at hl 2 rfl) ?_
    refine lv_iload_n hx hb dX8_scanSign_284 rfl (lv_at hl 1 rfl) ?_
    refine lv_lconst (v := 0) hx hb dX8_scanSign_285 (by decide) ?_
    obtain ⟨hk6_, h⟩ := h
    refine cs_callv0 (cs_runV hx hb hml hown hK hO hT 9 hk6_ (by decide) rfl (c_X8_put h) rfl rfl klX8_64 ki_X8_put ks_X8_put kn_X8 kc_X8_put 3 ⟨rfl, by decide, by decide, by decide +kernel⟩ ⟨by decide, by decide⟩ rfl hl.1 rfl (hw_cat8 (Nat.le_of_ble_eq_true rfl)) ⟨(Nat.le_refl _), (Nat.le_refl _)⟩ dX8_scanSign_286) hT (fun S5 H locs h_ hT_ => ?_)
    replace h := h_
    replace hT := hT_
    refine lv_iload_n hx hb dX8_scanSign_289 rfl (lv_at hl 1 rfl) ?_
    refine lv_iload hx hb dX8_scanSign_290 (lv_at hl 3 rfl) ?_
    refine lv_iadd hx hb dX8_scanSign_292 ?_
    exact cs_iret hC hT h dX8_scanSign_293 (Nat.le_refl _) (Nat.le_refl _)
  · replace h := h.2 hc
    refine lv_iconst (v := (-1)) hx hb dX8_scanSign_279 (by decide) ?_
    exact cs_iret hC hT h dX8_scanSign_280 (Nat.le_refl _) (Nat.le_refl _)
end
def w_X8_scanSign_212 (post : Int32 → cs_S → Prop) (G : Nat → Nat) (S : cs_S) (x0 : Nat) (x1 : Int32) (y0 : Int32) : Prop := w_X8_scanSign_274 post G S x0 x1 y0 2
section
variable {p : Program} {l : Launch} {e : Env} {s : State} {m : MethodId} {args : Array Value} {below : List Frame} {meth : Method} {c : Code} {P : hw_G} {G : Nat → Nat} {A : Nat → Prop}
set_option maxRecDepth 100000 in
set_option maxHeartbeats 4000000 in
theorem t_X8_scanSign_212 {post : Int32 → cs_S → Prop} (hC : rf_C P RX8 p s m meth c cX8_scanSign 6 (some .int)) (hin : meth.name = yX8_scanSign.name) (hO : cs_O G A s s.heap) (S : cs_S) (x0 : Nat) (x1 : Int32) (y0 : Int32) (H : Heap) (locs : List Loc) (ls : Array Slot) (h : w_X8_scanSign_212 post G S x0 x1 y0) (hT : cs_T P s A S H locs) (hl : lv_has ls 6 [(0, .ref x0), (1, .int x1)]) : W p l e rm_X8_scanSign s m args below meth c H locs 0 0 (MQ below (cs_Qi P A post) args s 0 0 A) (F0 m 212 ls [.int y0]) := by
  obtain ⟨hx, hb, hml, hown, hK, -, -⟩ := id hC
  refine lv_istore (lv' := [(4, _), (0, _), (1, _)]) hx hb dX8_scanSign_212 hl (by decide) rfl (fun ls hl_ => ?_)
  replace hl := hl_
  refine lv_iconst (v := 2) hx hb dX8_scanSign_214 (by decide) ?_
  refine lv_istore (lv' := [(5, _), (4, _), (0, _), (1, _)]) hx hb dX8_scanSign_215 hl (by decide) rfl (fun ls hl_ => ?_)
  replace hl := hl_
  refine lv_goto (tgt := 274) hx hb dX8_scanSign_217 (by decide) ?_
  exact t_X8_scanSign_274 hC hin hO S x0 x1 y0 2 _ _ _ h hT (lv_sub hl [2, 3, 1, 0] rfl)
end
def w_X8_scanSign_242 (post : Int32 → cs_S → Prop) (G : Nat → Nat) (S : cs_S) (x0 : Nat) (x1 : Int32) (x4 : Int32) (y0 : Int32) : Prop := w_X8_scanSign_274 post G S x0 x1 x4 y0
section
variable {p : Program} {l : Launch} {e : Env} {s : State} {m : MethodId} {args : Array Value} {below : List Frame} {meth : Method} {c : Code} {P : hw_G} {G : Nat → Nat} {A : Nat → Prop}
set_option maxRecDepth 100000 in
set_option maxHeartbeats 4000000 in
theorem t_X8_scanSign_242 {post : Int32 → cs_S → Prop} (hC : rf_C P RX8 p s m meth c cX8_scanSign 6 (some .int)) (hin : meth.name = yX8_scanSign.name) (hO : cs_O G A s s.heap) (S : cs_S) (x0 : Nat) (x1 : Int32) (x4 : Int32) (y0 : Int32) (H : Heap) (locs : List Loc) (ls : Array Slot) (h : w_X8_scanSign_242 post G S x0 x1 x4 y0) (hT : cs_T P s A S H locs) (hl : lv_has ls 6 [(0, .ref x0), (1, .int x1), (4, .int x4)]) : W p l e rm_X8_scanSign s m args below meth c H locs 0 0 (MQ below (cs_Qi P A post) args s 0 0 A) (F0 m 242 ls [.int y0]) := by
  obtain ⟨hx, hb, hml, hown, hK, -, -⟩ := id hC
  refine lv_istore (lv' := [(5, _), (0, _), (1, _), (4, _)]) hx hb dX8_scanSign_242 hl (by decide) rfl (fun ls hl_ => ?_)
  replace hl := hl_
  refine lv_goto (tgt := 274) hx hb dX8_scanSign_244 (by decide) ?_
  exact t_X8_scanSign_274 hC hin hO S x0 x1 x4 y0 _ _ _ h hT (lv_sub hl [1, 2, 3, 0] rfl)
end
def w_X8_scanSign_231 (post : Int32 → cs_S → Prop) (G : Nat → Nat) (S : cs_S) (x0 : Nat) (x1 : Int32) (x3 : Int32) (y0 : Int32) : Prop := (x3 = 0 → w_X8_scanSign_242 post G S x0 x1 y0 1) ∧ (¬ x3 = 0 → w_X8_scanSign_242 post G S x0 x1 y0 2)
section
variable {p : Program} {l : Launch} {e : Env} {s : State} {m : MethodId} {args : Array Value} {below : List Frame} {meth : Method} {c : Code} {P : hw_G} {G : Nat → Nat} {A : Nat → Prop}
set_option maxRecDepth 100000 in
set_option maxHeartbeats 4000000 in
theorem t_X8_scanSign_231 {post : Int32 → cs_S → Prop} (hC : rf_C P RX8 p s m meth c cX8_scanSign 6 (some .int)) (hin : meth.name = yX8_scanSign.name) (hO : cs_O G A s s.heap) (S : cs_S) (x0 : Nat) (x1 : Int32) (x3 : Int32) (y0 : Int32) (H : Heap) (locs : List Loc) (ls : Array Slot) (h : w_X8_scanSign_231 post G S x0 x1 x3 y0) (hT : cs_T P s A S H locs) (hl : lv_has ls 6 [(0, .ref x0), (1, .int x1), (3, .int x3)]) : W p l e rm_X8_scanSign s m args below meth c H locs 0 0 (MQ below (cs_Qi P A post) args s 0 0 A) (F0 m 231 ls [.int y0]) := by
  obtain ⟨hx, hb, hml, hown, hK, -, -⟩ := id hC
  refine lv_istore (lv' := [(4, _), (0, _), (1, _), (3, _)]) hx hb dX8_scanSign_231 hl (by decide) rfl (fun ls hl_ => ?_)
  replace hl := hl_
  refine lv_iload_n hx hb dX8_scanSign_233 rfl (lv_at hl 3 rfl) ?_
  refine lv_if_eq (tgt := 241) hx hb dX8_scanSign_234 (by decide) (fun hc => ?_) (fun hc => ?_)
  · replace h := h.1 hc
    refine lv_iconst (v := 1) hx hb dX8_scanSign_241 (by decide) ?_
    exact t_X8_scanSign_242 hC hin hO S x0 x1 y0 1 _ _ _ h hT (lv_sub hl [1, 2, 0] rfl)
  · replace h := h.2 hc
    refine lv_iconst (v := 2) hx hb dX8_scanSign_237 (by decide) ?_
    refine lv_goto (tgt := 242) hx hb dX8_scanSign_238 (by decide) ?_
    exact t_X8_scanSign_242 hC hin hO S x0 x1 y0 2 _ _ _ h hT (lv_sub hl [1, 2, 0] rfl)
end
def w_X8_scanSign_269 (post : Int32 → cs_S → Prop) (G : Nat → Nat) (S : cs_S) (x0 : Nat) (x1 : Int32) (x4 : Int32) (y0 : Int32) : Prop := w_X8_scanSign_274 post G S x0 x1 x4 y0
section
variable {p : Program} {l : Launch} {e : Env} {s : State} {m : MethodId} {args : Array Value} {below : List Frame} {meth : Method} {c : Code} {P : hw_G} {G : Nat → Nat} {A : Nat → Prop}
set_option maxRecDepth 100000 in
set_option maxHeartbeats 4000000 in
theorem t_X8_scanSign_269 {post : Int32 → cs_S → Prop} (hC : rf_C P RX8 p s m meth c cX8_scanSign 6 (some .int)) (hin : meth.name = yX8_scanSign.name) (hO : cs_O G A s s.heap) (S : cs_S) (x0 : Nat) (x1 : Int32) (x4 : Int32) (y0 : Int32) (H : Heap) (locs : List Loc) (ls : Array Slot) (h : w_X8_scanSign_269 post G S x0 x1 x4 y0) (hT : cs_T P s A S H locs) (hl : lv_has ls 6 [(0, .ref x0), (1, .int x1), (4, .int x4)]) : W p l e rm_X8_scanSign s m args below meth c H locs 0 0 (MQ below (cs_Qi P A post) args s 0 0 A) (F0 m 269 ls [.int y0]) := by
  obtain ⟨hx, hb, hml, hown, hK, -, -⟩ := id hC
  refine lv_istore (lv' := [(5, _), (0, _), (1, _), (4, _)]) hx hb dX8_scanSign_269 hl (by decide) rfl (fun ls hl_ => ?_)
  replace hl := hl_
  refine lv_goto (tgt := 274) hx hb dX8_scanSign_271 (by decide) ?_
  exact t_X8_scanSign_274 hC hin hO S x0 x1 x4 y0 _ _ _ h hT (lv_sub hl [1, 2, 3, 0] rfl)
end
def w_X8_scanSign_258 (post : Int32 → cs_S → Prop) (G : Nat → Nat) (S : cs_S) (x0 : Nat) (x1 : Int32) (x3 : Int32) (y0 : Int32) : Prop := (x3 = 0 → w_X8_scanSign_269 post G S x0 x1 y0 1) ∧ (¬ x3 = 0 → w_X8_scanSign_269 post G S x0 x1 y0 2)
section
variable {p : Program} {l : Launch} {e : Env} {s : State} {m : MethodId} {args : Array Value} {below : List Frame} {meth : Method} {c : Code} {P : hw_G} {G : Nat → Nat} {A : Nat → Prop}
set_option maxRecDepth 100000 in
set_option maxHeartbeats 4000000 in
theorem t_X8_scanSign_258 {post : Int32 → cs_S → Prop} (hC : rf_C P RX8 p s m meth c cX8_scanSign 6 (some .int)) (hin : meth.name = yX8_scanSign.name) (hO : cs_O G A s s.heap) (S : cs_S) (x0 : Nat) (x1 : Int32) (x3 : Int32) (y0 : Int32) (H : Heap) (locs : List Loc) (ls : Array Slot) (h : w_X8_scanSign_258 post G S x0 x1 x3 y0) (hT : cs_T P s A S H locs) (hl : lv_has ls 6 [(0, .ref x0), (1, .int x1), (3, .int x3)]) : W p l e rm_X8_scanSign s m args below meth c H locs 0 0 (MQ below (cs_Qi P A post) args s 0 0 A) (F0 m 258 ls [.int y0]) := by
  obtain ⟨hx, hb, hml, hown, hK, -, -⟩ := id hC
  refine lv_istore (lv' := [(4, _), (0, _), (1, _), (3, _)]) hx hb dX8_scanSign_258 hl (by decide) rfl (fun ls hl_ => ?_)
  replace hl := hl_
  refine lv_iload_n hx hb dX8_scanSign_260 rfl (lv_at hl 3 rfl) ?_
  refine lv_if_eq (tgt := 268) hx hb dX8_scanSign_261 (by decide) (fun hc => ?_) (fun hc => ?_)
  · replace h := h.1 hc
    refine lv_iconst (v := 1) hx hb dX8_scanSign_268 (by decide) ?_
    exact t_X8_scanSign_269 hC hin hO S x0 x1 y0 1 _ _ _ h hT (lv_sub hl [1, 2, 0] rfl)
  · replace h := h.2 hc
    refine lv_iconst (v := 2) hx hb dX8_scanSign_264 (by decide) ?_
    refine lv_goto (tgt := 269) hx hb dX8_scanSign_265 (by decide) ?_
    exact t_X8_scanSign_269 hC hin hO S x0 x1 y0 2 _ _ _ h hT (lv_sub hl [1, 2, 0] rfl)
end
def w_X8_scanSign_17 (post : Int32 → cs_S → Prop) (G : Nat → Nat) (S : cs_S) (x0 : Nat) (x1 : Int32) (x2 : Int32) (y0 : Int32) : Prop := (x2.toInt < 33 ∨ 62 < x2.toInt → w_X8_scanSign_274 post G S x0 x1 0 1) ∧ (x2.toInt = 33 → (y0 = 0 → w_X8_scanSign_212 post G S x0 x1 0) ∧ (¬ y0 = 0 → w_X8_scanSign_212 post G S x0 x1 12)) ∧ (x2.toInt = 34 → w_X8_scanSign_274 post G S x0 x1 0 1) ∧ (x2.toInt = 35 → w_X8_scanSign_274 post G S x0 x1 0 1) ∧ (x2.toInt = 36 → w_X8_scanSign_274 post G S x0 x1 0 1) ∧ (x2.toInt = 37 → w_X8_scanSign_274 post G S x0 x1 0 1) ∧ (x2.toInt = 38 → w_X8_scanSign_274 post G S x0 x1 0 1) ∧ (x2.toInt = 39 → w_X8_scanSign_274 post G S x0 x1 0 1) ∧ (x2.toInt = 40 → w_X8_scanSign_274 post G S x0 x1 6 1) ∧ (x2.toInt = 41 → w_X8_scanSign_274 post G S x0 x1 7 1) ∧ (x2.toInt = 42 → w_X8_scanSign_274 post G S x0 x1 0 1) ∧ (x2.toInt = 43 → w_X8_scanSign_274 post G S x0 x1 0 1) ∧ (x2.toInt = 44 → w_X8_scanSign_274 post G S x0 x1 8 1) ∧ (x2.toInt = 45 → w_X8_scanSign_274 post G S x0 x1 0 1) ∧ (x2.toInt = 46 → w_X8_scanSign_274 post G S x0 x1 0 1) ∧ (x2.toInt = 47 → w_X8_scanSign_274 post G S x0 x1 10 1) ∧ (x2.toInt = 48 → w_X8_scanSign_274 post G S x0 x1 0 1) ∧ (x2.toInt = 49 → w_X8_scanSign_274 post G S x0 x1 0 1) ∧ (x2.toInt = 50 → w_X8_scanSign_274 post G S x0 x1 0 1) ∧ (x2.toInt = 51 → w_X8_scanSign_274 post G S x0 x1 0 1) ∧ (x2.toInt = 52 → w_X8_scanSign_274 post G S x0 x1 0 1) ∧ (x2.toInt = 53 → w_X8_scanSign_274 post G S x0 x1 0 1) ∧ (x2.toInt = 54 → w_X8_scanSign_274 post G S x0 x1 0 1) ∧ (x2.toInt = 55 → w_X8_scanSign_274 post G S x0 x1 0 1) ∧ (x2.toInt = 56 → w_X8_scanSign_274 post G S x0 x1 0 1) ∧ (x2.toInt = 57 → w_X8_scanSign_274 post G S x0 x1 0 1) ∧ (x2.toInt = 58 → w_X8_scanSign_274 post G S x0 x1 0 1) ∧ (x2.toInt = 59 → w_X8_scanSign_274 post G S x0 x1 9 1) ∧ (x2.toInt = 60 → (y0 = 0 → w_X8_scanSign_231 post G S x0 x1 y0 13) ∧ (¬ y0 = 0 → w_X8_scanSign_231 post G S x0 x1 y0 14)) ∧ (x2.toInt = 61 → w_X8_scanSign_274 post G S x0 x1 11 1) ∧ (x2.toInt = 62 → (y0 = 0 → w_X8_scanSign_258 post G S x0 x1 y0 15) ∧ (¬ y0 = 0 → w_X8_scanSign_258 post G S x0 x1 y0 16))
section
variable {p : Program} {l : Launch} {e : Env} {s : State} {m : MethodId} {args : Array Value} {below : List Frame} {meth : Method} {c : Code} {P : hw_G} {G : Nat → Nat} {A : Nat → Prop}
set_option maxRecDepth 100000 in
set_option maxHeartbeats 4000000 in
theorem t_X8_scanSign_17 {post : Int32 → cs_S → Prop} (hC : rf_C P RX8 p s m meth c cX8_scanSign 6 (some .int)) (hin : meth.name = yX8_scanSign.name) (hO : cs_O G A s s.heap) (S : cs_S) (x0 : Nat) (x1 : Int32) (x2 : Int32) (y0 : Int32) (H : Heap) (locs : List Loc) (ls : Array Slot) (h : w_X8_scanSign_17 post G S x0 x1 x2 y0) (hT : cs_T P s A S H locs) (hl : lv_has ls 6 [(0, .ref x0), (1, .int x1), (2, .int x2)]) : W p l e rm_X8_scanSign s m args below meth c H locs 0 0 (MQ below (cs_Qi P A post) args s 0 0 A) (F0 m 17 ls [.int y0]) := by
  obtain ⟨hx, hb, hml, hown, hK, -, -⟩ := id hC
  refine lv_istore_n (lv' := [(3, _), (0, _), (1, _), (2, _)]) hx hb dX8_scanSign_17 rfl hl (by decide) rfl (fun ls hl_ => ?_)
  replace hl := hl_
  refine lv_iconst (v := 0) hx hb dX8_scanSign_18 (by decide) ?_
  refine lv_istore (lv' := [(4, _), (3, _), (0, _), (1, _), (2, _)]) hx hb dX8_scanSign_19 hl (by decide) rfl (fun ls hl_ => ?_)
  replace hl := hl_
  refine lv_iconst (v := 1) hx hb dX8_scanSign_21 (by decide) ?_
  refine lv_istore (lv' := [(5, _), (4, _), (3, _), (0, _), (1, _), (2, _)]) hx hb dX8_scanSign_22 hl (by decide) rfl (fun ls hl_ => ?_)
  replace hl := hl_
  refine lv_iload_n hx hb dX8_scanSign_24 rfl (lv_at hl 5 rfl) ?_
  by_cases hz : x2.toInt < 33 ∨ 62 < x2.toInt
  · replace h := h.1 hz
    refine lv_tableOut (tgt := 274) hx hb dX8_scanSign_25 hz (by decide) ?_
    exact t_X8_scanSign_274 hC hin hO S x0 x1 0 1 _ _ _ h hT (lv_sub hl [3, 4, 1, 0] rfl)
  have hz : x2.toInt = 33 ∨ x2.toInt = 34 ∨ x2.toInt = 35 ∨ x2.toInt = 36 ∨ x2.toInt = 37 ∨ x2.toInt = 38 ∨ x2.toInt = 39 ∨ x2.toInt = 40 ∨ x2.toInt = 41 ∨ x2.toInt = 42 ∨ x2.toInt = 43 ∨ x2.toInt = 44 ∨ x2.toInt = 45 ∨ x2.toInt = 46 ∨ x2.toInt = 47 ∨ x2.toInt = 48 ∨ x2.toInt = 49 ∨ x2.toInt = 50 ∨ x2.toInt = 51 ∨ x2.toInt = 52 ∨ x2.toInt = 53 ∨ x2.toInt = 54 ∨ x2.toInt = 55 ∨ x2.toInt = 56 ∨ x2.toInt = 57 ∨ x2.toInt = 58 ∨ x2.toInt = 59 ∨ x2.toInt = 60 ∨ x2.toInt = 61 ∨ x2.toInt = 62 := by omega
  rcases hz with hz | hz | hz | hz | hz | hz | hz | hz | hz | hz | hz | hz | hz | hz | hz | hz | hz | hz | hz | hz | hz | hz | hz | hz | hz | hz | hz | hz | hz | hz
  · replace h := h.2.1 hz
    refine hw_tab (tgt := 202) hx hb hz dX8_scanSign_25 (by decide) (by decide) (off := 177) rfl (by decide) ?_
    refine lv_iload_n hx hb dX8_scanSign_202 rfl (lv_at hl 2 rfl) ?_
    refine lv_if_eq (tgt := 211) hx hb dX8_scanSign_203 (by decide) (fun hc => ?_) (fun hc => ?_)
    · replace h := h.1 hc
      refine lv_iconst (v := 0) hx hb dX8_scanSign_211 (by decide) ?_
      exact t_X8_scanSign_212 hC hin hO S x0 x1 0 _ _ _ h hT (lv_sub hl [3, 4] rfl)
    · replace h := h.2 hc
      refine lv_bipush (v := 12) hx hb dX8_scanSign_206 (by decide) ?_
      refine lv_goto (tgt := 212) hx hb dX8_scanSign_208 (by decide) ?_
      exact t_X8_scanSign_212 hC hin hO S x0 x1 12 _ _ _ h hT (lv_sub hl [3, 4] rfl)
  · replace h := h.2.2.1 hz
    refine hw_tab (tgt := 274) hx hb hz dX8_scanSign_25 (by decide) (by decide) (off := 249) rfl (by decide) ?_
    exact t_X8_scanSign_274 hC hin hO S x0 x1 0 1 _ _ _ h hT (lv_sub hl [3, 4, 1, 0] rfl)
  · replace h := h.2.2.2.1 hz
    refine hw_tab (tgt := 274) hx hb hz dX8_scanSign_25 (by decide) (by decide) (off := 249) rfl (by decide) ?_
    exact t_X8_scanSign_274 hC hin hO S x0 x1 0 1 _ _ _ h hT (lv_sub hl [3, 4, 1, 0] rfl)
  · replace h := h.2.2.2.2.1 hz
    refine hw_tab (tgt := 274) hx hb hz dX8_scanSign_25 (by decide) (by decide) (off := 249) rfl (by decide) ?_
    exact t_X8_scanSign_274 hC hin hO S x0 x1 0 1 _ _ _ h hT (lv_sub hl [3, 4, 1, 0] rfl)
  · replace h := h.2.2.2.2.2.1 hz
    refine hw_tab (tgt := 274) hx hb hz dX8_scanSign_25 (by decide) (by decide) (off := 249) rfl (by decide) ?_
    exact t_X8_scanSign_274 hC hin hO S x0 x1 0 1 _ _ _ h hT (lv_sub hl [3, 4, 1, 0] rfl)
  · replace h := h.2.2.2.2.2.2.1 hz
    refine hw_tab (tgt := 274) hx hb hz dX8_scanSign_25 (by decide) (by decide) (off := 249) rfl (by decide) ?_
    exact t_X8_scanSign_274 hC hin hO S x0 x1 0 1 _ _ _ h hT (lv_sub hl [3, 4, 1, 0] rfl)
  · replace h := h.2.2.2.2.2.2.2.1 hz
    refine hw_tab (tgt := 274) hx hb hz dX8_scanSign_25 (by decide) (by decide) (off := 249) rfl (by decide) ?_
    exact t_X8_scanSign_274 hC hin hO S x0 x1 0 1 _ _ _ h hT (lv_sub hl [3, 4, 1, 0] rfl)
  · replace h := h.2.2.2.2.2.2.2.2.1 hz
    refine hw_tab (tgt := 160) hx hb hz dX8_scanSign_25 (by decide) (by decide) (off := 135) rfl (by decide) ?_
    refine lv_bipush (v := 6) hx hb dX8_scanSign_160 (by decide) ?_
    refine lv_istore (lv' := [(4, _), (5, _), (3, _), (0, _), (1, _), (2, _)]) hx hb dX8_scanSign_162 hl (by decide) rfl (fun ls hl_ => ?_)
    replace hl := hl_
    refine lv_goto (tgt := 274) hx hb dX8_scanSign_164 (by decide) ?_
    exact t_X8_scanSign_274 hC hin hO S x0 x1 6 1 _ _ _ h hT (lv_sub hl [3, 4, 0, 1] rfl)
  · replace h := h.2.2.2.2.2.2.2.2.2.1 hz
    refine hw_tab (tgt := 167) hx hb hz dX8_scanSign_25 (by decide) (by decide) (off := 142) rfl (by decide) ?_
    refine lv_bipush (v := 7) hx hb dX8_scanSign_167 (by decide) ?_
    refine lv_istore (lv' := [(4, _), (5, _), (3, _), (0, _), (1, _), (2, _)]) hx hb dX8_scanSign_169 hl (by decide) rfl (fun ls hl_ => ?_)
    replace hl := hl_
    refine lv_goto (tgt := 274) hx hb dX8_scanSign_171 (by decide) ?_
    exact t_X8_scanSign_274 hC hin hO S x0 x1 7 1 _ _ _ h hT (lv_sub hl [3, 4, 0, 1] rfl)
  · replace h := h.2.2.2.2.2.2.2.2.2.2.1 hz
    refine hw_tab (tgt := 274) hx hb hz dX8_scanSign_25 (by decide) (by decide) (off := 249) rfl (by decide) ?_
    exact t_X8_scanSign_274 hC hin hO S x0 x1 0 1 _ _ _ h hT (lv_sub hl [3, 4, 1, 0] rfl)
  · replace h := h.2.2.2.2.2.2.2.2.2.2.2.1 hz
    refine hw_tab (tgt := 274) hx hb hz dX8_scanSign_25 (by decide) (by decide) (off := 249) rfl (by decide) ?_
    exact t_X8_scanSign_274 hC hin hO S x0 x1 0 1 _ _ _ h hT (lv_sub hl [3, 4, 1, 0] rfl)
  · replace h := h.2.2.2.2.2.2.2.2.2.2.2.2.1 hz
    refine hw_tab (tgt := 174) hx hb hz dX8_scanSign_25 (by decide) (by decide) (off := 149) rfl (by decide) ?_
    refine lv_bipush (v := 8) hx hb dX8_scanSign_174 (by decide) ?_
    refine lv_istore (lv' := [(4, _), (5, _), (3, _), (0, _), (1, _), (2, _)]) hx hb dX8_scanSign_176 hl (by decide) rfl (fun ls hl_ => ?_)
    replace hl := hl_
    refine lv_goto (tgt := 274) hx hb dX8_scanSign_178 (by decide) ?_
    exact t_X8_scanSign_274 hC hin hO S x0 x1 8 1 _ _ _ h hT (lv_sub hl [3, 4, 0, 1] rfl)
  · replace h := h.2.2.2.2.2.2.2.2.2.2.2.2.2.1 hz
    refine hw_tab (tgt := 274) hx hb hz dX8_scanSign_25 (by decide) (by decide) (off := 249) rfl (by decide) ?_
    exact t_X8_scanSign_274 hC hin hO S x0 x1 0 1 _ _ _ h hT (lv_sub hl [3, 4, 1, 0] rfl)
  · replace h := h.2.2.2.2.2.2.2.2.2.2.2.2.2.2.1 hz
    refine hw_tab (tgt := 274) hx hb hz dX8_scanSign_25 (by decide) (by decide) (off := 249) rfl (by decide) ?_
    exact t_X8_scanSign_274 hC hin hO S x0 x1 0 1 _ _ _ h hT (lv_sub hl [3, 4, 1, 0] rfl)
  · replace h := h.2.2.2.2.2.2.2.2.2.2.2.2.2.2.2.1 hz
    refine hw_tab (tgt := 188) hx hb hz dX8_scanSign_25 (by decide) (by decide) (off := 163) rfl (by decide) ?_
    refine lv_bipush (v := 10) hx hb dX8_scanSign_188 (by decide) ?_
    refine lv_istore (lv' := [(4, _), (5, _), (3, _), (0, _), (1, _), (2, _)]) hx hb dX8_scanSign_190 hl (by decide) rfl (fun ls hl_ => ?_)
    replace hl := hl_
    refine lv_goto (tgt := 274) hx hb dX8_scanSign_192 (by decide) ?_
    exact t_X8_scanSign_274 hC hin hO S x0 x1 10 1 _ _ _ h hT (lv_sub hl [3, 4, 0, 1] rfl)
  · replace h := h.2.2.2.2.2.2.2.2.2.2.2.2.2.2.2.2.1 hz
    refine hw_tab (tgt := 274) hx hb hz dX8_scanSign_25 (by decide) (by decide) (off := 249) rfl (by decide) ?_
    exact t_X8_scanSign_274 hC hin hO S x0 x1 0 1 _ _ _ h hT (lv_sub hl [3, 4, 1, 0] rfl)
  · replace h := h.2.2.2.2.2.2.2.2.2.2.2.2.2.2.2.2.2.1 hz
    refine hw_tab (tgt := 274) hx hb hz dX8_scanSign_25 (by decide) (by decide) (off := 249) rfl (by decide) ?_
    exact t_X8_scanSign_274 hC hin hO S x0 x1 0 1 _ _ _ h hT (lv_sub hl [3, 4, 1, 0] rfl)
  · replace h := h.2.2.2.2.2.2.2.2.2.2.2.2.2.2.2.2.2.2.1 hz
    refine hw_tab (tgt := 274) hx hb hz dX8_scanSign_25 (by decide) (by decide) (off := 249) rfl (by decide) ?_
    exact t_X8_scanSign_274 hC hin hO S x0 x1 0 1 _ _ _ h hT (lv_sub hl [3, 4, 1, 0] rfl)
  · replace h := h.2.2.2.2.2.2.2.2.2.2.2.2.2.2.2.2.2.2.2.1 hz
    refine hw_tab (tgt := 274) hx hb hz dX8_scanSign_25 (by decide) (by decide) (off := 249) rfl (by decide) ?_
    exact t_X8_scanSign_274 hC hin hO S x0 x1 0 1 _ _ _ h hT (lv_sub hl [3, 4, 1, 0] rfl)
  · replace h := h.2.2.2.2.2.2.2.2.2.2.2.2.2.2.2.2.2.2.2.2.1 hz
    refine hw_tab (tgt := 274) hx hb hz dX8_scanSign_25 (by decide) (by decide) (off := 249) rfl (by decide) ?_
    exact t_X8_scanSign_274 hC hin hO S x0 x1 0 1 _ _ _ h hT (lv_sub hl [3, 4, 1, 0] rfl)
  · replace h := h.2.2.2.2.2.2.2.2.2.2.2.2.2.2.2.2.2.2.2.2.2.1 hz
    refine hw_tab (tgt := 274) hx hb hz dX8_scanSign_25 (by decide) (by decide) (off := 249) rfl (by decide) ?_
    exact t_X8_scanSign_274 hC hin hO S x0 x1 0 1 _ _ _ h hT (lv_sub hl [3, 4, 1, 0] rfl)
  · replace h := h.2.2.2.2.2.2.2.2.2.2.2.2.2.2.2.2.2.2.2.2.2.2.1 hz
    refine hw_tab (tgt := 274) hx hb hz dX8_scanSign_25 (by decide) (by decide) (off := 249) rfl (by decide) ?_
    exact t_X8_scanSign_274 hC hin hO S x0 x1 0 1 _ _ _ h hT (lv_sub hl [3, 4, 1, 0] rfl)
  · replace h := h.2.2.2.2.2.2.2.2.2.2.2.2.2.2.2.2.2.2.2.2.2.2.2.1 hz
    refine hw_tab (tgt := 274) hx hb hz dX8_scanSign_25 (by decide) (by decide) (off := 249) rfl (by decide) ?_
    exact t_X8_scanSign_274 hC hin hO S x0 x1 0 1 _ _ _ h hT (lv_sub hl [3, 4, 1, 0] rfl)
  · replace h := h.2.2.2.2.2.2.2.2.2.2.2.2.2.2.2.2.2.2.2.2.2.2.2.2.1 hz
    refine hw_tab (tgt := 274) hx hb hz dX8_scanSign_25 (by decide) (by decide) (off := 249) rfl (by decide) ?_
    exact t_X8_scanSign_274 hC hin hO S x0 x1 0 1 _ _ _ h hT (lv_sub hl [3, 4, 1, 0] rfl)
  · replace h := h.2.2.2.2.2.2.2.2.2.2.2.2.2.2.2.2.2.2.2.2.2.2.2.2.2.1 hz
    refine hw_tab (tgt := 274) hx hb hz dX8_scanSign_25 (by decide) (by decide) (off := 249) rfl (by decide) ?_
    exact t_X8_scanSign_274 hC hin hO S x0 x1 0 1 _ _ _ h hT (lv_sub hl [3, 4, 1, 0] rfl)
  · replace h := h.2.2.2.2.2.2.2.2.2.2.2.2.2.2.2.2.2.2.2.2.2.2.2.2.2.2.1 hz
    refine hw_tab (tgt := 274) hx hb hz dX8_scanSign_25 (by decide) (by decide) (off := 249) rfl (by decide) ?_
    exact t_X8_scanSign_274 hC hin hO S x0 x1 0 1 _ _ _ h hT (lv_sub hl [3, 4, 1, 0] rfl)
  · replace h := h.2.2.2.2.2.2.2.2.2.2.2.2.2.2.2.2.2.2.2.2.2.2.2.2.2.2.2.1 hz
    refine hw_tab (tgt := 181) hx hb hz dX8_scanSign_25 (by decide) (by decide) (off := 156) rfl (by decide) ?_
    refine lv_bipush (v := 9) hx hb dX8_scanSign_181 (by decide) ?_
    refine lv_istore (lv' := [(4, _), (5, _), (3, _), (0, _), (1, _), (2, _)]) hx hb dX8_scanSign_183 hl (by decide) rfl (fun ls hl_ => ?_)
    replace hl := hl_
    refine lv_goto (tgt := 274) hx hb dX8_scanSign_185 (by decide) ?_
    exact t_X8_scanSign_274 hC hin hO S x0 x1 9 1 _ _ _ h hT (lv_sub hl [3, 4, 0, 1] rfl)
  · replace h := h.2.2.2.2.2.2.2.2.2.2.2.2.2.2.2.2.2.2.2.2.2.2.2.2.2.2.2.2.1 hz
    refine hw_tab (tgt := 220) hx hb hz dX8_scanSign_25 (by decide) (by decide) (off := 195) rfl (by decide) ?_
    refine lv_iload_n hx hb dX8_scanSign_220 rfl (lv_at hl 2 rfl) ?_
    refine lv_if_eq (tgt := 229) hx hb dX8_scanSign_221 (by decide) (fun hc => ?_) (fun hc => ?_)
    · replace h := h.1 hc
      refine lv_bipush (v := 13) hx hb dX8_scanSign_229 (by decide) ?_
      exact t_X8_scanSign_231 hC hin hO S x0 x1 y0 13 _ _ _ h hT (lv_sub hl [3, 4, 2] rfl)
    · replace h := h.2 hc
      refine lv_bipush (v := 14) hx hb dX8_scanSign_224 (by decide) ?_
      refine lv_goto (tgt := 231) hx hb dX8_scanSign_226 (by decide) ?_
      exact t_X8_scanSign_231 hC hin hO S x0 x1 y0 14 _ _ _ h hT (lv_sub hl [3, 4, 2] rfl)
  · replace h := h.2.2.2.2.2.2.2.2.2.2.2.2.2.2.2.2.2.2.2.2.2.2.2.2.2.2.2.2.2.1 hz
    refine hw_tab (tgt := 195) hx hb hz dX8_scanSign_25 (by decide) (by decide) (off := 170) rfl (by decide) ?_
    refine lv_bipush (v := 11) hx hb dX8_scanSign_195 (by decide) ?_
    refine lv_istore (lv' := [(4, _), (5, _), (3, _), (0, _), (1, _), (2, _)]) hx hb dX8_scanSign_197 hl (by decide) rfl (fun ls hl_ => ?_)
    replace hl := hl_
    refine lv_goto (tgt := 274) hx hb dX8_scanSign_199 (by decide) ?_
    exact t_X8_scanSign_274 hC hin hO S x0 x1 11 1 _ _ _ h hT (lv_sub hl [3, 4, 0, 1] rfl)
  · replace h := h.2.2.2.2.2.2.2.2.2.2.2.2.2.2.2.2.2.2.2.2.2.2.2.2.2.2.2.2.2.2 hz
    refine hw_tab (tgt := 247) hx hb hz dX8_scanSign_25 (by decide) (by decide) (off := 222) rfl (by decide) ?_
    refine lv_iload_n hx hb dX8_scanSign_247 rfl (lv_at hl 2 rfl) ?_
    refine lv_if_eq (tgt := 256) hx hb dX8_scanSign_248 (by decide) (fun hc => ?_) (fun hc => ?_)
    · replace h := h.1 hc
      refine lv_bipush (v := 15) hx hb dX8_scanSign_256 (by decide) ?_
      exact t_X8_scanSign_258 hC hin hO S x0 x1 y0 15 _ _ _ h hT (lv_sub hl [3, 4, 2] rfl)
    · replace h := h.2 hc
      refine lv_bipush (v := 16) hx hb dX8_scanSign_251 (by decide) ?_
      refine lv_goto (tgt := 258) hx hb dX8_scanSign_253 (by decide) ?_
      exact t_X8_scanSign_258 hC hin hO S x0 x1 y0 16 _ _ _ h hT (lv_sub hl [3, 4, 2] rfl)
end
def wp_X8_scanSign (post : Int32 → cs_S → Prop) (G : Nat → Nat) (S : cs_S) (o : Nat) (p1 : Int32) (p2 : Int32) : Prop := cs_k S o = 10 ∧ wp_X8_octetAt (fun r7 S7 => (¬ r7 = 61 → w_X8_scanSign_17 post G S7 o p1 p2 0) ∧ (r7 = 61 → w_X8_scanSign_17 post G S7 o p1 p2 1)) G S o (p1 + 1)
set_option maxRecDepth 100000 in
set_option maxHeartbeats 4000000 in
theorem c_X8_scanSign {l : Launch} {P : hw_G} {G : Nat → Nat} {S : cs_S} {sz : Nat} {o : Nat} {p1 : Int32} {p2 : Int32} {post : Int32 → cs_S → Prop} (h : wp_X8_scanSign post G S o p1 p2) : Met l yX8_scanSign [Cond.code yX8_scanSign cX8_scanSign 6 (some .int)] rm_X8_scanSign (cs_Pc P G S sz [.ref o, .int p1, .int p2]) (cs_Qi P (cs_A S sz) post) 0 0 (cs_A S sz) := by
  refine cs_met (by decide) rfl (Nat.le_of_ble_eq_true rfl) ?_
  intro p e s m below meth c ls hC hin hO hT hl
  obtain ⟨hx, hb, hml, hown, hK, -, -⟩ := id hC
  replace hl : lv_has ls 6 [(0, .ref o), (1, .int p1), (2, .int p2)] := hl
  refine lv_aload_n (x := o) hx hb dX8_scanSign_0 rfl (lv_at hl 0 rfl) ?_
  refine lv_iload_n hx hb dX8_scanSign_1 rfl (lv_at hl 1 rfl) ?_
  refine lv_iconst (v := 1) hx hb dX8_scanSign_2 (by decide) ?_
  refine lv_iadd hx hb dX8_scanSign_3 ?_
  obtain ⟨hk8_, h⟩ := h
  refine cs_calli0 (cs_runV hx hb hml hown hK hO hT 9 hk8_ (by decide) rfl (c_X8_octetAt h) rfl rfl klX8_68 ki_X8_octetAt ks_X8_octetAt kn_X8 kc_X8_octetAt 1 ⟨rfl, by decide, by decide, by decide +kernel⟩ ⟨by decide, by decide⟩ rfl hl.1 rfl (hw_cat8 (Nat.le_of_ble_eq_true rfl)) ⟨(Nat.le_refl _), (Nat.le_refl _)⟩ dX8_scanSign_4) hT (fun r7 S7 H locs h_ hT_ => ?_)
  replace h := h_
  replace hT := hT_
  refine lv_bipush (v := 61) hx hb dX8_scanSign_7 (by decide) ?_
  refine lv_icmp_ne (tgt := 16) hx hb dX8_scanSign_9 (by decide) (fun hc => ?_) (fun hc => ?_)
  · replace h := h.1 hc
    refine lv_iconst (v := 0) hx hb dX8_scanSign_16 (by decide) ?_
    exact t_X8_scanSign_17 hC hin hO S7 o p1 p2 0 _ _ _ h hT (lv_sub hl [0, 1, 2] rfl)
  · replace h := h.2 hc
    refine lv_iconst (v := 1) hx hb dX8_scanSign_12 (by decide) ?_
    refine lv_goto (tgt := 17) hx hb dX8_scanSign_13 (by decide) ?_
    exact t_X8_scanSign_17 hC hin hO S7 o p1 p2 1 _ _ _ h hT (lv_sub hl [0, 1, 2] rfl)
/-! X8_scanToken -/
abbrev rm_X8_scanToken : Room := { frames := 2, cells := 0, slots := 0, locals := 51 }
def w_X8_scanToken_105 (post : Int32 → cs_S → Prop) (G : Nat → Nat) (S : cs_S) (y0 : Int32) : Prop := post y0 S
section
variable {p : Program} {l : Launch} {e : Env} {s : State} {m : MethodId} {args : Array Value} {below : List Frame} {meth : Method} {c : Code} {P : hw_G} {G : Nat → Nat} {A : Nat → Prop}
set_option maxRecDepth 100000 in
set_option maxHeartbeats 4000000 in
theorem t_X8_scanToken_105 {post : Int32 → cs_S → Prop} (hC : rf_C P RX8 p s m meth c cX8_scanToken 4 (some .int)) (hin : meth.name = yX8_scanToken.name) (hO : cs_O G A s s.heap) (S : cs_S) (y0 : Int32) (H : Heap) (locs : List Loc) (ls : Array Slot) (h : w_X8_scanToken_105 post G S y0) (hT : cs_T P s A S H locs) (hl : lv_has ls 4 []) : W p l e rm_X8_scanToken s m args below meth c H locs 0 0 (MQ below (cs_Qi P A post) args s 0 0 A) (F0 m 105 ls [.int y0]) := by
  obtain ⟨hx, hb, hml, hown, hK, -, -⟩ := id hC
  exact cs_iret hC hT h dX8_scanToken_105 (Nat.le_refl _) (Nat.le_refl _)
end
def w_X8_scanToken_81 (post : Int32 → cs_S → Prop) (G : Nat → Nat) (S : cs_S) (x0 : Nat) (x1 : Int32) (x3 : Int32) : Prop := cs_k S x0 = 10 ∧ wp_X8_octetAt (fun r23 S23 => (¬ r23 = 46 → cs_k S23 x0 = 10 ∧ wp_X8_scanNumber (fun r25 S25 => w_X8_scanToken_105 post G S25 r25) G S23 x0 x1 x1) ∧ (r23 = 46 → cs_k S23 x0 = 10 ∧ wp_X8_scanAddress (fun r27 S27 => w_X8_scanToken_105 post G S27 r27) G S23 x0 x1)) G S x0 x3
section
variable {p : Program} {l : Launch} {e : Env} {s : State} {m : MethodId} {args : Array Value} {below : List Frame} {meth : Method} {c : Code} {P : hw_G} {G : Nat → Nat} {A : Nat → Prop}
set_option maxRecDepth 100000 in
set_option maxHeartbeats 4000000 in
theorem t_X8_scanToken_81 {post : Int32 → cs_S → Prop} (hC : rf_C P RX8 p s m meth c cX8_scanToken 4 (some .int)) (hin : meth.name = yX8_scanToken.name) (hO : cs_O G A s s.heap) (S : cs_S) (x0 : Nat) (x1 : Int32) (x3 : Int32) (H : Heap) (locs : List Loc) (ls : Array Slot) (h : w_X8_scanToken_81 post G S x0 x1 x3) (hT : cs_T P s A S H locs) (hl : lv_has ls 4 [(0, .ref x0), (1, .int x1), (3, .int x3)]) : W p l e rm_X8_scanToken s m args below meth c H locs 0 0 (MQ below (cs_Qi P A post) args s 0 0 A) (F0 m 81 ls []) := by
  obtain ⟨hx, hb, hml, hown, hK, -, -⟩ := id hC
  refine lv_aload_n (x := x0) hx hb dX8_scanToken_81 rfl (lv_at hl 0 rfl) ?_
  refine lv_iload_n hx hb dX8_scanToken_82 rfl (lv_at hl 2 rfl) ?_
  obtain ⟨hk24_, h⟩ := h
  refine cs_calli0 (cs_runV hx hb hml hown hK hO hT 9 hk24_ (by decide) rfl (c_X8_octetAt h) rfl rfl klX8_68 ki_X8_octetAt ks_X8_octetAt kn_X8 kc_X8_octetAt 1 ⟨rfl, by decide, by decide, by decide +kernel⟩ ⟨by decide, by decide⟩ rfl hl.1 rfl (hw_cat8 (Nat.le_of_ble_eq_true rfl)) ⟨(Nat.le_refl _), (Nat.le_refl _)⟩ dX8_scanToken_83) hT (fun r23 S23 H locs h_ hT_ => ?_)
  replace h := h_
  replace hT := hT_
  refine lv_bipush (v := 46) hx hb dX8_scanToken_86 (by decide) ?_
  refine lv_icmp_ne (tgt := 99) hx hb dX8_scanToken_88 (by decide) (fun hc => ?_) (fun hc => ?_)
  · replace h := h.1 hc
    refine lv_aload_n (x := x0) hx hb dX8_scanToken_99 rfl (lv_at hl 0 rfl) ?_
    refine lv_iload_n hx hb dX8_scanToken_100 rfl (lv_at hl 1 rfl) ?_
    refine lv_iload_n hx hb dX8_scanToken_101 rfl (lv_at hl 1 rfl) ?_
    obtain ⟨hk26_, h⟩ := h
    refine cs_calli0 (cs_runV hx hb hml hown hK hO hT 9 hk26_ (by decide) rfl (c_X8_scanNumber h) rfl rfl klX8_81 ki_X8_scanNumber ks_X8_scanNumber kn_X8 kc_X8_scanNumber 2 ⟨rfl, by decide, by decide, by decide +kernel⟩ ⟨by decide, by decide⟩ rfl hl.1 rfl (hw_cat8 (Nat.le_of_ble_eq_true rfl)) ⟨(Nat.le_refl _), (Nat.le_refl _)⟩ dX8_scanToken_102) hT (fun r25 S25 H locs h_ hT_ => ?_)
    replace h := h_
    replace hT := hT_
    exact t_X8_scanToken_105 hC hin hO S25 r25 _ _ _ h hT (lv_sub hl [] rfl)
  · replace h := h.2 hc
    refine lv_aload_n (x := x0) hx hb dX8_scanToken_91 rfl (lv_at hl 0 rfl) ?_
    refine lv_iload_n hx hb dX8_scanToken_92 rfl (lv_at hl 1 rfl) ?_
    obtain ⟨hk28_, h⟩ := h
    refine cs_calli0 (cs_runV hx hb hml hown hK hO hT 9 hk28_ (by decide) rfl (c_X8_scanAddress h) rfl rfl klX8_87 ki_X8_scanAddress ks_X8_scanAddress kn_X8 kc_X8_scanAddress 1 ⟨rfl, by decide, by decide, by decide +kernel⟩ ⟨by decide, by decide⟩ rfl hl.1 rfl (hw_cat8 (Nat.le_of_ble_eq_true rfl)) ⟨(Nat.le_refl _), (Nat.le_refl _)⟩ dX8_scanToken_93) hT (fun r27 S27 H locs h_ hT_ => ?_)
    replace h := h_
    replace hT := hT_
    refine lv_goto (tgt := 105) hx hb dX8_scanToken_96 (by decide) ?_
    exact t_X8_scanToken_105 hC hin hO S27 r27 _ _ _ h hT (lv_sub hl [] rfl)
end
def w_X8_scanToken_55 (post : Int32 → cs_S → Prop) (G : Nat → Nat) : Nat → cs_S → Nat → Int32 → Int32 → Prop
  | 0, _, _, _, _ => False
  | n + 1, S, x0, x1, x3 => cs_k S x0 = 10 ∧ ((cs_i S 905 x0) ≤ x3 → w_X8_scanToken_81 post G S x0 x1 x3) ∧ (¬ (cs_i S 905 x0) ≤ x3 → ∀ r30, r30 = cs_r S 904 x0 → ∃ b31, r30 = some b31 ∧ cs_k S b31 = 20 ∧ vp_in x3 (cs_n S b31) ∧ wp_X11_isDigit (fun r33 S33 => (r33 = 0 → w_X8_scanToken_81 post G S33 x0 x1 x3) ∧ (¬ r33 = 0 → w_X8_scanToken_55 post G n S33 x0 x1 (x3 + 1))) G S (cs_ai S b31 x3.toNatClampNeg))
section
variable {p : Program} {l : Launch} {e : Env} {s : State} {m : MethodId} {args : Array Value} {below : List Frame} {meth : Method} {c : Code} {P : hw_G} {G : Nat → Nat} {A : Nat → Prop}
set_option maxRecDepth 100000 in
set_option maxHeartbeats 4000000 in
theorem t_X8_scanToken_55 {post : Int32 → cs_S → Prop} (hC : rf_C P RX8 p s m meth c cX8_scanToken 4 (some .int)) (hin : meth.name = yX8_scanToken.name) (hO : cs_O G A s s.heap) : ∀ (n : Nat) (S : cs_S) (x0 : Nat) (x1 : Int32) (x3 : Int32) (H : Heap) (locs : List Loc) (ls : Array Slot), w_X8_scanToken_55 post G n S x0 x1 x3 → cs_T P s A S H locs → lv_has ls 4 [(0, .ref x0), (1, .int x1), (3, .int x3)] → W p l e rm_X8_scanToken s m args below meth c H locs 0 0 (MQ below (cs_Qi P A post) args s 0 0 A) (F0 m 55 ls []) := by
  obtain ⟨hx, hb, hml, hown, hK, -, -⟩ := id hC
  intro n
  induction n with
  | zero => intro S x0 x1 x3 H locs ls h; exact False.elim h
  | succ n ih =>
    intro S x0 x1 x3 H locs ls h hT hl
    refine lv_iload_n hx hb dX8_scanToken_55 rfl (lv_at hl 2 rfl) ?_
    refine lv_aload_n (x := x0) hx hb dX8_scanToken_56 rfl (lv_at hl 0 rfl) ?_
    obtain ⟨hk29_, h⟩ := h
    refine cs_get hx hb hK hT hown 9 hk29_ (by decide) rfl 5 (by decide) kfX8_53 (v := .int (cs_i S 905 x0)) rfl dX8_scanToken_57 ?_
    refine lv_icmp_ge (tgt := 81) hx hb dX8_scanToken_60 (by decide) (fun hc => ?_) (fun hc => ?_)
    · replace h := h.1 hc
      exact t_X8_scanToken_81 hC hin hO S x0 x1 x3 _ _ _ h hT (lv_sub hl [0, 1, 2] rfl)
    · replace h := h.2 hc
      refine lv_aload_n (x := x0) hx hb dX8_scanToken_63 rfl (lv_at hl 0 rfl) ?_
      refine cs_get hx hb hK hT hown 9 hk29_ (by decide) rfl 4 (by decide) kfX8_28 (v := va_rf (cs_r S 904 x0)) rfl dX8_scanToken_64 ?_
      refine hw_topr (fun r30 er30 => ?_)
      replace h := h r30 er30
      refine lv_iload_n hx hb dX8_scanToken_67 rfl (lv_at hl 2 rfl) ?_
      obtain ⟨b31, rfl, h⟩ := h
      obtain ⟨hk32_, h⟩ := h
      obtain ⟨hi, h⟩ := h
      refine cs_iald hx hb hK hT hk32_ hi dX8_scanToken_68 ?_
      refine cs_calli0 (cs_runSN hx hb hml hown hK hO hT (c_X11_isDigit h) rfl rfl klnX8_84 ki_X11_isDigit kn_X11 kc_X11_isDigit 1 ⟨by decide, by decide, by decide +kernel⟩ ⟨by decide, by decide⟩ rfl hl.1 rfl (hw_cat8 (Nat.le_of_ble_eq_true rfl)) ⟨(Nat.le_refl _), (Nat.le_refl _)⟩ dX8_scanToken_69) hT (fun r33 S33 H locs h_ hT_ => ?_)
      replace h := h_
      replace hT := hT_
      refine lv_if_eq (tgt := 81) hx hb dX8_scanToken_72 (by decide) (fun hc => ?_) (fun hc => ?_)
      · replace h := h.1 hc
        exact t_X8_scanToken_81 hC hin hO S33 x0 x1 x3 _ _ _ h hT (lv_sub hl [0, 1, 2] rfl)
      · replace h := h.2 hc
        refine lv_iinc (v := x3 + 1) (lv' := [(3, _), (0, _), (1, _)]) hx hb dX8_scanToken_75 hl (k := 2) rfl rfl (by decide) rfl (fun ls hl_ => ?_)
        replace hl := hl_
        refine lv_goto (tgt := 55) hx hb dX8_scanToken_78 (by decide) ?_
        exact ih S33 x0 x1 (x3 + 1) _ _ _ h hT (lv_sub hl [1, 2, 0] rfl)
end
def wp_X8_scanToken (post : Int32 → cs_S → Prop) (G : Nat → Nat) (S : cs_S) (o : Nat) (p1 : Int32) : Prop := cs_k S o = 10 ∧ wp_X8_octetAt (fun r34 S34 => wp_X11_isLetter (fun r36 S36 => (r36 = 0 → (¬ r34 = 34 → (¬ r34 = 45 → wp_X11_isDigit (fun r37 S37 => (r37 = 0 → cs_k S37 o = 10 ∧ wp_X8_scanSign (fun r38 S38 => post r38 S38) G S37 o p1 r34) ∧ (¬ r37 = 0 → ∃ n9, w_X8_scanToken_55 post G n9 S37 o p1 p1)) G S36 r34) ∧ (r34 = 45 → cs_k S36 o = 10 ∧ wp_X8_scanNumber (fun r40 S40 => post r40 S40) G S36 o p1 (p1 + 1))) ∧ (r34 = 34 → cs_k S36 o = 10 ∧ wp_X8_scanQuoted (fun r42 S42 => post r42 S42) G S36 o p1)) ∧ (¬ r36 = 0 → cs_k S36 o = 10 ∧ wp_X8_scanWord (fun r44 S44 => post r44 S44) G S36 o p1)) G S34 r34) G S o p1
set_option maxRecDepth 100000 in
set_option maxHeartbeats 4000000 in
theorem c_X8_scanToken {l : Launch} {P : hw_G} {G : Nat → Nat} {S : cs_S} {sz : Nat} {o : Nat} {p1 : Int32} {post : Int32 → cs_S → Prop} (h : wp_X8_scanToken post G S o p1) : Met l yX8_scanToken [Cond.code yX8_scanToken cX8_scanToken 4 (some .int)] rm_X8_scanToken (cs_Pc P G S sz [.ref o, .int p1]) (cs_Qi P (cs_A S sz) post) 0 0 (cs_A S sz) := by
  refine cs_met (by decide) rfl (Nat.le_of_ble_eq_true rfl) ?_
  intro p e s m below meth c ls hC hin hO hT hl
  obtain ⟨hx, hb, hml, hown, hK, -, -⟩ := id hC
  replace hl : lv_has ls 4 [(0, .ref o), (1, .int p1)] := hl
  refine lv_aload_n (x := o) hx hb dX8_scanToken_0 rfl (lv_at hl 0 rfl) ?_
  refine lv_iload_n hx hb dX8_scanToken_1 rfl (lv_at hl 1 rfl) ?_
  obtain ⟨hk35_, h⟩ := h
  refine cs_calli0 (cs_runV hx hb hml hown hK hO hT 9 hk35_ (by decide) rfl (c_X8_octetAt h) rfl rfl klX8_68 ki_X8_octetAt ks_X8_octetAt kn_X8 kc_X8_octetAt 1 ⟨rfl, by decide, by decide, by decide +kernel⟩ ⟨by decide, by decide⟩ rfl hl.1 rfl (hw_cat8 (Nat.le_of_ble_eq_true rfl)) ⟨(Nat.le_refl _), (Nat.le_refl _)⟩ dX8_scanToken_2) hT (fun r34 S34 H locs h_ hT_ => ?_)
  replace h := h_
  replace hT := hT_
  refine lv_istore_n (lv' := [(2, _), (0, _), (1, _)]) hx hb dX8_scanToken_5 rfl hl (by decide) rfl (fun ls hl_ => ?_)
  replace hl := hl_
  refine lv_iload_n hx hb dX8_scanToken_6 rfl (lv_at hl 0 rfl) ?_
  refine cs_calli0 (cs_runSN hx hb hml hown hK hO hT (c_X11_isLetter h) rfl rfl klnX8_71 ki_X11_isLetter kn_X11 kc_X11_isLetter 1 ⟨by decide, by decide, by decide +kernel⟩ ⟨by decide, by decide⟩ rfl hl.1 rfl (hw_cat8 (Nat.le_of_ble_eq_true rfl)) ⟨(Nat.le_refl _), (Nat.le_refl _)⟩ dX8_scanToken_7) hT (fun r36 S36 H locs h_ hT_ => ?_)
  replace h := h_
  replace hT := hT_
  refine lv_if_eq (tgt := 19) hx hb dX8_scanToken_10 (by decide) (fun hc => ?_) (fun hc => ?_)
  · replace h := h.1 hc
    refine lv_iload_n hx hb dX8_scanToken_19 rfl (lv_at hl 0 rfl) ?_
    refine lv_bipush (v := 34) hx hb dX8_scanToken_20 (by decide) ?_
    refine lv_icmp_ne (tgt := 31) hx hb dX8_scanToken_22 (by decide) (fun hc => ?_) (fun hc => ?_)
    · replace h := h.1 hc
      refine lv_iload_n hx hb dX8_scanToken_31 rfl (lv_at hl 0 rfl) ?_
      refine lv_bipush (v := 45) hx hb dX8_scanToken_32 (by decide) ?_
      refine lv_icmp_ne (tgt := 46) hx hb dX8_scanToken_34 (by decide) (fun hc => ?_) (fun hc => ?_)
      · replace h := h.1 hc
        refine lv_iload_n hx hb dX8_scanToken_46 rfl (lv_at hl 0 rfl) ?_
        refine cs_calli0 (cs_runSN hx hb hml hown hK hO hT (c_X11_isDigit h) rfl rfl klnX8_84 ki_X11_isDigit kn_X11 kc_X11_isDigit 1 ⟨by decide, by decide, by decide +kernel⟩ ⟨by decide, by decide⟩ rfl hl.1 rfl (hw_cat8 (Nat.le_of_ble_eq_true rfl)) ⟨(Nat.le_refl _), (Nat.le_refl _)⟩ dX8_scanToken_47) hT (fun r37 S37 H locs h_ hT_ => ?_)
        replace h := h_
        replace hT := hT_
        refine lv_if_eq (tgt := 106) hx hb dX8_scanToken_50 (by decide) (fun hc => ?_) (fun hc => ?_)
        · replace h := h.1 hc
          refine lv_aload_n (x := o) hx hb dX8_scanToken_106 rfl (lv_at hl 1 rfl) ?_
          refine lv_iload_n hx hb dX8_scanToken_107 rfl (lv_at hl 2 rfl) ?_
          refine lv_iload_n hx hb dX8_scanToken_108 rfl (lv_at hl 0 rfl) ?_
          obtain ⟨hk39_, h⟩ := h
          refine cs_calli0 (cs_runV hx hb hml hown hK hO hT 9 hk39_ (by decide) rfl (c_X8_scanSign h) rfl rfl klX8_90 ki_X8_scanSign ks_X8_scanSign kn_X8 kc_X8_scanSign 2 ⟨rfl, by decide, by decide, by decide +kernel⟩ ⟨by decide, by decide⟩ rfl hl.1 rfl (hw_cat8 (Nat.le_of_ble_eq_true rfl)) ⟨(Nat.le_refl _), (Nat.le_refl _)⟩ dX8_scanToken_109) hT (fun r38 S38 H locs h_ hT_ => ?_)
          replace h := h_
          replace hT := hT_
          exact cs_iret hC hT h dX8_scanToken_112 (Nat.le_refl _) (Nat.le_refl _)
        · replace h := h.2 hc
          refine lv_iload_n hx hb dX8_scanToken_53 rfl (lv_at hl 2 rfl) ?_
          refine lv_istore_n (lv' := [(3, _), (2, _), (0, _), (1, _)]) hx hb dX8_scanToken_54 rfl hl (by decide) rfl (fun ls hl_ => ?_)
          replace hl := hl_
          obtain ⟨n9, h⟩ := h
          exact t_X8_scanToken_55 hC hin hO n9 S37 o p1 p1 _ _ _ h hT (lv_sub hl [2, 3, 0] rfl)
      · replace h := h.2 hc
        refine lv_aload_n (x := o) hx hb dX8_scanToken_37 rfl (lv_at hl 1 rfl) ?_
        refine lv_iload_n hx hb dX8_scanToken_38 rfl (lv_at hl 2 rfl) ?_
        refine lv_iload_n hx hb dX8_scanToken_39 rfl (lv_at hl 2 rfl) ?_
        refine lv_iconst (v := 1) hx hb dX8_scanToken_40 (by decide) ?_
        refine lv_iadd hx hb dX8_scanToken_41 ?_
        obtain ⟨hk41_, h⟩ := h
        refine cs_calli0 (cs_runV hx hb hml hown hK hO hT 9 hk41_ (by decide) rfl (c_X8_scanNumber h) rfl rfl klX8_81 ki_X8_scanNumber ks_X8_scanNumber kn_X8 kc_X8_scanNumber 2 ⟨rfl, by decide, by decide, by decide +kernel⟩ ⟨by decide, by decide⟩ rfl hl.1 rfl (hw_cat8 (Nat.le_of_ble_eq_true rfl)) ⟨(Nat.le_refl _), (Nat.le_refl _)⟩ dX8_scanToken_42) hT (fun r40 S40 H locs h_ hT_ => ?_)
        replace h := h_
        replace hT := hT_
        exact cs_iret hC hT h dX8_scanToken_45 (Nat.le_refl _) (Nat.le_refl _)
    · replace h := h.2 hc
      refine lv_aload_n (x := o) hx hb dX8_scanToken_25 rfl (lv_at hl 1 rfl) ?_
      refine lv_iload_n hx hb dX8_scanToken_26 rfl (lv_at hl 2 rfl) ?_
      obtain ⟨hk43_, h⟩ := h
      refine cs_calli0 (cs_runV hx hb hml hown hK hO hT 9 hk43_ (by decide) rfl (c_X8_scanQuoted h) rfl rfl klX8_78 ki_X8_scanQuoted ks_X8_scanQuoted kn_X8 kc_X8_scanQuoted 1 ⟨rfl, by decide, by decide, by decide +kernel⟩ ⟨by decide, by decide⟩ rfl hl.1 rfl (hw_cat8 (Nat.le_of_ble_eq_true rfl)) ⟨(Nat.le_refl _), (Nat.le_refl _)⟩ dX8_scanToken_27) hT (fun r42 S42 H locs h_ hT_ => ?_)
      replace h := h_
      replace hT := hT_
      exact cs_iret hC hT h dX8_scanToken_30 (Nat.le_refl _) (Nat.le_refl _)
  · replace h := h.2 hc
    refine lv_aload_n (x := o) hx hb dX8_scanToken_13 rfl (lv_at hl 1 rfl) ?_
    refine lv_iload_n hx hb dX8_scanToken_14 rfl (lv_at hl 2 rfl) ?_
    obtain ⟨hk45_, h⟩ := h
    refine cs_calli0 (cs_runV hx hb hml hown hK hO hT 9 hk45_ (by decide) rfl (c_X8_scanWord h) rfl rfl klX8_75 ki_X8_scanWord ks_X8_scanWord kn_X8 kc_X8_scanWord 1 ⟨rfl, by decide, by decide, by decide +kernel⟩ ⟨by decide, by decide⟩ rfl hl.1 rfl (hw_cat8 (Nat.le_of_ble_eq_true rfl)) ⟨(Nat.le_refl _), (Nat.le_refl _)⟩ dX8_scanToken_15) hT (fun r44 S44 H locs h_ hT_ => ?_)
    replace h := h_
    replace hT := hT_
    exact cs_iret hC hT h dX8_scanToken_18 (Nat.le_refl _) (Nat.le_refl _)
/-! X8_scan -/
abbrev rm_X8_scan : Room := { frames := 3, cells := 0, slots := 0, locals := 74 }
def w_X8_scan_124 (post : cs_S → Prop) (G : Nat → Nat) (S : cs_S)  : Prop := post S
section
variable {p : Program} {l : Launch} {e : Env} {s : State} {m : MethodId} {args : Array Value} {below : List Frame} {meth : Method} {c : Code} {P : hw_G} {G : Nat → Nat} {A : Nat → Prop}
set_option maxRecDepth 100000 in
set_option maxHeartbeats 4000000 in
theorem t_X8_scan_124 {post : cs_S → Prop} (hC : rf_C P RX8 p s m meth c cX8_scan 5 none) (hin : meth.name = yX8_scan.name) (hO : cs_O G A s s.heap) (S : cs_S)  (H : Heap) (locs : List Loc) (ls : Array Slot) (h : w_X8_scan_124 post G S ) (hT : cs_T P s A S H locs) (hl : lv_has ls 5 []) : W p l e rm_X8_scan s m args below meth c H locs 0 0 (MQ below (cs_Qv P A post) args s 0 0 A) (F0 m 124 ls []) := by
  obtain ⟨hx, hb, hml, hown, hK, -, -⟩ := id hC
  exact cs_vret hC hT h dX8_scan_124 (Nat.le_refl _) (Nat.le_refl _)
end
def w_X8_scan_92 (post : cs_S → Prop) (G : Nat → Nat) (S : cs_S) (x0 : Nat) : Prop := cs_k S x0 = 10 ∧ ((cs_i S 905 x0) ≤ 2000 → wp_X8_put (fun S22 => w_X8_scan_124 post G S22) G S x0 1 (cs_i S 905 x0) 0) ∧ (¬ (cs_i S 905 x0) ≤ 2000 → wp_X8_put (fun S23 => w_X8_scan_124 post G S23) G S x0 0 2000 0)
section
variable {p : Program} {l : Launch} {e : Env} {s : State} {m : MethodId} {args : Array Value} {below : List Frame} {meth : Method} {c : Code} {P : hw_G} {G : Nat → Nat} {A : Nat → Prop}
set_option maxRecDepth 100000 in
set_option maxHeartbeats 4000000 in
theorem t_X8_scan_92 {post : cs_S → Prop} (hC : rf_C P RX8 p s m meth c cX8_scan 5 none) (hin : meth.name = yX8_scan.name) (hO : cs_O G A s s.heap) (S : cs_S) (x0 : Nat) (H : Heap) (locs : List Loc) (ls : Array Slot) (h : w_X8_scan_92 post G S x0) (hT : cs_T P s A S H locs) (hl : lv_has ls 5 [(0, .ref x0)]) : W p l e rm_X8_scan s m args below meth c H locs 0 0 (MQ below (cs_Qv P A post) args s 0 0 A) (F0 m 92 ls []) := by
  obtain ⟨hx, hb, hml, hown, hK, -, -⟩ := id hC
  refine lv_aload_n (x := x0) hx hb dX8_scan_92 rfl (lv_at hl 0 rfl) ?_
  obtain ⟨hk21_, h⟩ := h
  refine cs_get hx hb hK hT hown 9 hk21_ (by decide) rfl 5 (by decide) kfX8_53 (v := .int (cs_i S 905 x0)) rfl dX8_scan_93 ?_
  refine lv_sipush (v := 2000) hx hb dX8_scan_96 (by decide) ?_
  refine lv_icmp_le (tgt := 114) hx hb dX8_scan_99 (by decide) (fun hc => ?_) (fun hc => ?_)
  · replace h := h.1 hc
    refine lv_aload_n (x := x0) hx hb dX8_scan_114 rfl (lv_at hl 0 rfl) ?_
    refine lv_iconst (v := 1) hx hb dX8_scan_115 (by decide) ?_
    refine lv_aload_n (x := x0) hx hb dX8_scan_116 rfl (lv_at hl 0 rfl) ?_
    refine cs_get hx hb hK hT hown 9 hk21_ (by decide) rfl 5 (by decide) kfX8_53 (v := .int (cs_i S 905 x0)) rfl dX8_scan_117 ?_
    refine lv_lconst (v := 0) hx hb dX8_scan_120 (by decide) ?_
    refine cs_callv0 (cs_runV hx hb hml hown hK hO hT 9 hk21_ (by decide) rfl (c_X8_put h) rfl rfl klX8_64 ki_X8_put ks_X8_put kn_X8 kc_X8_put 3 ⟨rfl, by decide, by decide, by decide +kernel⟩ ⟨by decide, by decide⟩ rfl hl.1 rfl (hw_cat8 (Nat.le_of_ble_eq_true rfl)) ⟨(Nat.le_refl _), (Nat.le_refl _)⟩ dX8_scan_121) hT (fun S22 H locs h_ hT_ => ?_)
    replace h := h_
    replace hT := hT_
    exact t_X8_scan_124 hC hin hO S22 _ _ _ h hT (lv_sub hl [] rfl)
  · replace h := h.2 hc
    refine lv_aload_n (x := x0) hx hb dX8_scan_102 rfl (lv_at hl 0 rfl) ?_
    refine lv_iconst (v := 0) hx hb dX8_scan_103 (by decide) ?_
    refine lv_sipush (v := 2000) hx hb dX8_scan_104 (by decide) ?_
    refine lv_lconst (v := 0) hx hb dX8_scan_107 (by decide) ?_
    refine cs_callv0 (cs_runV hx hb hml hown hK hO hT 9 hk21_ (by decide) rfl (c_X8_put h) rfl rfl klX8_64 ki_X8_put ks_X8_put kn_X8 kc_X8_put 3 ⟨rfl, by decide, by decide, by decide +kernel⟩ ⟨by decide, by decide⟩ rfl hl.1 rfl (hw_cat8 (Nat.le_of_ble_eq_true rfl)) ⟨(Nat.le_refl _), (Nat.le_refl _)⟩ dX8_scan_108) hT (fun S23 H locs h_ hT_ => ?_)
    replace h := h_
    replace hT := hT_
    refine lv_goto (tgt := 124) hx hb dX8_scan_111 (by decide) ?_
    exact t_X8_scan_124 hC hin hO S23 _ _ _ h hT (lv_sub hl [] rfl)
end
def w_X8_scan_59 (post : cs_S → Prop) (G : Nat → Nat) (k22 : cs_S → Nat → Int32 → Prop) (S : cs_S) (x0 : Nat) (x3 : Int32) : Prop := k22 S x0 (x3 + 1)
section
variable {p : Program} {l : Launch} {e : Env} {s : State} {m : MethodId} {args : Array Value} {below : List Frame} {meth : Method} {c : Code} {P : hw_G} {G : Nat → Nat} {A : Nat → Prop}
set_option maxRecDepth 100000 in
set_option maxHeartbeats 4000000 in
theorem t_X8_scan_59 {post : cs_S → Prop} {k22 : cs_S → Nat → Int32 → Prop} (hC : rf_C P RX8 p s m meth c cX8_scan 5 none) (hin : meth.name = yX8_scan.name) (hO : cs_O G A s s.heap) (hk22 : ∀ (S : cs_S) (x0 : Nat) (x3 : Int32) (H : Heap) (locs : List Loc) (ls : Array Slot), k22 S x0 x3 → cs_T P s A S H locs → lv_has ls 5 [(0, .ref x0), (3, .int x3)] → W p l e rm_X8_scan s m args below meth c H locs 0 0 (MQ below (cs_Qv P A post) args s 0 0 A) (F0 m 22 ls [])) (S : cs_S) (x0 : Nat) (x3 : Int32) (H : Heap) (locs : List Loc) (ls : Array Slot) (h : w_X8_scan_59 post G k22 S x0 x3) (hT : cs_T P s A S H locs) (hl : lv_has ls 5 [(0, .ref x0), (3, .int x3)]) : W p l e rm_X8_scan s m args below meth c H locs 0 0 (MQ below (cs_Qv P A post) args s 0 0 A) (F0 m 59 ls []) := by
  obtain ⟨hx, hb, hml, hown, hK, -, -⟩ := id hC
  refine lv_iinc (v := x3 + 1) (lv' := [(3, _), (0, _)]) hx hb dX8_scan_59 hl (k := 1) rfl rfl (by decide) rfl (fun ls hl_ => ?_)
  replace hl := hl_
  refine lv_goto (tgt := 22) hx hb dX8_scan_62 (by decide) ?_
  exact hk22 S x0 (x3 + 1) _ _ _ h hT (lv_sub hl [1, 0] rfl)
end
def w_X8_scan_22 (post : cs_S → Prop) (G : Nat → Nat) : Nat → cs_S → Nat → Int32 → Prop
  | 0, _, _, _ => False
  | n + 1, S, x0, x3 => cs_k S x0 = 10 ∧ ((cs_i S 905 x0) ≤ x3 → w_X8_scan_92 post G S x0) ∧ (¬ (cs_i S 905 x0) ≤ x3 → (2000 ≤ x3 → w_X8_scan_92 post G S x0) ∧ (¬ 2000 ≤ x3 → ∀ r25, r25 = cs_r S 904 x0 → ∃ b26, r25 = some b26 ∧ cs_k S b26 = 20 ∧ vp_in x3 (cs_n S b26) ∧ ((cs_ai S b26 x3.toNatClampNeg) = 32 → w_X8_scan_59 post G (w_X8_scan_22 post G n) S x0 x3) ∧ (¬ (cs_ai S b26 x3.toNatClampNeg) = 32 → ∀ r28, r28 = cs_r S 904 x0 → ∃ b29, r28 = some b29 ∧ cs_k S b29 = 20 ∧ vp_in x3 (cs_n S b29) ∧ (¬ (cs_ai S b29 x3.toNatClampNeg) = 10 → wp_X8_scanToken (fun r31 S31 => (x3 < r31 → w_X8_scan_22 post G n S31 x0 r31) ∧ (¬ x3 < r31 → cs_k S31 x0 = 10 ∧ wp_X8_put (fun S32 => post S32) G S31 x0 0 x3 0)) G S x0 x3) ∧ ((cs_ai S b29 x3.toNatClampNeg) = 10 → w_X8_scan_59 post G (w_X8_scan_22 post G n) S x0 x3))))
section
variable {p : Program} {l : Launch} {e : Env} {s : State} {m : MethodId} {args : Array Value} {below : List Frame} {meth : Method} {c : Code} {P : hw_G} {G : Nat → Nat} {A : Nat → Prop}
set_option maxRecDepth 100000 in
set_option maxHeartbeats 4000000 in
theorem t_X8_scan_22 {post : cs_S → Prop} (hC : rf_C P RX8 p s m meth c cX8_scan 5 none) (hin : meth.name = yX8_scan.name) (hO : cs_O G A s s.heap) : ∀ (n : Nat) (S : cs_S) (x0 : Nat) (x3 : Int32) (H : Heap) (locs : List Loc) (ls : Array Slot), w_X8_scan_22 post G n S x0 x3 → cs_T P s A S H locs → lv_has ls 5 [(0, .ref x0), (3, .int x3)] → W p l e rm_X8_scan s m args below meth c H locs 0 0 (MQ below (cs_Qv P A post) args s 0 0 A) (F0 m 22 ls []) := by
  obtain ⟨hx, hb, hml, hown, hK, -, -⟩ := id hC
  intro n
  induction n with
  | zero => intro S x0 x3 H locs ls h; exact False.elim h
  | succ n ih =>
    intro S x0 x3 H locs ls h hT hl
    refine lv_iload_n hx hb dX8_scan_22 rfl (lv_at hl 1 rfl) ?_
    refine lv_aload_n (x := x0) hx hb dX8_scan_23 rfl (lv_at hl 0 rfl) ?_
    obtain ⟨hk24_, h⟩ := h
    refine cs_get hx hb hK hT hown 9 hk24_ (by decide) rfl 5 (by decide) kfX8_53 (v := .int (cs_i S 905 x0)) rfl dX8_scan_24 ?_
    refine lv_icmp_ge (tgt := 92) hx hb dX8_scan_27 (by decide) (fun hc => ?_) (fun hc => ?_)
    · replace h := h.1 hc
      exact t_X8_scan_92 hC hin hO S x0 _ _ _ h hT (lv_sub hl [0] rfl)
    · replace h := h.2 hc
      refine lv_iload_n hx hb dX8_scan_30 rfl (lv_at hl 1 rfl) ?_
      refine lv_sipush (v := 2000) hx hb dX8_scan_31 (by decide) ?_
      refine lv_icmp_ge (tgt := 92) hx hb dX8_scan_34 (by decide) (fun hc => ?_) (fun hc => ?_)
      · replace h := h.1 hc
        exact t_X8_scan_92 hC hin hO S x0 _ _ _ h hT (lv_sub hl [0] rfl)
      · replace h := h.2 hc
        refine lv_aload_n (x := x0) hx hb dX8_scan_37 rfl (lv_at hl 0 rfl) ?_
        refine cs_get hx hb hK hT hown 9 hk24_ (by decide) rfl 4 (by decide) kfX8_28 (v := va_rf (cs_r S 904 x0)) rfl dX8_scan_38 ?_
        refine hw_topr (fun r25 er25 => ?_)
        replace h := h r25 er25
        refine lv_iload_n hx hb dX8_scan_41 rfl (lv_at hl 1 rfl) ?_
        obtain ⟨b26, rfl, h⟩ := h
        obtain ⟨hk27_, h⟩ := h
        obtain ⟨hi, h⟩ := h
        refine cs_iald hx hb hK hT hk27_ hi dX8_scan_42 ?_
        refine lv_bipush (v := 32) hx hb dX8_scan_43 (by decide) ?_
        refine lv_icmp_eq (tgt := 59) hx hb dX8_scan_45 (by decide) (fun hc => ?_) (fun hc => ?_)
        · replace h := h.1 hc
          exact t_X8_scan_59 hC hin hO ih S x0 x3 _ _ _ h hT (lv_sub hl [0, 1] rfl)
        · replace h := h.2 hc
          refine lv_aload_n (x := x0) hx hb dX8_scan_48 rfl (lv_at hl 0 rfl) ?_
          refine cs_get hx hb hK hT hown 9 hk24_ (by decide) rfl 4 (by decide) kfX8_28 (v := va_rf (cs_r S 904 x0)) rfl dX8_scan_49 ?_
          refine hw_topr (fun r28 er28 => ?_)
          replace h := h r28 er28
          refine lv_iload_n hx hb dX8_scan_52 rfl (lv_at hl 1 rfl) ?_
          obtain ⟨b29, rfl, h⟩ := h
          obtain ⟨hk30_, h⟩ := h
          obtain ⟨hi, h⟩ := h
          refine cs_iald hx hb hK hT hk30_ hi dX8_scan_53 ?_
          refine lv_bipush (v := 10) hx hb dX8_scan_54 (by decide) ?_
          refine lv_icmp_ne (tgt := 65) hx hb dX8_scan_56 (by decide) (fun hc => ?_) (fun hc => ?_)
          · replace h := h.1 hc
            refine lv_aload_n (x := x0) hx hb dX8_scan_65 rfl (lv_at hl 0 rfl) ?_
            refine lv_iload_n hx hb dX8_scan_66 rfl (lv_at hl 1 rfl) ?_
            refine cs_calli0 (cs_runV hx hb hml hown hK hO hT 9 hk24_ (by decide) rfl (c_X8_scanToken h) rfl rfl klX8_60 ki_X8_scanToken ks_X8_scanToken kn_X8 kc_X8_scanToken 1 ⟨rfl, by decide, by decide, by decide +kernel⟩ ⟨by decide, by decide⟩ rfl hl.1 rfl (hw_cat8 (Nat.le_of_ble_eq_true rfl)) ⟨(Nat.le_refl _), (Nat.le_refl _)⟩ dX8_scan_67) hT (fun r31 S31 H locs h_ hT_ => ?_)
            replace h := h_
            replace hT := hT_
            refine lv_istore (lv' := [(4, _), (0, _), (3, _)]) hx hb dX8_scan_70 hl (by decide) rfl (fun ls hl_ => ?_)
            replace hl := hl_
            refine lv_iload hx hb dX8_scan_72 (lv_at hl 0 rfl) ?_
            refine lv_iload_n hx hb dX8_scan_74 rfl (lv_at hl 2 rfl) ?_
            refine lv_icmp_gt (tgt := 86) hx hb dX8_scan_75 (by decide) (fun hc => ?_) (fun hc => ?_)
            · replace h := h.1 hc
              refine lv_iload hx hb dX8_scan_86 (lv_at hl 0 rfl) ?_
              refine lv_istore_n (lv' := [(3, _), (4, _), (0, _)]) hx hb dX8_scan_88 rfl hl (by decide) rfl (fun ls hl_ => ?_)
              replace hl := hl_
              refine lv_goto (tgt := 22) hx hb dX8_scan_89 (by decide) ?_
              exact ih S31 x0 r31 _ _ _ h hT (lv_sub hl [2, 0] rfl)
            · replace h := h.2 hc
              refine lv_aload_n (x := x0) hx hb dX8_scan_78 rfl (lv_at hl 1 rfl) ?_
              refine lv_iconst (v := 0) hx hb dX8_scan_79 (by decide) ?_
              refine lv_iload_n hx hb dX8_scan_80 rfl (lv_at hl 2 rfl) ?_
              refine lv_lconst (v := 0) hx hb dX8_scan_81 (by decide) ?_
              obtain ⟨hk33_, h⟩ := h
              refine cs_callv0 (cs_runV hx hb hml hown hK hO hT 9 hk33_ (by decide) rfl (c_X8_put h) rfl rfl klX8_64 ki_X8_put ks_X8_put kn_X8 kc_X8_put 3 ⟨rfl, by decide, by decide, by decide +kernel⟩ ⟨by decide, by decide⟩ rfl hl.1 rfl (hw_cat8 (Nat.le_of_ble_eq_true rfl)) ⟨(Nat.le_refl _), (Nat.le_refl _)⟩ dX8_scan_82) hT (fun S32 H locs h_ hT_ => ?_)
              replace h := h_
              replace hT := hT_
              exact cs_vret hC hT h dX8_scan_85 (Nat.le_refl _) (Nat.le_refl _)
          · replace h := h.2 hc
            exact t_X8_scan_59 hC hin hO ih S x0 x3 _ _ _ h hT (lv_sub hl [0, 1] rfl)
end
def wp_X8_scan (post : cs_S → Prop) (G : Nat → Nat) (S : cs_S) (o : Nat) (p1 : Option Nat) (p2 : Int32) : Prop := cs_k S o = 10 ∧ ∀ S35, S35 = cs_ur S 904 o p1 → ∃ b36, p1 = some b36 ∧ cs_k S35 b36 = 20 ∧ cs_k S35 o = 10 ∧ ∀ S39, S39 = cs_ui S35 905 o (if Int32.ofNat (cs_n S35 b36) < p2 then Int32.ofNat (cs_n S35 b36) else p2) → cs_k S39 o = 10 ∧ ∀ S41, S41 = cs_ui S39 906 o 0 → ∃ n9, w_X8_scan_22 post G n9 S41 o 0
set_option maxRecDepth 100000 in
set_option maxHeartbeats 4000000 in
theorem c_X8_scan {l : Launch} {P : hw_G} {G : Nat → Nat} {S : cs_S} {sz : Nat} {o : Nat} {p1 : Option Nat} {p2 : Int32} {post : cs_S → Prop} (h : wp_X8_scan post G S o p1 p2) : Met l yX8_scan [Cond.code yX8_scan cX8_scan 5 none] rm_X8_scan (cs_Pc P G S sz [.ref o, va_rf p1, .int p2]) (cs_Qv P (cs_A S sz) post) 0 0 (cs_A S sz) := by
  refine cs_met (by decide) rfl (by cases p1 <;> exact Nat.le_of_ble_eq_true rfl) ?_
  intro p e s m below meth c ls hC hin hO hT hl
  obtain ⟨hx, hb, hml, hown, hK, -, -⟩ := id hC
  replace hl : lv_has ls 5 [(0, .ref o), (1, va_rf p1), (2, .int p2)] := by cases p1 <;> exact hl
  refine lv_aload_n (x := o) hx hb dX8_scan_0 rfl (lv_at hl 0 rfl) ?_
  refine hw_aload_n (x := p1) hx hb dX8_scan_1 rfl (lv_at hl 1 rfl) ?_
  obtain ⟨hk34_, h⟩ := h
  refine cs_putr (x := p1) hx hb hK hT hown 9 hk34_ (by decide) rfl 4 (by decide) kfX8_28 rfl (tyX8_ok 4 (by decide)) rfl 904 rfl dX8_scan_2 (fun H locs hT_ => ?_)
  replace hT := hT_
  obtain ⟨S35, eS35⟩ : ∃ z, z = cs_ur S 904 o p1 := ⟨_, rfl⟩
  rw [← eS35] at hT
  replace h := h S35 eS35
  refine lv_aload_n (x := o) hx hb dX8_scan_5 rfl (lv_at hl 0 rfl) ?_
  refine lv_iload_n hx hb dX8_scan_6 rfl (lv_at hl 2 rfl) ?_
  refine hw_aload_n (x := p1) hx hb dX8_scan_7 rfl (lv_at hl 1 rfl) ?_
  obtain ⟨b36, rfl, h⟩ := h
  obtain ⟨hk37_, h⟩ := h
  refine cs_alen hx hb hK hT 20 hk37_ (by decide) (by decide) dX8_scan_8 ?_
  refine va_mmin hx hb (hml.trans hl.1.symm) hown (hK.word klX8_47m rfl) (hK.word ki_mmin rfl) (hK.word kn_J9 rfl) (hK.word kc_mmin rfl) (Nat.le_of_ble_eq_true rfl) (hw_catN (Nat.le_of_ble_eq_true rfl) (Nat.le_of_ble_eq_true rfl)) (Nat.le_refl _) (Nat.le_refl _) dX8_scan_9 ?_
  obtain ⟨hk38_, h⟩ := h
  refine cs_puti (x := (if Int32.ofNat (cs_n S35 b36) < p2 then Int32.ofNat (cs_n S35 b36) else p2)) hx hb hK hT hown 9 hk38_ (by decide) rfl 5 (by decide) kfX8_53 rfl (tyX8_ok 5 (by decide)) rfl 905 rfl dX8_scan_12 (fun H locs hT_ => ?_)
  replace hT := hT_
  obtain ⟨S39, eS39⟩ : ∃ z, z = cs_ui S35 905 o (if Int32.ofNat (cs_n S35 b36) < p2 then Int32.ofNat (cs_n S35 b36) else p2) := ⟨_, rfl⟩
  rw [← eS39] at hT
  replace h := h S39 eS39
  refine lv_aload_n (x := o) hx hb dX8_scan_15 rfl (lv_at hl 0 rfl) ?_
  refine lv_iconst (v := 0) hx hb dX8_scan_16 (by decide) ?_
  obtain ⟨hk40_, h⟩ := h
  refine cs_puti (x := 0) hx hb hK hT hown 9 hk40_ (by decide) rfl 6 (by decide) kfX8_57 rfl (tyX8_ok 6 (by decide)) rfl 906 rfl dX8_scan_17 (fun H locs hT_ => ?_)
  replace hT := hT_
  obtain ⟨S41, eS41⟩ : ∃ z, z = cs_ui S39 906 o 0 := ⟨_, rfl⟩
  rw [← eS41] at hT
  replace h := h S41 eS41
  refine lv_iconst (v := 0) hx hb dX8_scan_20 (by decide) ?_
  refine lv_istore_n (lv' := [(3, _), (0, _), (1, _), (2, _)]) hx hb dX8_scan_21 rfl hl (by decide) rfl (fun ls hl_ => ?_)
  replace hl := hl_
  obtain ⟨n9, h⟩ := h
  exact t_X8_scan_22 hC hin hO n9 S41 o 0 _ _ _ h hT (lv_sub hl [1, 0] rfl)
/-! Jxa1e45_init_da8c8 -/
abbrev rm_Jxa1e45_init_da8c8 : Room := { frames := 1, cells := 0, slots := 0, locals := 24 }
def wp_Jxa1e45_init_da8c8 (post : cs_S → Prop) (G : Nat → Nat) (S : cs_S) (o : Nat) : Prop := post S
set_option maxRecDepth 100000 in
set_option maxHeartbeats 4000000 in
theorem c_Jxa1e45_init_da8c8 {l : Launch} {P : hw_G} {G : Nat → Nat} {S : cs_S} {sz : Nat} {o : Nat} {post : cs_S → Prop} (h : wp_Jxa1e45_init_da8c8 post G S o) : Met l yJxa1e45_init_da8c8 [Cond.code yJxa1e45_init_da8c8 cJxa1e45_init_da8c8 1 none] rm_Jxa1e45_init_da8c8 (cs_Pc P G S sz [.ref o]) (cs_Qv P (cs_A S sz) post) 0 0 (cs_A S sz) := by
  refine cs_met (by decide) rfl (Nat.le_of_ble_eq_true rfl) ?_
  intro p e s m below meth c ls hC hin hO hT hl
  obtain ⟨hx, hb, hml, hown, hK, -, -⟩ := id hC
  replace hl : lv_has ls 1 [(0, .ref o)] := hl
  refine lv_aload_n (x := o) hx hb dJxa1e45_init_da8c8_0 rfl (lv_at hl 0 rfl) ?_
  refine cs_objInit hx hb hml hown hK hl.1 klJxa1e45_1 ki_obj kc_obj dJxa1e45_init_da8c8_1 (Nat.le_of_ble_eq_true rfl) (hw_catN (Nat.le_of_ble_eq_true rfl) (Nat.le_of_ble_eq_true rfl)) ?_
  exact cs_vret hC hT h dJxa1e45_init_da8c8_4 (Nat.le_refl _) (Nat.le_refl _)
/-! Jxc12de_init_da8c8 -/
abbrev rm_Jxc12de_init_da8c8 : Room := { frames := 2, cells := 0, slots := 0, locals := 44 }
def wp_Jxc12de_init_da8c8 (post : cs_S → Prop) (G : Nat → Nat) (S : cs_S) (o : Nat) : Prop := wp_Jxa1e45_init_da8c8 (fun S4 => cs_k S4 o = 1 ∧ ∀ S6, S6 = cs_ui S4 0 o 0 → post S6) G S o
set_option maxRecDepth 100000 in
set_option maxHeartbeats 4000000 in
theorem c_Jxc12de_init_da8c8 {l : Launch} {P : hw_G} {G : Nat → Nat} {S : cs_S} {sz : Nat} {o : Nat} {post : cs_S → Prop} (h : wp_Jxc12de_init_da8c8 post G S o) : Met l yJxc12de_init_da8c8 [Cond.code yJxc12de_init_da8c8 cJxc12de_init_da8c8 1 none] rm_Jxc12de_init_da8c8 (cs_Pc P G S sz [.ref o]) (cs_Qv P (cs_A S sz) post) 0 0 (cs_A S sz) := by
  refine cs_met (by decide) rfl (Nat.le_of_ble_eq_true rfl) ?_
  intro p e s m below meth c ls hC hin hO hT hl
  obtain ⟨hx, hb, hml, hown, hK, -, -⟩ := id hC
  replace hl : lv_has ls 1 [(0, .ref o)] := hl
  refine lv_aload_n (x := o) hx hb dJxc12de_init_da8c8_0 rfl (lv_at hl 0 rfl) ?_
  refine cs_callv0 (cs_runI hx hb hml hown hK hO hT (c_Jxa1e45_init_da8c8 h) rfl rfl klJxc12de_1 ki_Jxa1e45_init_da8c8 kn_Jxa1e45 kc_Jxa1e45_init_da8c8 rfl 0 ⟨by decide, by decide, by decide +kernel⟩ ⟨by decide, by decide⟩ rfl hl.1 rfl (hw_cat8 (Nat.le_of_ble_eq_true rfl)) ⟨(Nat.le_refl _), (Nat.le_refl _)⟩ dJxc12de_init_da8c8_1) hT (fun S4 H locs h_ hT_ => ?_)
  replace h := h_
  replace hT := hT_
  refine lv_aload_n (x := o) hx hb dJxc12de_init_da8c8_4 rfl (lv_at hl 0 rfl) ?_
  refine lv_iconst (v := 0) hx hb dJxc12de_init_da8c8_5 (by decide) ?_
  obtain ⟨hk5_, h⟩ := h
  refine cs_puti (x := 0) hx hb hK hT hown 0 hk5_ (by decide) rfl 0 (by decide) kfJxc12de_7 rfl (tyJx4a65c_ok 0 (by decide)) rfl 0 rfl dJxc12de_init_da8c8_6 (fun H locs hT_ => ?_)
  replace hT := hT_
  obtain ⟨S6, eS6⟩ : ∃ z, z = cs_ui S4 0 o 0 := ⟨_, rfl⟩
  rw [← eS6] at hT
  replace h := h S6 eS6
  exact cs_vret hC hT h dJxc12de_init_da8c8_9 (Nat.le_refl _) (Nat.le_refl _)
/-! Jx4a65c_init_da8c8 -/
abbrev rm_Jx4a65c_init_da8c8 : Room := { frames := 3, cells := 0, slots := 0, locals := 64 }
def wp_Jx4a65c_init_da8c8 (post : cs_S → Prop) (G : Nat → Nat) (S : cs_S) (o : Nat) : Prop := wp_Jxc12de_init_da8c8 (fun S4 => cs_k S4 o = 1 ∧ ∀ S6, S6 = cs_ur S4 1 o (some (G 1)) → post S6) G S o
set_option maxRecDepth 100000 in
set_option maxHeartbeats 4000000 in
theorem c_Jx4a65c_init_da8c8 {l : Launch} {P : hw_G} {G : Nat → Nat} {S : cs_S} {sz : Nat} {o : Nat} {post : cs_S → Prop} (h : wp_Jx4a65c_init_da8c8 post G S o) : Met l yJx4a65c_init_da8c8 [Cond.code yJx4a65c_init_da8c8 cJx4a65c_init_da8c8 1 none] rm_Jx4a65c_init_da8c8 (cs_Pc P G S sz [.ref o]) (cs_Qv P (cs_A S sz) post) 0 0 (cs_A S sz) := by
  refine cs_met (by decide) rfl (Nat.le_of_ble_eq_true rfl) ?_
  intro p e s m below meth c ls hC hin hO hT hl
  obtain ⟨hx, hb, hml, hown, hK, -, -⟩ := id hC
  replace hl : lv_has ls 1 [(0, .ref o)] := hl
  refine lv_aload_n (x := o) hx hb dJx4a65c_init_da8c8_0 rfl (lv_at hl 0 rfl) ?_
  refine cs_callv0 (cs_runI hx hb hml hown hK hO hT (c_Jxc12de_init_da8c8 h) rfl rfl klJx4a65c_1 ki_Jxc12de_init_da8c8 kn_Jxc12de kc_Jxc12de_init_da8c8 rfl 0 ⟨by decide, by decide, by decide +kernel⟩ ⟨by decide, by decide⟩ rfl hl.1 rfl (hw_cat8 (Nat.le_of_ble_eq_true rfl)) ⟨(Nat.le_refl _), (Nat.le_refl _)⟩ dJx4a65c_init_da8c8_1) hT (fun S4 H locs h_ hT_ => ?_)
  replace h := h_
  replace hT := hT_
  refine lv_aload_n (x := o) hx hb dJx4a65c_init_da8c8_4 rfl (lv_at hl 0 rfl) ?_
  refine cs_gets hx hb hO.2.1 hK hT hown kfJx4a65c_39 dJx4a65c_init_da8c8_5 ?_
  obtain ⟨hk5_, h⟩ := h
  refine cs_putr (x := (some (G 1))) hx hb hK hT hown 0 hk5_ (by decide) rfl 1 (by decide) kfJx4a65c_9 rfl (tyJx4a65c_ok 1 (by decide)) rfl 1 rfl dJx4a65c_init_da8c8_8 (fun H locs hT_ => ?_)
  replace hT := hT_
  obtain ⟨S6, eS6⟩ : ∃ z, z = cs_ur S4 1 o (some (G 1)) := ⟨_, rfl⟩
  rw [← eS6] at hT
  replace h := h S6 eS6
  exact cs_vret hC hT h dJx4a65c_init_da8c8_11 (Nat.le_refl _) (Nat.le_refl _)
/-! X10_init -/
abbrev rm_X10_init (mc ms : Nat) : Room := { frames := 4, cells := mc, slots := ms, locals := 84 }
def wp_X10_init (post : cs_S → Prop) (G : Nat → Nat) (mc ms : Nat) (S : cs_S) (o : Nat) (p1 : Option Nat) (p2 : Int32) : Prop := cs_k S o = 12 ∧ ∀ S17, S17 = cs_ur S 1100 o p1 → ∃ b18, p1 = some b18 ∧ cs_k S17 b18 = 22 ∧ cs_k S17 o = 12 ∧ ∀ S21, S21 = cs_ui S17 1101 o (if Int32.ofNat (cs_n S17 b18) < p2 then Int32.ofNat (cs_n S17 b18) else p2) → ¬ (64 : Int32) < 0 ∧ (64 : Int32).toNatClampNeg * 4 ≤ 536870912 ∧ 0 + 1 ≤ mc ∧ 0 + (64 : Int32).toNatClampNeg ≤ ms ∧ ∀ q22, cs_k S21 q22 = 0 → ∀ S23, S23 = cs_newA S21 q22 23 (64 : Int32).toNatClampNeg → cs_k S23 o = 12 ∧ ∀ S25, S25 = cs_ur S23 1102 o (some q22) → 0 + 1 + 1 ≤ mc ∧ 0 + (64 : Int32).toNatClampNeg + 3 ≤ ms ∧ ∀ q26, cs_k S25 q26 = 0 → ∀ S27, S27 = cs_new S25 q26 0 → wp_Jx4a65c_init_da8c8 (fun S28 => cs_k S28 o = 12 ∧ ∀ S30, S30 = cs_ur S28 1103 o (some q26) → post S30) G S27 q26
set_option maxRecDepth 100000 in
set_option maxHeartbeats 4000000 in
theorem c_X10_init {l : Launch} {P : hw_G} {G : Nat → Nat} {S : cs_S} {sz : Nat} {mc ms : Nat} {o : Nat} {p1 : Option Nat} {p2 : Int32} {post : cs_S → Prop} (h : wp_X10_init post G mc ms S o p1 p2) : Met l yX10_init [Cond.code yX10_init cX10_init 3 none] (rm_X10_init mc ms) (cs_Pc P G S sz [.ref o, va_rf p1, .int p2]) (cs_Qv P (cs_A S sz) post) mc ms (cs_A S sz) := by
  refine cs_met (by decide) rfl (by cases p1 <;> exact Nat.le_of_ble_eq_true rfl) ?_
  intro p e s m below meth c ls hC hin hO hT hl
  obtain ⟨hx, hb, hml, hown, hK, -, -⟩ := id hC
  replace hl : lv_has ls 3 [(0, .ref o), (1, va_rf p1), (2, .int p2)] := by cases p1 <;> exact hl
  refine lv_aload_n (x := o) hx hb dX10_init_0 rfl (lv_at hl 0 rfl) ?_
  refine cs_objInit hx hb hml hown hK hl.1 klX10_3 ki_obj kc_obj dX10_init_1 (Nat.le_of_ble_eq_true rfl) (hw_catN (Nat.le_of_ble_eq_true rfl) (Nat.le_of_ble_eq_true rfl)) ?_
  refine lv_aload_n (x := o) hx hb dX10_init_4 rfl (lv_at hl 0 rfl) ?_
  refine hw_aload_n (x := p1) hx hb dX10_init_5 rfl (lv_at hl 1 rfl) ?_
  obtain ⟨hk16_, h⟩ := h
  refine cs_putFr (x := p1) hx hb hK hT hown hin 11 hk16_ (by decide) rfl 0 (by decide) kfX10_9 rfl rfl (tyX10_ok 0 (by decide)) rfl 1100 rfl dX10_init_6 (fun H locs hT_ => ?_)
  replace hT := hT_
  obtain ⟨S17, eS17⟩ : ∃ z, z = cs_ur S 1100 o p1 := ⟨_, rfl⟩
  rw [← eS17] at hT
  replace h := h S17 eS17
  refine lv_aload_n (x := o) hx hb dX10_init_9 rfl (lv_at hl 0 rfl) ?_
  refine lv_iload_n hx hb dX10_init_10 rfl (lv_at hl 2 rfl) ?_
  refine hw_aload_n (x := p1) hx hb dX10_init_11 rfl (lv_at hl 1 rfl) ?_
  obtain ⟨b18, rfl, h⟩ := h
  obtain ⟨hk19_, h⟩ := h
  refine cs_alen hx hb hK hT 22 hk19_ (by decide) (by decide) dX10_init_12 ?_
  refine va_mmin hx hb (hml.trans hl.1.symm) hown (hK.word klX10_15m rfl) (hK.word ki_mmin rfl) (hK.word kn_J9 rfl) (hK.word kc_mmin rfl) (Nat.le_of_ble_eq_true rfl) (hw_catN (Nat.le_of_ble_eq_true rfl) (Nat.le_of_ble_eq_true rfl)) (Nat.zero_le _) (Nat.zero_le _) dX10_init_13 ?_
  obtain ⟨hk20_, h⟩ := h
  refine cs_putFi (x := (if Int32.ofNat (cs_n S17 b18) < p2 then Int32.ofNat (cs_n S17 b18) else p2)) hx hb hK hT hown hin 11 hk20_ (by decide) rfl 1 (by decide) kfX10_21 rfl rfl (tyX10_ok 1 (by decide)) rfl 1101 rfl dX10_init_16 (fun H locs hT_ => ?_)
  replace hT := hT_
  obtain ⟨S21, eS21⟩ : ∃ z, z = cs_ui S17 1101 o (if Int32.ofNat (cs_n S17 b18) < p2 then Int32.ofNat (cs_n S17 b18) else p2) := ⟨_, rfl⟩
  rw [← eS21] at hT
  replace h := h S21 eS21
  refine lv_aload_n (x := o) hx hb dX10_init_19 rfl (lv_at hl 0 rfl) ?_
  refine lv_bipush (v := 64) hx hb dX10_init_20 (by decide) ?_
  obtain ⟨hn1, hn2, hu22, hv22, h⟩ := h
  refine cs_anew hx hb hK hT hown 23 rfl kxX10_25 (by decide) (by decide) (by decide) hn1 hn2 hu22 hv22 dX10_init_22 (fun q22 H hq22 hT_ => ?_)
  replace h := h q22 hq22
  replace hT := hT_
  obtain ⟨S23, eS23⟩ : ∃ z, z = cs_newA S21 q22 23 (64 : Int32).toNatClampNeg := ⟨_, rfl⟩
  rw [← eS23] at hT
  replace h := h S23 eS23
  obtain ⟨hk24_, h⟩ := h
  refine cs_putFr (x := (some q22)) hx hb hK hT hown hin 11 hk24_ (by decide) rfl 2 (by decide) kfX10_27 rfl rfl (tyX10_ok 2 (by decide)) rfl 1102 rfl dX10_init_25 (fun H locs hT_ => ?_)
  replace hT := hT_
  obtain ⟨S25, eS25⟩ : ∃ z, z = cs_ur S23 1102 o (some q22) := ⟨_, rfl⟩
  rw [← eS25] at hT
  replace h := h S25 eS25
  refine lv_aload_n (x := o) hx hb dX10_init_28 rfl (lv_at hl 0 rfl) ?_
  obtain ⟨hu26, hv26, h⟩ := h
  refine cs_newo hx hb hK hT hown 0 (by decide) rfl tyJx4a65c_ok cs_df0 kxX10_31 kj_Jx4a65c kn_Jx4a65c hu26 hv26 dX10_init_29 (fun q26 H hq26 hT_ => ?_)
  replace h := h q26 hq26
  replace hT := hT_
  obtain ⟨S27, eS27⟩ : ∃ z, z = cs_new S25 q26 0 := ⟨_, rfl⟩
  rw [← eS27] at hT
  replace h := h S27 eS27
  refine lv_dup hx hb dX10_init_32 rfl ?_
  refine cs_callv0 (cs_runI hx hb hml hown hK hO hT (c_Jx4a65c_init_da8c8 h) rfl rfl klX10_33 ki_Jx4a65c_init_da8c8 kn_Jx4a65c kc_Jx4a65c_init_da8c8 rfl 0 ⟨by decide, by decide, by decide +kernel⟩ ⟨Nat.le_of_ble_eq_true rfl, Nat.le_of_ble_eq_true rfl⟩ rfl hl.1 rfl (hw_cat8 (Nat.le_of_ble_eq_true rfl)) ⟨hu26, hv26⟩ dX10_init_33) hT (fun S28 H locs h_ hT_ => ?_)
  replace h := h_
  replace hT := hT_
  obtain ⟨hk29_, h⟩ := h
  refine cs_putFr (x := (some q26)) hx hb hK hT hown hin 11 hk29_ (by decide) rfl 3 (by decide) kfX10_34 rfl rfl (tyX10_ok 3 (by decide)) rfl 1103 rfl dX10_init_36 (fun H locs hT_ => ?_)
  replace hT := hT_
  obtain ⟨S30, eS30⟩ : ∃ z, z = cs_ur S28 1103 o (some q26) := ⟨_, rfl⟩
  rw [← eS30] at hT
  replace h := h S30 eS30
  exact cs_vret hC hT h dX10_init_39 hu26 hv26
