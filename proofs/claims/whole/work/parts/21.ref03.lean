/-! X12_chainFirst -/
abbrev rm_X12_chainFirst : Room := { frames := 0, cells := 0, slots := 0, locals := 0 }
def w_X12_chainFirst_78 (post : Int32 → rf_S → Prop) (k9 : rf_S → Int32 → Int32 → Int32 → Int32 → Prop) (σ : rf_S) (x1 : Int32) (x2 : Int32) (x5 : Int32) (x6 : Int32) : Prop := k9 σ x1 x2 x5 (x6 + (-1))
section
variable {p : Program} {l : Launch} {e : Env} {s : State} {m : MethodId} {args : Array Value} {below : List Frame} {meth : Method} {c : Code} {P : hw_G} {o : Nat} {ad : Nat → Nat}
set_option maxRecDepth 100000 in
set_option maxHeartbeats 4000000 in
theorem t_X12_chainFirst_78 {post : Int32 → rf_S → Prop} {k9 : rf_S → Int32 → Int32 → Int32 → Int32 → Prop} (hC : rf_C P RX12 p s m meth c cX12_chainFirst 7 (some .int)) (hk9 : ∀ (σ : rf_S) (x1 : Int32) (x2 : Int32) (x5 : Int32) (x6 : Int32) (H : Heap) (locs : List Loc) (ls : Array Slot), k9 σ x1 x2 x5 x6 → rf_T P s (rf_A o ad) o ad σ H locs → lv_has ls 7 [(0, .ref o), (1, .int x1), (2, .int x2), (5, .int x5), (6, .int x6)] → W p l e rm_X12_chainFirst s m args below meth c H locs 0 0 (MQ below (rf_Qi P o ad post) args s 0 0 (rf_A o ad)) (F0 m 9 ls [])) (σ : rf_S) (x1 : Int32) (x2 : Int32) (x5 : Int32) (x6 : Int32) (H : Heap) (locs : List Loc) (ls : Array Slot) (h : w_X12_chainFirst_78 post k9 σ x1 x2 x5 x6) (hT : rf_T P s (rf_A o ad) o ad σ H locs) (hl : lv_has ls 7 [(0, .ref o), (1, .int x1), (2, .int x2), (5, .int x5), (6, .int x6)]) : W p l e rm_X12_chainFirst s m args below meth c H locs 0 0 (MQ below (rf_Qi P o ad post) args s 0 0 (rf_A o ad)) (F0 m 78 ls []) := by
  obtain ⟨hx, hb, hml, hown, hK, -, -⟩ := id hC
  refine lv_iinc (v := x6 + (-1)) (lv' := [(6, _), (0, _), (1, _), (2, _), (5, _)]) hx hb dX12_chainFirst_78 hl (k := 4) rfl rfl (by decide) rfl (fun ls hl => ?_)
  refine lv_goto (tgt := 9) hx hb dX12_chainFirst_81 (by decide) ?_
  exact hk9 σ x1 x2 x5 (x6 + (-1)) _ _ _ h hT (lv_sub hl [1, 2, 3, 4, 0] rfl)
end
def w_X12_chainFirst_63 (post : Int32 → rf_S → Prop) (k9 : rf_S → Int32 → Int32 → Int32 → Int32 → Prop) (σ : rf_S) (x1 : Int32) (x2 : Int32) (x5 : Int32) (x6 : Int32) : Prop := (0 ≤ x5 → (x6 ≤ 0 → w_X12_chainFirst_78 post k9 σ x1 x2 x5 x6) ∧ (¬ x6 ≤ 0 → w_X12_chainFirst_78 post k9 σ x1 x2 (x5 + (-1)) x6)) ∧ (¬ 0 ≤ x5 → post ((-1)) σ)
section
variable {p : Program} {l : Launch} {e : Env} {s : State} {m : MethodId} {args : Array Value} {below : List Frame} {meth : Method} {c : Code} {P : hw_G} {o : Nat} {ad : Nat → Nat}
set_option maxRecDepth 100000 in
set_option maxHeartbeats 4000000 in
theorem t_X12_chainFirst_63 {post : Int32 → rf_S → Prop} {k9 : rf_S → Int32 → Int32 → Int32 → Int32 → Prop} (hC : rf_C P RX12 p s m meth c cX12_chainFirst 7 (some .int)) (hk9 : ∀ (σ : rf_S) (x1 : Int32) (x2 : Int32) (x5 : Int32) (x6 : Int32) (H : Heap) (locs : List Loc) (ls : Array Slot), k9 σ x1 x2 x5 x6 → rf_T P s (rf_A o ad) o ad σ H locs → lv_has ls 7 [(0, .ref o), (1, .int x1), (2, .int x2), (5, .int x5), (6, .int x6)] → W p l e rm_X12_chainFirst s m args below meth c H locs 0 0 (MQ below (rf_Qi P o ad post) args s 0 0 (rf_A o ad)) (F0 m 9 ls [])) (σ : rf_S) (x1 : Int32) (x2 : Int32) (x5 : Int32) (x6 : Int32) (H : Heap) (locs : List Loc) (ls : Array Slot) (h : w_X12_chainFirst_63 post k9 σ x1 x2 x5 x6) (hT : rf_T P s (rf_A o ad) o ad σ H locs) (hl : lv_has ls 7 [(0, .ref o), (1, .int x1), (2, .int x2), (5, .int x5), (6, .int x6)]) : W p l e rm_X12_chainFirst s m args below meth c H locs 0 0 (MQ below (rf_Qi P o ad post) args s 0 0 (rf_A o ad)) (F0 m 63 ls []) := by
  obtain ⟨hx, hb, hml, hown, hK, -, -⟩ := id hC
  refine lv_iload hx hb dX12_chainFirst_63 (lv_at hl 3 rfl) ?_
  refine lv_if_ge (tgt := 70) hx hb dX12_chainFirst_65 (by decide) (fun hc => ?_) (fun hc => ?_)
  · have h := h.1 hc
    refine lv_iload hx hb dX12_chainFirst_70 (lv_at hl 4 rfl) ?_
    refine lv_if_le (tgt := 78) hx hb dX12_chainFirst_72 (by decide) (fun hc => ?_) (fun hc => ?_)
    · have h := h.1 hc
      exact t_X12_chainFirst_78 hC hk9 σ x1 x2 x5 x6 _ _ _ h hT (lv_sub hl [0, 1, 2, 3, 4] rfl)
    · have h := h.2 hc
      refine lv_iinc (v := x5 + (-1)) (lv' := [(5, _), (0, _), (1, _), (2, _), (6, _)]) hx hb dX12_chainFirst_75 hl (k := 3) rfl rfl (by decide) rfl (fun ls hl => ?_)
      exact t_X12_chainFirst_78 hC hk9 σ x1 x2 (x5 + (-1)) x6 _ _ _ h hT (lv_sub hl [1, 2, 3, 0, 4] rfl)
  · have h := h.2 hc
    refine lv_iconst (v := (-1)) hx hb dX12_chainFirst_68 (by decide) ?_
    exact rf_iret hC hT h dX12_chainFirst_69
end
def w_X12_chainFirst_57 (post : Int32 → rf_S → Prop) (k9 : rf_S → Int32 → Int32 → Int32 → Int32 → Prop) (k14 : rf_S → Int32 → Int32 → Int32 → Int32 → Prop) (σ : rf_S) (x1 : Int32) (x2 : Int32) (x5 : Int32) (x6 : Int32) : Prop := k14 σ x1 x2 (x5 + (-1)) x6
section
variable {p : Program} {l : Launch} {e : Env} {s : State} {m : MethodId} {args : Array Value} {below : List Frame} {meth : Method} {c : Code} {P : hw_G} {o : Nat} {ad : Nat → Nat}
set_option maxRecDepth 100000 in
set_option maxHeartbeats 4000000 in
theorem t_X12_chainFirst_57 {post : Int32 → rf_S → Prop} {k9 : rf_S → Int32 → Int32 → Int32 → Int32 → Prop} {k14 : rf_S → Int32 → Int32 → Int32 → Int32 → Prop} (hC : rf_C P RX12 p s m meth c cX12_chainFirst 7 (some .int)) (hk9 : ∀ (σ : rf_S) (x1 : Int32) (x2 : Int32) (x5 : Int32) (x6 : Int32) (H : Heap) (locs : List Loc) (ls : Array Slot), k9 σ x1 x2 x5 x6 → rf_T P s (rf_A o ad) o ad σ H locs → lv_has ls 7 [(0, .ref o), (1, .int x1), (2, .int x2), (5, .int x5), (6, .int x6)] → W p l e rm_X12_chainFirst s m args below meth c H locs 0 0 (MQ below (rf_Qi P o ad post) args s 0 0 (rf_A o ad)) (F0 m 9 ls [])) (hk14 : ∀ (σ : rf_S) (x1 : Int32) (x2 : Int32) (x5 : Int32) (x6 : Int32) (H : Heap) (locs : List Loc) (ls : Array Slot), k14 σ x1 x2 x5 x6 → rf_T P s (rf_A o ad) o ad σ H locs → lv_has ls 7 [(0, .ref o), (1, .int x1), (2, .int x2), (5, .int x5), (6, .int x6)] → W p l e rm_X12_chainFirst s m args below meth c H locs 0 0 (MQ below (rf_Qi P o ad post) args s 0 0 (rf_A o ad)) (F0 m 14 ls [])) (σ : rf_S) (x1 : Int32) (x2 : Int32) (x5 : Int32) (x6 : Int32) (H : Heap) (locs : List Loc) (ls : Array Slot) (h : w_X12_chainFirst_57 post k9 k14 σ x1 x2 x5 x6) (hT : rf_T P s (rf_A o ad) o ad σ H locs) (hl : lv_has ls 7 [(0, .ref o), (1, .int x1), (2, .int x2), (5, .int x5), (6, .int x6)]) : W p l e rm_X12_chainFirst s m args below meth c H locs 0 0 (MQ below (rf_Qi P o ad post) args s 0 0 (rf_A o ad)) (F0 m 57 ls []) := by
  obtain ⟨hx, hb, hml, hown, hK, -, -⟩ := id hC
  refine lv_iinc (v := x5 + (-1)) (lv' := [(5, _), (0, _), (1, _), (2, _), (6, _)]) hx hb dX12_chainFirst_57 hl (k := 3) rfl rfl (by decide) rfl (fun ls hl => ?_)
  refine lv_goto (tgt := 14) hx hb dX12_chainFirst_60 (by decide) ?_
  exact hk14 σ x1 x2 (x5 + (-1)) x6 _ _ _ h hT (lv_sub hl [1, 2, 3, 0, 4] rfl)
end
def w_X12_chainFirst_14 (post : Int32 → rf_S → Prop) (k9 : rf_S → Int32 → Int32 → Int32 → Int32 → Prop) : Nat → rf_S → Int32 → Int32 → Int32 → Int32 → Prop
  | 0, _, _, _, _, _ => False
  | n + 1, σ, x1, x2, x5, x6 => (x5 < 0 → w_X12_chainFirst_63 post k9 σ x1 x2 x5 x6) ∧ (¬ x5 < 0 → vp_in ((4000 * x1) + x5) (rf_n 63) ∧ (¬ (σ.2.2.1 63 ((4000 * x1) + x5).toNatClampNeg) = x2 → w_X12_chainFirst_57 post k9 (w_X12_chainFirst_14 post k9 n) σ x1 x2 x5 x6) ∧ ((σ.2.2.1 63 ((4000 * x1) + x5).toNatClampNeg) = x2 → vp_in ((4000 * x1) + x5) (rf_n 64) ∧ (¬ (((σ.2.2.1 64 ((4000 * x1) + x5).toNatClampNeg) >>> (x6 &&& 31)) &&& 1) = 0 → w_X12_chainFirst_63 post k9 σ x1 x2 x5 x6) ∧ ((((σ.2.2.1 64 ((4000 * x1) + x5).toNatClampNeg) >>> (x6 &&& 31)) &&& 1) = 0 → w_X12_chainFirst_57 post k9 (w_X12_chainFirst_14 post k9 n) σ x1 x2 x5 x6)))
section
variable {p : Program} {l : Launch} {e : Env} {s : State} {m : MethodId} {args : Array Value} {below : List Frame} {meth : Method} {c : Code} {P : hw_G} {o : Nat} {ad : Nat → Nat}
set_option maxRecDepth 100000 in
set_option maxHeartbeats 4000000 in
theorem t_X12_chainFirst_14 {post : Int32 → rf_S → Prop} {k9 : rf_S → Int32 → Int32 → Int32 → Int32 → Prop} (hC : rf_C P RX12 p s m meth c cX12_chainFirst 7 (some .int)) (hk9 : ∀ (σ : rf_S) (x1 : Int32) (x2 : Int32) (x5 : Int32) (x6 : Int32) (H : Heap) (locs : List Loc) (ls : Array Slot), k9 σ x1 x2 x5 x6 → rf_T P s (rf_A o ad) o ad σ H locs → lv_has ls 7 [(0, .ref o), (1, .int x1), (2, .int x2), (5, .int x5), (6, .int x6)] → W p l e rm_X12_chainFirst s m args below meth c H locs 0 0 (MQ below (rf_Qi P o ad post) args s 0 0 (rf_A o ad)) (F0 m 9 ls [])) : ∀ (n : Nat) (σ : rf_S) (x1 : Int32) (x2 : Int32) (x5 : Int32) (x6 : Int32) (H : Heap) (locs : List Loc) (ls : Array Slot), w_X12_chainFirst_14 post k9 n σ x1 x2 x5 x6 → rf_T P s (rf_A o ad) o ad σ H locs → lv_has ls 7 [(0, .ref o), (1, .int x1), (2, .int x2), (5, .int x5), (6, .int x6)] → W p l e rm_X12_chainFirst s m args below meth c H locs 0 0 (MQ below (rf_Qi P o ad post) args s 0 0 (rf_A o ad)) (F0 m 14 ls []) := by
  obtain ⟨hx, hb, hml, hown, hK, -, -⟩ := id hC
  intro n
  induction n with
  | zero => intro σ x1 x2 x5 x6 H locs ls h; exact False.elim h
  | succ n ih =>
    intro σ x1 x2 x5 x6 H locs ls h hT hl
    refine lv_iload hx hb dX12_chainFirst_14 (lv_at hl 3 rfl) ?_
    refine lv_if_lt (tgt := 63) hx hb dX12_chainFirst_16 (by decide) (fun hc => ?_) (fun hc => ?_)
    · have h := h.1 hc
      exact t_X12_chainFirst_63 hC hk9 σ x1 x2 x5 x6 _ _ _ h hT (lv_sub hl [0, 1, 2, 3, 4] rfl)
    · have h := h.2 hc
      refine lv_aload_n hx hb dX12_chainFirst_19 rfl (lv_at hl 0 rfl) ?_
      refine rf_get hx hb hK hT hown 63 (by decide) kfX12_87 (v := .ref (ad 63)) rfl dX12_chainFirst_20 ?_
      refine lv_sipush (v := 4000) hx hb dX12_chainFirst_23 (by decide) ?_
      refine lv_iload_n hx hb dX12_chainFirst_26 rfl (lv_at hl 1 rfl) ?_
      refine lv_imul hx hb dX12_chainFirst_27 ?_
      refine lv_iload hx hb dX12_chainFirst_28 (lv_at hl 3 rfl) ?_
      refine lv_iadd hx hb dX12_chainFirst_30 ?_
      obtain ⟨hi, h⟩ := h
      refine rf_sald hx hb hK hT 63 (by decide) rfl hi (v := σ.2.2.1 63 ((4000 * x1) + x5).toNatClampNeg) rfl dX12_chainFirst_31 ?_
      refine lv_iload_n hx hb dX12_chainFirst_32 rfl (lv_at hl 2 rfl) ?_
      refine lv_icmp_ne (tgt := 57) hx hb dX12_chainFirst_33 (by decide) (fun hc => ?_) (fun hc => ?_)
      · have h := h.1 hc
        exact t_X12_chainFirst_57 hC hk9 ih σ x1 x2 x5 x6 _ _ _ h hT (lv_sub hl [0, 1, 2, 3, 4] rfl)
      · have h := h.2 hc
        refine lv_aload_n hx hb dX12_chainFirst_36 rfl (lv_at hl 0 rfl) ?_
        refine rf_get hx hb hK hT hown 64 (by decide) kfX12_260 (v := .ref (ad 64)) rfl dX12_chainFirst_37 ?_
        refine lv_sipush (v := 4000) hx hb dX12_chainFirst_40 (by decide) ?_
        refine lv_iload_n hx hb dX12_chainFirst_43 rfl (lv_at hl 1 rfl) ?_
        refine lv_imul hx hb dX12_chainFirst_44 ?_
        refine lv_iload hx hb dX12_chainFirst_45 (lv_at hl 3 rfl) ?_
        refine lv_iadd hx hb dX12_chainFirst_47 ?_
        obtain ⟨hi, h⟩ := h
        refine rf_bald hx hb hK hT 64 (by decide) rfl hi (v := σ.2.2.1 64 ((4000 * x1) + x5).toNatClampNeg) rfl dX12_chainFirst_48 ?_
        refine lv_iload hx hb dX12_chainFirst_49 (lv_at hl 4 rfl) ?_
        refine lv_ishr hx hb dX12_chainFirst_51 ?_
        refine lv_iconst (v := 1) hx hb dX12_chainFirst_52 (by decide) ?_
        refine lv_iand hx hb dX12_chainFirst_53 ?_
        refine lv_if_ne (tgt := 63) hx hb dX12_chainFirst_54 (by decide) (fun hc => ?_) (fun hc => ?_)
        · have h := h.1 hc
          exact t_X12_chainFirst_63 hC hk9 σ x1 x2 x5 x6 _ _ _ h hT (lv_sub hl [0, 1, 2, 3, 4] rfl)
        · have h := h.2 hc
          exact t_X12_chainFirst_57 hC hk9 ih σ x1 x2 x5 x6 _ _ _ h hT (lv_sub hl [0, 1, 2, 3, 4] rfl)
end
def w_X12_chainFirst_9 (post : Int32 → rf_S → Prop) : Nat → rf_S → Int32 → Int32 → Int32 → Int32 → Prop
  | 0, _, _, _, _, _ => False
  | n + 1, σ, x1, x2, x5, x6 => (x6 < 0 → post x5 σ) ∧ (¬ x6 < 0 → ∃ n9, w_X12_chainFirst_14 post (w_X12_chainFirst_9 post n) n9 σ x1 x2 x5 x6)
section
variable {p : Program} {l : Launch} {e : Env} {s : State} {m : MethodId} {args : Array Value} {below : List Frame} {meth : Method} {c : Code} {P : hw_G} {o : Nat} {ad : Nat → Nat}
set_option maxRecDepth 100000 in
set_option maxHeartbeats 4000000 in
theorem t_X12_chainFirst_9 {post : Int32 → rf_S → Prop} (hC : rf_C P RX12 p s m meth c cX12_chainFirst 7 (some .int)) : ∀ (n : Nat) (σ : rf_S) (x1 : Int32) (x2 : Int32) (x5 : Int32) (x6 : Int32) (H : Heap) (locs : List Loc) (ls : Array Slot), w_X12_chainFirst_9 post n σ x1 x2 x5 x6 → rf_T P s (rf_A o ad) o ad σ H locs → lv_has ls 7 [(0, .ref o), (1, .int x1), (2, .int x2), (5, .int x5), (6, .int x6)] → W p l e rm_X12_chainFirst s m args below meth c H locs 0 0 (MQ below (rf_Qi P o ad post) args s 0 0 (rf_A o ad)) (F0 m 9 ls []) := by
  obtain ⟨hx, hb, hml, hown, hK, -, -⟩ := id hC
  intro n
  induction n with
  | zero => intro σ x1 x2 x5 x6 H locs ls h; exact False.elim h
  | succ n ih =>
    intro σ x1 x2 x5 x6 H locs ls h hT hl
    refine lv_iload hx hb dX12_chainFirst_9 (lv_at hl 4 rfl) ?_
    refine lv_if_lt (tgt := 84) hx hb dX12_chainFirst_11 (by decide) (fun hc => ?_) (fun hc => ?_)
    · have h := h.1 hc
      refine lv_iload hx hb dX12_chainFirst_84 (lv_at hl 3 rfl) ?_
      exact rf_iret hC hT h dX12_chainFirst_86
    · have h := h.2 hc
      obtain ⟨n9, h⟩ := h
      exact t_X12_chainFirst_14 hC ih n9 σ x1 x2 x5 x6 _ _ _ h hT (lv_sub hl [0, 1, 2, 3, 4] rfl)
end
def wp_X12_chainFirst (post : Int32 → rf_S → Prop) (σ : rf_S) (p1 : Int32) (p2 : Int32) (p3 : Int32) (p4 : Int32) : Prop := ∃ n9, w_X12_chainFirst_9 post n9 σ p1 p2 p4 (p3 - 1)
set_option maxRecDepth 100000 in
set_option maxHeartbeats 4000000 in
theorem c_X12_chainFirst {l : Launch} {P : hw_G} {o : Nat} {ad : Nat → Nat} {σ : rf_S} {p1 : Int32} {p2 : Int32} {p3 : Int32} {p4 : Int32} {post : Int32 → rf_S → Prop} (h : wp_X12_chainFirst post σ p1 p2 p3 p4) : Met l yX12_chainFirst [Cond.code yX12_chainFirst cX12_chainFirst 7 (some .int)] rm_X12_chainFirst (rf_Pc P o ad σ [.ref o, .int p1, .int p2, .int p3, .int p4]) (rf_Qi P o ad post) 0 0 (rf_A o ad) := by
  refine rf_met (by decide) rfl (Nat.le_of_ble_eq_true rfl) ?_
  intro p e s m below meth c ls hC hT hl
  obtain ⟨hx, hb, hml, hown, hK, -, -⟩ := id hC
  have hl : lv_has ls 7 [(0, .ref o), (1, .int p1), (2, .int p2), (3, .int p3), (4, .int p4)] := hl
  refine lv_iload hx hb dX12_chainFirst_0 (lv_at hl 4 rfl) ?_
  refine lv_istore (lv' := [(5, _), (0, _), (1, _), (2, _), (3, _), (4, _)]) hx hb dX12_chainFirst_2 hl (by decide) rfl (fun ls hl => ?_)
  refine lv_iload_n hx hb dX12_chainFirst_4 rfl (lv_at hl 4 rfl) ?_
  refine lv_iconst (v := 1) hx hb dX12_chainFirst_5 (by decide) ?_
  refine lv_isub hx hb dX12_chainFirst_6 ?_
  refine lv_istore (lv' := [(6, _), (5, _), (0, _), (1, _), (2, _), (3, _), (4, _)]) hx hb dX12_chainFirst_7 hl (by decide) rfl (fun ls hl => ?_)
  obtain ⟨n9, h⟩ := h
  exact t_X12_chainFirst_9 hC n9 σ p1 p2 p4 (p3 - 1) _ _ _ h hT (lv_sub hl [2, 3, 4, 1, 0] rfl)
/-! X12_isClear -/
abbrev rm_X12_isClear : Room := { frames := 0, cells := 0, slots := 0, locals := 0 }
def w_X12_isClear_50 (post : Int32 → rf_S → Prop) (k5 : rf_S → Int32 → Int32 → Int32 → Int32 → Prop) (σ : rf_S) (x1 : Int32) (x2 : Int32) (x4 : Int32) (x5 : Int32) : Prop := k5 σ x1 x2 x4 (x5 + 1)
section
variable {p : Program} {l : Launch} {e : Env} {s : State} {m : MethodId} {args : Array Value} {below : List Frame} {meth : Method} {c : Code} {P : hw_G} {o : Nat} {ad : Nat → Nat}
set_option maxRecDepth 100000 in
set_option maxHeartbeats 4000000 in
theorem t_X12_isClear_50 {post : Int32 → rf_S → Prop} {k5 : rf_S → Int32 → Int32 → Int32 → Int32 → Prop} (hC : rf_C P RX12 p s m meth c cX12_isClear 6 (some .boolean)) (hk5 : ∀ (σ : rf_S) (x1 : Int32) (x2 : Int32) (x4 : Int32) (x5 : Int32) (H : Heap) (locs : List Loc) (ls : Array Slot), k5 σ x1 x2 x4 x5 → rf_T P s (rf_A o ad) o ad σ H locs → lv_has ls 6 [(0, .ref o), (1, .int x1), (2, .int x2), (4, .int x4), (5, .int x5)] → W p l e rm_X12_isClear s m args below meth c H locs 0 0 (MQ below (rf_Qi P o ad post) args s 0 0 (rf_A o ad)) (F0 m 5 ls [])) (σ : rf_S) (x1 : Int32) (x2 : Int32) (x4 : Int32) (x5 : Int32) (H : Heap) (locs : List Loc) (ls : Array Slot) (h : w_X12_isClear_50 post k5 σ x1 x2 x4 x5) (hT : rf_T P s (rf_A o ad) o ad σ H locs) (hl : lv_has ls 6 [(0, .ref o), (1, .int x1), (2, .int x2), (4, .int x4), (5, .int x5)]) : W p l e rm_X12_isClear s m args below meth c H locs 0 0 (MQ below (rf_Qi P o ad post) args s 0 0 (rf_A o ad)) (F0 m 50 ls []) := by
  obtain ⟨hx, hb, hml, hown, hK, -, -⟩ := id hC
  refine lv_iinc (v := x5 + 1) (lv' := [(5, _), (0, _), (1, _), (2, _), (4, _)]) hx hb dX12_isClear_50 hl (k := 4) rfl rfl (by decide) rfl (fun ls hl => ?_)
  refine lv_goto (tgt := 5) hx hb dX12_isClear_53 (by decide) ?_
  exact hk5 σ x1 x2 x4 (x5 + 1) _ _ _ h hT (lv_sub hl [1, 2, 3, 4, 0] rfl)
end
def w_X12_isClear_5 (post : Int32 → rf_S → Prop) : Nat → rf_S → Int32 → Int32 → Int32 → Int32 → Prop
  | 0, _, _, _, _, _ => False
  | n + 1, σ, x1, x2, x4, x5 => (x4 ≤ x5 → post 1 σ) ∧ (¬ x4 ≤ x5 → vp_in ((4000 * x1) + x5) (rf_n 63) ∧ (¬ (σ.2.2.1 63 ((4000 * x1) + x5).toNatClampNeg) = x2 → w_X12_isClear_50 post (w_X12_isClear_5 post n) σ x1 x2 x4 x5) ∧ ((σ.2.2.1 63 ((4000 * x1) + x5).toNatClampNeg) = x2 → vp_in ((4000 * x1) + x5) (rf_n 64) ∧ (((σ.2.2.1 64 ((4000 * x1) + x5).toNatClampNeg) &&& 32) ≤ 0 → w_X12_isClear_50 post (w_X12_isClear_5 post n) σ x1 x2 x4 x5) ∧ (¬ ((σ.2.2.1 64 ((4000 * x1) + x5).toNatClampNeg) &&& 32) ≤ 0 → post 0 σ)))
section
variable {p : Program} {l : Launch} {e : Env} {s : State} {m : MethodId} {args : Array Value} {below : List Frame} {meth : Method} {c : Code} {P : hw_G} {o : Nat} {ad : Nat → Nat}
set_option maxRecDepth 100000 in
set_option maxHeartbeats 4000000 in
theorem t_X12_isClear_5 {post : Int32 → rf_S → Prop} (hC : rf_C P RX12 p s m meth c cX12_isClear 6 (some .boolean)) : ∀ (n : Nat) (σ : rf_S) (x1 : Int32) (x2 : Int32) (x4 : Int32) (x5 : Int32) (H : Heap) (locs : List Loc) (ls : Array Slot), w_X12_isClear_5 post n σ x1 x2 x4 x5 → rf_T P s (rf_A o ad) o ad σ H locs → lv_has ls 6 [(0, .ref o), (1, .int x1), (2, .int x2), (4, .int x4), (5, .int x5)] → W p l e rm_X12_isClear s m args below meth c H locs 0 0 (MQ below (rf_Qi P o ad post) args s 0 0 (rf_A o ad)) (F0 m 5 ls []) := by
  obtain ⟨hx, hb, hml, hown, hK, -, -⟩ := id hC
  intro n
  induction n with
  | zero => intro σ x1 x2 x4 x5 H locs ls h; exact False.elim h
  | succ n ih =>
    intro σ x1 x2 x4 x5 H locs ls h hT hl
    refine lv_iload hx hb dX12_isClear_5 (lv_at hl 4 rfl) ?_
    refine lv_iload hx hb dX12_isClear_7 (lv_at hl 3 rfl) ?_
    refine lv_icmp_ge (tgt := 56) hx hb dX12_isClear_9 (by decide) (fun hc => ?_) (fun hc => ?_)
    · have h := h.1 hc
      refine lv_iconst (v := 1) hx hb dX12_isClear_56 (by decide) ?_
      exact rf_zret hC hT rfl h dX12_isClear_57
    · have h := h.2 hc
      refine lv_aload_n hx hb dX12_isClear_12 rfl (lv_at hl 0 rfl) ?_
      refine rf_get hx hb hK hT hown 63 (by decide) kfX12_87 (v := .ref (ad 63)) rfl dX12_isClear_13 ?_
      refine lv_sipush (v := 4000) hx hb dX12_isClear_16 (by decide) ?_
      refine lv_iload_n hx hb dX12_isClear_19 rfl (lv_at hl 1 rfl) ?_
      refine lv_imul hx hb dX12_isClear_20 ?_
      refine lv_iload hx hb dX12_isClear_21 (lv_at hl 4 rfl) ?_
      refine lv_iadd hx hb dX12_isClear_23 ?_
      obtain ⟨hi, h⟩ := h
      refine rf_sald hx hb hK hT 63 (by decide) rfl hi (v := σ.2.2.1 63 ((4000 * x1) + x5).toNatClampNeg) rfl dX12_isClear_24 ?_
      refine lv_iload_n hx hb dX12_isClear_25 rfl (lv_at hl 2 rfl) ?_
      refine lv_icmp_ne (tgt := 50) hx hb dX12_isClear_26 (by decide) (fun hc => ?_) (fun hc => ?_)
      · have h := h.1 hc
        exact t_X12_isClear_50 hC ih σ x1 x2 x4 x5 _ _ _ h hT (lv_sub hl [0, 1, 2, 3, 4] rfl)
      · have h := h.2 hc
        refine lv_aload_n hx hb dX12_isClear_29 rfl (lv_at hl 0 rfl) ?_
        refine rf_get hx hb hK hT hown 64 (by decide) kfX12_260 (v := .ref (ad 64)) rfl dX12_isClear_30 ?_
        refine lv_sipush (v := 4000) hx hb dX12_isClear_33 (by decide) ?_
        refine lv_iload_n hx hb dX12_isClear_36 rfl (lv_at hl 1 rfl) ?_
        refine lv_imul hx hb dX12_isClear_37 ?_
        refine lv_iload hx hb dX12_isClear_38 (lv_at hl 4 rfl) ?_
        refine lv_iadd hx hb dX12_isClear_40 ?_
        obtain ⟨hi, h⟩ := h
        refine rf_bald hx hb hK hT 64 (by decide) rfl hi (v := σ.2.2.1 64 ((4000 * x1) + x5).toNatClampNeg) rfl dX12_isClear_41 ?_
        refine lv_bipush (v := 32) hx hb dX12_isClear_42 (by decide) ?_
        refine lv_iand hx hb dX12_isClear_44 ?_
        refine lv_if_le (tgt := 50) hx hb dX12_isClear_45 (by decide) (fun hc => ?_) (fun hc => ?_)
        · have h := h.1 hc
          exact t_X12_isClear_50 hC ih σ x1 x2 x4 x5 _ _ _ h hT (lv_sub hl [0, 1, 2, 3, 4] rfl)
        · have h := h.2 hc
          refine lv_iconst (v := 0) hx hb dX12_isClear_48 (by decide) ?_
          exact rf_zret hC hT rfl h dX12_isClear_49
end
def wp_X12_isClear (post : Int32 → rf_S → Prop) (σ : rf_S) (p1 : Int32) (p2 : Int32) (p3 : Int32) (p4 : Int32) : Prop := ∃ n9, w_X12_isClear_5 post n9 σ p1 p2 p4 (p3 + 1)
set_option maxRecDepth 100000 in
set_option maxHeartbeats 4000000 in
theorem c_X12_isClear {l : Launch} {P : hw_G} {o : Nat} {ad : Nat → Nat} {σ : rf_S} {p1 : Int32} {p2 : Int32} {p3 : Int32} {p4 : Int32} {post : Int32 → rf_S → Prop} (h : wp_X12_isClear post σ p1 p2 p3 p4) : Met l yX12_isClear [Cond.code yX12_isClear cX12_isClear 6 (some .boolean)] rm_X12_isClear (rf_Pc P o ad σ [.ref o, .int p1, .int p2, .int p3, .int p4]) (rf_Qi P o ad post) 0 0 (rf_A o ad) := by
  refine rf_met (by decide) rfl (Nat.le_of_ble_eq_true rfl) ?_
  intro p e s m below meth c ls hC hT hl
  obtain ⟨hx, hb, hml, hown, hK, -, -⟩ := id hC
  have hl : lv_has ls 6 [(0, .ref o), (1, .int p1), (2, .int p2), (3, .int p3), (4, .int p4)] := hl
  refine lv_iload_n hx hb dX12_isClear_0 rfl (lv_at hl 3 rfl) ?_
  refine lv_iconst (v := 1) hx hb dX12_isClear_1 (by decide) ?_
  refine lv_iadd hx hb dX12_isClear_2 ?_
  refine lv_istore (lv' := [(5, _), (0, _), (1, _), (2, _), (3, _), (4, _)]) hx hb dX12_isClear_3 hl (by decide) rfl (fun ls hl => ?_)
  obtain ⟨n9, h⟩ := h
  exact t_X12_isClear_5 hC n9 σ p1 p2 p4 (p3 + 1) _ _ _ h hT (lv_sub hl [1, 2, 3, 5, 0] rfl)
/-! X12_chainStart -/
abbrev rm_X12_chainStart : Room := { frames := 1, cells := 0, slots := 0, locals := 26 }
def w_X12_chainStart_121 (post : Int32 → rf_S → Prop) (σ : rf_S) (y0 : Int32) : Prop := post y0 σ
section
variable {p : Program} {l : Launch} {e : Env} {s : State} {m : MethodId} {args : Array Value} {below : List Frame} {meth : Method} {c : Code} {P : hw_G} {o : Nat} {ad : Nat → Nat}
set_option maxRecDepth 100000 in
set_option maxHeartbeats 4000000 in
theorem t_X12_chainStart_121 {post : Int32 → rf_S → Prop} (hC : rf_C P RX12 p s m meth c cX12_chainStart 7 (some .int)) (σ : rf_S) (y0 : Int32) (H : Heap) (locs : List Loc) (ls : Array Slot) (h : w_X12_chainStart_121 post σ y0) (hT : rf_T P s (rf_A o ad) o ad σ H locs) (hl : lv_has ls 7 []) : W p l e rm_X12_chainStart s m args below meth c H locs 0 0 (MQ below (rf_Qi P o ad post) args s 0 0 (rf_A o ad)) (F0 m 121 ls [.int y0]) := by
  obtain ⟨hx, hb, hml, hown, hK, -, -⟩ := id hC
  exact rf_iret hC hT h dX12_chainStart_121
end
def w_X12_chainStart_108 (post : Int32 → rf_S → Prop) (σ : rf_S) (x5 : Int32) (y0 : Int32) : Prop := (y0 = 0 → w_X12_chainStart_121 post σ ((-1))) ∧ (¬ y0 = 0 → w_X12_chainStart_121 post σ x5)
section
variable {p : Program} {l : Launch} {e : Env} {s : State} {m : MethodId} {args : Array Value} {below : List Frame} {meth : Method} {c : Code} {P : hw_G} {o : Nat} {ad : Nat → Nat}
set_option maxRecDepth 100000 in
set_option maxHeartbeats 4000000 in
theorem t_X12_chainStart_108 {post : Int32 → rf_S → Prop} (hC : rf_C P RX12 p s m meth c cX12_chainStart 7 (some .int)) (σ : rf_S) (x5 : Int32) (y0 : Int32) (H : Heap) (locs : List Loc) (ls : Array Slot) (h : w_X12_chainStart_108 post σ x5 y0) (hT : rf_T P s (rf_A o ad) o ad σ H locs) (hl : lv_has ls 7 [(5, .int x5)]) : W p l e rm_X12_chainStart s m args below meth c H locs 0 0 (MQ below (rf_Qi P o ad post) args s 0 0 (rf_A o ad)) (F0 m 108 ls [.int y0]) := by
  obtain ⟨hx, hb, hml, hown, hK, -, -⟩ := id hC
  refine lv_istore (lv' := [(6, _), (5, _)]) hx hb dX12_chainStart_108 hl (by decide) rfl (fun ls hl => ?_)
  refine lv_iload hx hb dX12_chainStart_110 (lv_at hl 0 rfl) ?_
  refine lv_if_eq (tgt := 120) hx hb dX12_chainStart_112 (by decide) (fun hc => ?_) (fun hc => ?_)
  · have h := h.1 hc
    refine lv_iconst (v := (-1)) hx hb dX12_chainStart_120 (by decide) ?_
    exact t_X12_chainStart_121 hC σ ((-1)) _ _ _ h hT (lv_sub hl [] rfl)
  · have h := h.2 hc
    refine lv_iload hx hb dX12_chainStart_115 (lv_at hl 1 rfl) ?_
    refine lv_goto (tgt := 121) hx hb dX12_chainStart_117 (by decide) ?_
    exact t_X12_chainStart_121 hC σ x5 _ _ _ h hT (lv_sub hl [] rfl)
end
def w_X12_chainStart_107 (post : Int32 → rf_S → Prop) (σ : rf_S) (x5 : Int32) : Prop := w_X12_chainStart_108 post σ x5 0
section
variable {p : Program} {l : Launch} {e : Env} {s : State} {m : MethodId} {args : Array Value} {below : List Frame} {meth : Method} {c : Code} {P : hw_G} {o : Nat} {ad : Nat → Nat}
set_option maxRecDepth 100000 in
set_option maxHeartbeats 4000000 in
theorem t_X12_chainStart_107 {post : Int32 → rf_S → Prop} (hC : rf_C P RX12 p s m meth c cX12_chainStart 7 (some .int)) (σ : rf_S) (x5 : Int32) (H : Heap) (locs : List Loc) (ls : Array Slot) (h : w_X12_chainStart_107 post σ x5) (hT : rf_T P s (rf_A o ad) o ad σ H locs) (hl : lv_has ls 7 [(5, .int x5)]) : W p l e rm_X12_chainStart s m args below meth c H locs 0 0 (MQ below (rf_Qi P o ad post) args s 0 0 (rf_A o ad)) (F0 m 107 ls []) := by
  obtain ⟨hx, hb, hml, hown, hK, -, -⟩ := id hC
  refine lv_iconst (v := 0) hx hb dX12_chainStart_107 (by decide) ?_
  exact t_X12_chainStart_108 hC σ x5 0 _ _ _ h hT (lv_sub hl [0] rfl)
end
def w_X12_chainStart_56 (post : Int32 → rf_S → Prop) (σ : rf_S) (x1 : Int32) (x2 : Int32) (x3 : Int32) (x4 : Int32) (y0 : Int32) : Prop := (y0 < 0 → w_X12_chainStart_107 post σ y0) ∧ (¬ y0 < 0 → vp_in y0 (rf_n 8) ∧ vp_in x2 (rf_n 8) ∧ vp_in x3 (rf_n 44) ∧ ((lg_cmp ((σ.2.2.1 8 y0.toNatClampNeg).toInt64) (((σ.2.2.1 8 x2.toNatClampNeg).toInt64) - ((σ.2.2.1 44 x3.toNatClampNeg).toInt64))) ≤ 0 → w_X12_chainStart_107 post σ y0) ∧ (¬ (lg_cmp ((σ.2.2.1 8 y0.toNatClampNeg).toInt64) (((σ.2.2.1 8 x2.toNatClampNeg).toInt64) - ((σ.2.2.1 44 x3.toNatClampNeg).toInt64))) ≤ 0 → wp_X12_isClear (fun r3 σ3 => (r3 = 0 → w_X12_chainStart_107 post σ3 y0) ∧ (¬ r3 = 0 → w_X12_chainStart_108 post σ3 y0 1)) σ x1 x4 y0 x2))
section
variable {p : Program} {l : Launch} {e : Env} {s : State} {m : MethodId} {args : Array Value} {below : List Frame} {meth : Method} {c : Code} {P : hw_G} {o : Nat} {ad : Nat → Nat}
set_option maxRecDepth 100000 in
set_option maxHeartbeats 4000000 in
theorem t_X12_chainStart_56 {post : Int32 → rf_S → Prop} (hC : rf_C P RX12 p s m meth c cX12_chainStart 7 (some .int)) (σ : rf_S) (x1 : Int32) (x2 : Int32) (x3 : Int32) (x4 : Int32) (y0 : Int32) (H : Heap) (locs : List Loc) (ls : Array Slot) (h : w_X12_chainStart_56 post σ x1 x2 x3 x4 y0) (hT : rf_T P s (rf_A o ad) o ad σ H locs) (hl : lv_has ls 7 [(0, .ref o), (1, .int x1), (2, .int x2), (3, .int x3), (4, .int x4)]) : W p l e rm_X12_chainStart s m args below meth c H locs 0 0 (MQ below (rf_Qi P o ad post) args s 0 0 (rf_A o ad)) (F0 m 56 ls [.int y0]) := by
  obtain ⟨hx, hb, hml, hown, hK, -, -⟩ := id hC
  refine lv_istore (lv' := [(5, _), (0, _), (1, _), (2, _), (3, _), (4, _)]) hx hb dX12_chainStart_56 hl (by decide) rfl (fun ls hl => ?_)
  refine lv_iload hx hb dX12_chainStart_58 (lv_at hl 0 rfl) ?_
  refine lv_if_lt (tgt := 107) hx hb dX12_chainStart_60 (by decide) (fun hc => ?_) (fun hc => ?_)
  · have h := h.1 hc
    exact t_X12_chainStart_107 hC σ y0 _ _ _ h hT (lv_sub hl [0] rfl)
  · have h := h.2 hc
    refine lv_aload_n hx hb dX12_chainStart_63 rfl (lv_at hl 1 rfl) ?_
    refine rf_get hx hb hK hT hown 8 (by decide) kfX12_170 (v := .ref (ad 8)) rfl dX12_chainStart_64 ?_
    refine lv_iload hx hb dX12_chainStart_67 (lv_at hl 0 rfl) ?_
    obtain ⟨hi, h⟩ := h
    refine rf_iald hx hb hK hT 8 (by decide) rfl hi (v := σ.2.2.1 8 y0.toNatClampNeg) rfl dX12_chainStart_69 ?_
    refine lv_i2l (v := (σ.2.2.1 8 y0.toNatClampNeg).toInt64) hx hb dX12_chainStart_70 rfl ?_
    refine lv_aload_n hx hb dX12_chainStart_71 rfl (lv_at hl 1 rfl) ?_
    refine rf_get hx hb hK hT hown 8 (by decide) kfX12_170 (v := .ref (ad 8)) rfl dX12_chainStart_72 ?_
    refine lv_iload_n hx hb dX12_chainStart_75 rfl (lv_at hl 3 rfl) ?_
    obtain ⟨hi, h⟩ := h
    refine rf_iald hx hb hK hT 8 (by decide) rfl hi (v := σ.2.2.1 8 x2.toNatClampNeg) rfl dX12_chainStart_76 ?_
    refine lv_i2l (v := (σ.2.2.1 8 x2.toNatClampNeg).toInt64) hx hb dX12_chainStart_77 rfl ?_
    refine lv_aload_n hx hb dX12_chainStart_78 rfl (lv_at hl 1 rfl) ?_
    refine rf_get hx hb hK hT hown 44 (by decide) kfX12_226 (v := .ref (ad 44)) rfl dX12_chainStart_79 ?_
    refine lv_iload_n hx hb dX12_chainStart_82 rfl (lv_at hl 4 rfl) ?_
    obtain ⟨hi, h⟩ := h
    refine rf_iald hx hb hK hT 44 (by decide) rfl hi (v := σ.2.2.1 44 x3.toNatClampNeg) rfl dX12_chainStart_83 ?_
    refine lv_i2l (v := (σ.2.2.1 44 x3.toNatClampNeg).toInt64) hx hb dX12_chainStart_84 rfl ?_
    refine lv_lsub hx hb dX12_chainStart_85 ?_
    refine W.lcmp hx hb dX12_chainStart_86 ?_
    refine lv_if_le (tgt := 107) hx hb dX12_chainStart_87 (by decide) (fun hc => ?_) (fun hc => ?_)
    · have h := h.1 hc
      exact t_X12_chainStart_107 hC σ y0 _ _ _ h hT (lv_sub hl [0] rfl)
    · have h := h.2 hc
      refine lv_aload_n hx hb dX12_chainStart_90 rfl (lv_at hl 1 rfl) ?_
      refine lv_iload_n hx hb dX12_chainStart_91 rfl (lv_at hl 2 rfl) ?_
      refine lv_iload hx hb dX12_chainStart_92 (lv_at hl 5 rfl) ?_
      refine lv_iload hx hb dX12_chainStart_94 (lv_at hl 0 rfl) ?_
      refine lv_iload_n hx hb dX12_chainStart_96 rfl (lv_at hl 3 rfl) ?_
      refine rf_calli (rf_runV hx hb hml hown hK hT (c_X12_isClear h) rfl rfl klX12_483 ki_X12_isClear ks_X12_isClear kn_X12 kc_X12_isClear 4 ⟨rfl, by decide, by decide, by decide +kernel⟩ ⟨by decide, by decide⟩ rfl hl.1 rfl (Nat.le_of_ble_eq_true rfl) ⟨Nat.le_refl _, Nat.le_refl _⟩ dX12_chainStart_97) hT (fun r3 σ3 H locs h hT => ?_)
      refine lv_if_eq (tgt := 107) hx hb dX12_chainStart_100 (by decide) (fun hc => ?_) (fun hc => ?_)
      · have h := h.1 hc
        exact t_X12_chainStart_107 hC σ3 y0 _ _ _ h hT (lv_sub hl [0] rfl)
      · have h := h.2 hc
        refine lv_iconst (v := 1) hx hb dX12_chainStart_103 (by decide) ?_
        refine lv_goto (tgt := 108) hx hb dX12_chainStart_104 (by decide) ?_
        exact t_X12_chainStart_108 hC σ3 y0 1 _ _ _ h hT (lv_sub hl [0] rfl)
end
def wp_X12_chainStart (post : Int32 → rf_S → Prop) (σ : rf_S) (p1 : Int32) (p2 : Int32) : Prop := vp_in ((4000 * p1) + p2) (rf_n 63) ∧ vp_in ((12 * (σ.1 32)) + p1) (rf_n 40) ∧ (¬ (σ.2.2.1 40 ((12 * (σ.1 32)) + p1).toNatClampNeg) = 1 → vp_in ((12 * (σ.1 32)) + p1) (rf_n 40) ∧ wp_X12_chainFirst (fun r4 σ4 => w_X12_chainStart_56 post σ4 p1 p2 ((12 * (σ.1 32)) + p1) (σ.2.2.1 63 ((4000 * p1) + p2).toNatClampNeg) r4) σ p1 (σ.2.2.1 63 ((4000 * p1) + p2).toNatClampNeg) ((σ.2.2.1 40 ((12 * (σ.1 32)) + p1).toNatClampNeg) - 1) (p2 - 1)) ∧ ((σ.2.2.1 40 ((12 * (σ.1 32)) + p1).toNatClampNeg) = 1 → w_X12_chainStart_56 post σ p1 p2 ((12 * (σ.1 32)) + p1) (σ.2.2.1 63 ((4000 * p1) + p2).toNatClampNeg) p2)
set_option maxRecDepth 100000 in
set_option maxHeartbeats 4000000 in
theorem c_X12_chainStart {l : Launch} {P : hw_G} {o : Nat} {ad : Nat → Nat} {σ : rf_S} {p1 : Int32} {p2 : Int32} {post : Int32 → rf_S → Prop} (h : wp_X12_chainStart post σ p1 p2) : Met l yX12_chainStart [Cond.code yX12_chainStart cX12_chainStart 7 (some .int)] rm_X12_chainStart (rf_Pc P o ad σ [.ref o, .int p1, .int p2]) (rf_Qi P o ad post) 0 0 (rf_A o ad) := by
  refine rf_met (by decide) rfl (Nat.le_of_ble_eq_true rfl) ?_
  intro p e s m below meth c ls hC hT hl
  obtain ⟨hx, hb, hml, hown, hK, -, -⟩ := id hC
  have hl : lv_has ls 7 [(0, .ref o), (1, .int p1), (2, .int p2)] := hl
  refine lv_bipush (v := 12) hx hb dX12_chainStart_0 (by decide) ?_
  refine lv_aload_n hx hb dX12_chainStart_2 rfl (lv_at hl 0 rfl) ?_
  refine rf_get hx hb hK hT hown 32 (by decide) kfX12_368 (v := .int (σ.1 32)) rfl dX12_chainStart_3 ?_
  refine lv_imul hx hb dX12_chainStart_6 ?_
  refine lv_iload_n hx hb dX12_chainStart_7 rfl (lv_at hl 1 rfl) ?_
  refine lv_iadd hx hb dX12_chainStart_8 ?_
  refine lv_istore_n (lv' := [(3, _), (0, _), (1, _), (2, _)]) hx hb dX12_chainStart_9 rfl hl (by decide) rfl (fun ls hl => ?_)
  refine lv_aload_n hx hb dX12_chainStart_10 rfl (lv_at hl 1 rfl) ?_
  refine rf_get hx hb hK hT hown 63 (by decide) kfX12_87 (v := .ref (ad 63)) rfl dX12_chainStart_11 ?_
  refine lv_sipush (v := 4000) hx hb dX12_chainStart_14 (by decide) ?_
  refine lv_iload_n hx hb dX12_chainStart_17 rfl (lv_at hl 2 rfl) ?_
  refine lv_imul hx hb dX12_chainStart_18 ?_
  refine lv_iload_n hx hb dX12_chainStart_19 rfl (lv_at hl 3 rfl) ?_
  refine lv_iadd hx hb dX12_chainStart_20 ?_
  obtain ⟨hi, h⟩ := h
  refine rf_sald hx hb hK hT 63 (by decide) rfl hi (v := σ.2.2.1 63 ((4000 * p1) + p2).toNatClampNeg) rfl dX12_chainStart_21 ?_
  refine lv_istore (lv' := [(4, _), (3, _), (0, _), (1, _), (2, _)]) hx hb dX12_chainStart_22 hl (by decide) rfl (fun ls hl => ?_)
  refine lv_aload_n hx hb dX12_chainStart_24 rfl (lv_at hl 2 rfl) ?_
  refine rf_get hx hb hK hT hown 40 (by decide) kfX12_214 (v := .ref (ad 40)) rfl dX12_chainStart_25 ?_
  refine lv_iload_n hx hb dX12_chainStart_28 rfl (lv_at hl 1 rfl) ?_
  obtain ⟨hi, h⟩ := h
  refine rf_iald hx hb hK hT 40 (by decide) rfl hi (v := σ.2.2.1 40 ((12 * (σ.1 32)) + p1).toNatClampNeg) rfl dX12_chainStart_29 ?_
  refine lv_iconst (v := 1) hx hb dX12_chainStart_30 (by decide) ?_
  refine lv_icmp_ne (tgt := 38) hx hb dX12_chainStart_31 (by decide) (fun hc => ?_) (fun hc => ?_)
  · have h := h.1 hc
    refine lv_aload_n hx hb dX12_chainStart_38 rfl (lv_at hl 2 rfl) ?_
    refine lv_iload_n hx hb dX12_chainStart_39 rfl (lv_at hl 3 rfl) ?_
    refine lv_iload hx hb dX12_chainStart_40 (lv_at hl 0 rfl) ?_
    refine lv_aload_n hx hb dX12_chainStart_42 rfl (lv_at hl 2 rfl) ?_
    refine rf_get hx hb hK hT hown 40 (by decide) kfX12_214 (v := .ref (ad 40)) rfl dX12_chainStart_43 ?_
    refine lv_iload_n hx hb dX12_chainStart_46 rfl (lv_at hl 1 rfl) ?_
    obtain ⟨hi, h⟩ := h
    refine rf_iald hx hb hK hT 40 (by decide) rfl hi (v := σ.2.2.1 40 ((12 * (σ.1 32)) + p1).toNatClampNeg) rfl dX12_chainStart_47 ?_
    refine lv_iconst (v := 1) hx hb dX12_chainStart_48 (by decide) ?_
    refine lv_isub hx hb dX12_chainStart_49 ?_
    refine lv_iload_n hx hb dX12_chainStart_50 rfl (lv_at hl 4 rfl) ?_
    refine lv_iconst (v := 1) hx hb dX12_chainStart_51 (by decide) ?_
    refine lv_isub hx hb dX12_chainStart_52 ?_
    refine rf_calli (rf_runV hx hb hml hown hK hT (c_X12_chainFirst h) rfl rfl klX12_479 ki_X12_chainFirst ks_X12_chainFirst kn_X12 kc_X12_chainFirst 4 ⟨rfl, by decide, by decide, by decide +kernel⟩ ⟨by decide, by decide⟩ rfl hl.1 rfl (Nat.le_of_ble_eq_true rfl) ⟨Nat.le_refl _, Nat.le_refl _⟩ dX12_chainStart_53) hT (fun r4 σ4 H locs h hT => ?_)
    exact t_X12_chainStart_56 hC σ4 p1 p2 ((12 * (σ.1 32)) + p1) (σ.2.2.1 63 ((4000 * p1) + p2).toNatClampNeg) r4 _ _ _ h hT (lv_sub hl [2, 3, 4, 1, 0] rfl)
  · have h := h.2 hc
    refine lv_iload_n hx hb dX12_chainStart_34 rfl (lv_at hl 4 rfl) ?_
    refine lv_goto (tgt := 56) hx hb dX12_chainStart_35 (by decide) ?_
    exact t_X12_chainStart_56 hC σ p1 p2 ((12 * (σ.1 32)) + p1) (σ.2.2.1 63 ((4000 * p1) + p2).toNatClampNeg) p2 _ _ _ h hT (lv_sub hl [2, 3, 4, 1, 0] rfl)
/-! X12_hasIt -/
abbrev rm_X12_hasIt : Room := { frames := 1, cells := 0, slots := 0, locals := 24 }
def w_X12_hasIt_75 (post : Int32 → rf_S → Prop) (σ : rf_S) (y0 : Int32) : Prop := narrow .boolean (.int y0) = .int y0 ∧ post y0 σ
section
variable {p : Program} {l : Launch} {e : Env} {s : State} {m : MethodId} {args : Array Value} {below : List Frame} {meth : Method} {c : Code} {P : hw_G} {o : Nat} {ad : Nat → Nat}
set_option maxRecDepth 100000 in
set_option maxHeartbeats 4000000 in
theorem t_X12_hasIt_75 {post : Int32 → rf_S → Prop} (hC : rf_C P RX12 p s m meth c cX12_hasIt 5 (some .boolean)) (σ : rf_S) (y0 : Int32) (H : Heap) (locs : List Loc) (ls : Array Slot) (h : w_X12_hasIt_75 post σ y0) (hT : rf_T P s (rf_A o ad) o ad σ H locs) (hl : lv_has ls 5 []) : W p l e rm_X12_hasIt s m args below meth c H locs 0 0 (MQ below (rf_Qi P o ad post) args s 0 0 (rf_A o ad)) (F0 m 75 ls [.int y0]) := by
  obtain ⟨hx, hb, hml, hown, hK, -, -⟩ := id hC
  exact rf_zret hC hT h.1 h.2 dX12_hasIt_75
end
def w_X12_hasIt_74 (post : Int32 → rf_S → Prop) (σ : rf_S)  : Prop := w_X12_hasIt_75 post σ 0
section
variable {p : Program} {l : Launch} {e : Env} {s : State} {m : MethodId} {args : Array Value} {below : List Frame} {meth : Method} {c : Code} {P : hw_G} {o : Nat} {ad : Nat → Nat}
set_option maxRecDepth 100000 in
set_option maxHeartbeats 4000000 in
theorem t_X12_hasIt_74 {post : Int32 → rf_S → Prop} (hC : rf_C P RX12 p s m meth c cX12_hasIt 5 (some .boolean)) (σ : rf_S)  (H : Heap) (locs : List Loc) (ls : Array Slot) (h : w_X12_hasIt_74 post σ ) (hT : rf_T P s (rf_A o ad) o ad σ H locs) (hl : lv_has ls 5 []) : W p l e rm_X12_hasIt s m args below meth c H locs 0 0 (MQ below (rf_Qi P o ad post) args s 0 0 (rf_A o ad)) (F0 m 74 ls []) := by
  obtain ⟨hx, hb, hml, hown, hK, -, -⟩ := id hC
  refine lv_iconst (v := 0) hx hb dX12_hasIt_74 (by decide) ?_
  exact t_X12_hasIt_75 hC σ 0 _ _ _ h hT (lv_sub hl [] rfl)
end
def w_X12_hasIt_70 (post : Int32 → rf_S → Prop) (σ : rf_S)  : Prop := w_X12_hasIt_75 post σ 1
section
variable {p : Program} {l : Launch} {e : Env} {s : State} {m : MethodId} {args : Array Value} {below : List Frame} {meth : Method} {c : Code} {P : hw_G} {o : Nat} {ad : Nat → Nat}
set_option maxRecDepth 100000 in
set_option maxHeartbeats 4000000 in
theorem t_X12_hasIt_70 {post : Int32 → rf_S → Prop} (hC : rf_C P RX12 p s m meth c cX12_hasIt 5 (some .boolean)) (σ : rf_S)  (H : Heap) (locs : List Loc) (ls : Array Slot) (h : w_X12_hasIt_70 post σ ) (hT : rf_T P s (rf_A o ad) o ad σ H locs) (hl : lv_has ls 5 []) : W p l e rm_X12_hasIt s m args below meth c H locs 0 0 (MQ below (rf_Qi P o ad post) args s 0 0 (rf_A o ad)) (F0 m 70 ls []) := by
  obtain ⟨hx, hb, hml, hown, hK, -, -⟩ := id hC
  refine lv_iconst (v := 1) hx hb dX12_hasIt_70 (by decide) ?_
  refine lv_goto (tgt := 75) hx hb dX12_hasIt_71 (by decide) ?_
  exact t_X12_hasIt_75 hC σ 1 _ _ _ h hT (lv_sub hl [] rfl)
end
def w_X12_hasIt_32 (post : Int32 → rf_S → Prop) (σ : rf_S) (x2 : Int32) (x3 : Int32) : Prop := vp_in x3 (rf_n 36) ∧ wp_X12_fieldOf (fun r2 σ2 => (r2 < 0 → w_X12_hasIt_74 post σ2) ∧ (¬ r2 < 0 → vp_in x3 (rf_n 38) ∧ ((σ2.2.2.1 38 x3.toNatClampNeg) = 1 → w_X12_hasIt_70 post σ2) ∧ (¬ (σ2.2.2.1 38 x3.toNatClampNeg) = 1 → vp_in r2 (rf_n 14) ∧ (¬ (σ2.2.2.1 14 r2.toNatClampNeg) = 0 → w_X12_hasIt_74 post σ2) ∧ ((σ2.2.2.1 14 r2.toNatClampNeg) = 0 → w_X12_hasIt_70 post σ2)))) σ x2 (σ.2.2.2 36 x3.toNatClampNeg)
section
variable {p : Program} {l : Launch} {e : Env} {s : State} {m : MethodId} {args : Array Value} {below : List Frame} {meth : Method} {c : Code} {P : hw_G} {o : Nat} {ad : Nat → Nat}
set_option maxRecDepth 100000 in
set_option maxHeartbeats 4000000 in
theorem t_X12_hasIt_32 {post : Int32 → rf_S → Prop} (hC : rf_C P RX12 p s m meth c cX12_hasIt 5 (some .boolean)) (σ : rf_S) (x2 : Int32) (x3 : Int32) (H : Heap) (locs : List Loc) (ls : Array Slot) (h : w_X12_hasIt_32 post σ x2 x3) (hT : rf_T P s (rf_A o ad) o ad σ H locs) (hl : lv_has ls 5 [(0, .ref o), (2, .int x2), (3, .int x3)]) : W p l e rm_X12_hasIt s m args below meth c H locs 0 0 (MQ below (rf_Qi P o ad post) args s 0 0 (rf_A o ad)) (F0 m 32 ls []) := by
  obtain ⟨hx, hb, hml, hown, hK, -, -⟩ := id hC
  refine lv_aload_n hx hb dX12_hasIt_32 rfl (lv_at hl 0 rfl) ?_
  refine lv_iload_n hx hb dX12_hasIt_33 rfl (lv_at hl 1 rfl) ?_
  refine lv_aload_n hx hb dX12_hasIt_34 rfl (lv_at hl 0 rfl) ?_
  refine rf_get hx hb hK hT hown 36 (by decide) kfX12_202 (v := .ref (ad 36)) rfl dX12_hasIt_35 ?_
  refine lv_iload_n hx hb dX12_hasIt_38 rfl (lv_at hl 2 rfl) ?_
  obtain ⟨hi, h⟩ := h
  refine rf_lald hx hb hK hT 36 (by decide) rfl hi (v := σ.2.2.2 36 x3.toNatClampNeg) rfl dX12_hasIt_39 ?_
  refine rf_calli (rf_runV hx hb hml hown hK hT (c_X12_fieldOf h) rfl rfl klX12_438 ki_X12_fieldOf ks_X12_fieldOf kn_X12 kc_X12_fieldOf 2 ⟨rfl, by decide, by decide, by decide +kernel⟩ ⟨by decide, by decide⟩ rfl hl.1 rfl (Nat.le_of_ble_eq_true rfl) ⟨Nat.le_refl _, Nat.le_refl _⟩ dX12_hasIt_40) hT (fun r2 σ2 H locs h hT => ?_)
  refine lv_istore (lv' := [(4, _), (0, _), (2, _), (3, _)]) hx hb dX12_hasIt_43 hl (by decide) rfl (fun ls hl => ?_)
  refine lv_iload hx hb dX12_hasIt_45 (lv_at hl 0 rfl) ?_
  refine lv_if_lt (tgt := 74) hx hb dX12_hasIt_47 (by decide) (fun hc => ?_) (fun hc => ?_)
  · have h := h.1 hc
    exact t_X12_hasIt_74 hC σ2 _ _ _ h hT (lv_sub hl [] rfl)
  · have h := h.2 hc
    refine lv_aload_n hx hb dX12_hasIt_50 rfl (lv_at hl 1 rfl) ?_
    refine rf_get hx hb hK hT hown 38 (by decide) kfX12_208 (v := .ref (ad 38)) rfl dX12_hasIt_51 ?_
    refine lv_iload_n hx hb dX12_hasIt_54 rfl (lv_at hl 3 rfl) ?_
    obtain ⟨hi, h⟩ := h
    refine rf_iald hx hb hK hT 38 (by decide) rfl hi (v := σ2.2.2.1 38 x3.toNatClampNeg) rfl dX12_hasIt_55 ?_
    refine lv_iconst (v := 1) hx hb dX12_hasIt_56 (by decide) ?_
    refine lv_icmp_eq (tgt := 70) hx hb dX12_hasIt_57 (by decide) (fun hc => ?_) (fun hc => ?_)
    · have h := h.1 hc
      exact t_X12_hasIt_70 hC σ2 _ _ _ h hT (lv_sub hl [] rfl)
    · have h := h.2 hc
      refine lv_aload_n hx hb dX12_hasIt_60 rfl (lv_at hl 1 rfl) ?_
      refine rf_get hx hb hK hT hown 14 (by decide) kfX12_27 (v := .ref (ad 14)) rfl dX12_hasIt_61 ?_
      refine lv_iload hx hb dX12_hasIt_64 (lv_at hl 0 rfl) ?_
      obtain ⟨hi, h⟩ := h
      refine rf_bald hx hb hK hT 14 (by decide) rfl hi (v := σ2.2.2.1 14 r2.toNatClampNeg) rfl dX12_hasIt_66 ?_
      refine lv_if_ne (tgt := 74) hx hb dX12_hasIt_67 (by decide) (fun hc => ?_) (fun hc => ?_)
      · have h := h.1 hc
        exact t_X12_hasIt_74 hC σ2 _ _ _ h hT (lv_sub hl [] rfl)
      · have h := h.2 hc
        exact t_X12_hasIt_70 hC σ2 _ _ _ h hT (lv_sub hl [] rfl)
end
def wp_X12_hasIt (post : Int32 → rf_S → Prop) (σ : rf_S) (p1 : Int32) (p2 : Int32) : Prop := vp_in ((12 * (σ.1 32)) + p1) (rf_n 38) ∧ ((σ.2.2.1 38 ((12 * (σ.1 32)) + p1).toNatClampNeg) = 1 → w_X12_hasIt_32 post σ p2 ((12 * (σ.1 32)) + p1)) ∧ (¬ (σ.2.2.1 38 ((12 * (σ.1 32)) + p1).toNatClampNeg) = 1 → vp_in ((12 * (σ.1 32)) + p1) (rf_n 38) ∧ ((σ.2.2.1 38 ((12 * (σ.1 32)) + p1).toNatClampNeg) = 2 → w_X12_hasIt_32 post σ p2 ((12 * (σ.1 32)) + p1)) ∧ (¬ (σ.2.2.1 38 ((12 * (σ.1 32)) + p1).toNatClampNeg) = 2 → post 1 σ))
set_option maxRecDepth 100000 in
set_option maxHeartbeats 4000000 in
theorem c_X12_hasIt {l : Launch} {P : hw_G} {o : Nat} {ad : Nat → Nat} {σ : rf_S} {p1 : Int32} {p2 : Int32} {post : Int32 → rf_S → Prop} (h : wp_X12_hasIt post σ p1 p2) : Met l yX12_hasIt [Cond.code yX12_hasIt cX12_hasIt 5 (some .boolean)] rm_X12_hasIt (rf_Pc P o ad σ [.ref o, .int p1, .int p2]) (rf_Qi P o ad post) 0 0 (rf_A o ad) := by
  refine rf_met (by decide) rfl (Nat.le_of_ble_eq_true rfl) ?_
  intro p e s m below meth c ls hC hT hl
  obtain ⟨hx, hb, hml, hown, hK, -, -⟩ := id hC
  have hl : lv_has ls 5 [(0, .ref o), (1, .int p1), (2, .int p2)] := hl
  refine lv_bipush (v := 12) hx hb dX12_hasIt_0 (by decide) ?_
  refine lv_aload_n hx hb dX12_hasIt_2 rfl (lv_at hl 0 rfl) ?_
  refine rf_get hx hb hK hT hown 32 (by decide) kfX12_368 (v := .int (σ.1 32)) rfl dX12_hasIt_3 ?_
  refine lv_imul hx hb dX12_hasIt_6 ?_
  refine lv_iload_n hx hb dX12_hasIt_7 rfl (lv_at hl 1 rfl) ?_
  refine lv_iadd hx hb dX12_hasIt_8 ?_
  refine lv_istore_n (lv' := [(3, _), (0, _), (1, _), (2, _)]) hx hb dX12_hasIt_9 rfl hl (by decide) rfl (fun ls hl => ?_)
  refine lv_aload_n hx hb dX12_hasIt_10 rfl (lv_at hl 1 rfl) ?_
  refine rf_get hx hb hK hT hown 38 (by decide) kfX12_208 (v := .ref (ad 38)) rfl dX12_hasIt_11 ?_
  refine lv_iload_n hx hb dX12_hasIt_14 rfl (lv_at hl 0 rfl) ?_
  obtain ⟨hi, h⟩ := h
  refine rf_iald hx hb hK hT 38 (by decide) rfl hi (v := σ.2.2.1 38 ((12 * (σ.1 32)) + p1).toNatClampNeg) rfl dX12_hasIt_15 ?_
  refine lv_iconst (v := 1) hx hb dX12_hasIt_16 (by decide) ?_
  refine lv_icmp_eq (tgt := 32) hx hb dX12_hasIt_17 (by decide) (fun hc => ?_) (fun hc => ?_)
  · have h := h.1 hc
    exact t_X12_hasIt_32 hC σ p2 ((12 * (σ.1 32)) + p1) _ _ _ h hT (lv_sub hl [1, 3, 0] rfl)
  · have h := h.2 hc
    refine lv_aload_n hx hb dX12_hasIt_20 rfl (lv_at hl 1 rfl) ?_
    refine rf_get hx hb hK hT hown 38 (by decide) kfX12_208 (v := .ref (ad 38)) rfl dX12_hasIt_21 ?_
    refine lv_iload_n hx hb dX12_hasIt_24 rfl (lv_at hl 0 rfl) ?_
    obtain ⟨hi, h⟩ := h
    refine rf_iald hx hb hK hT 38 (by decide) rfl hi (v := σ.2.2.1 38 ((12 * (σ.1 32)) + p1).toNatClampNeg) rfl dX12_hasIt_25 ?_
    refine lv_iconst (v := 2) hx hb dX12_hasIt_26 (by decide) ?_
    refine lv_icmp_eq (tgt := 32) hx hb dX12_hasIt_27 (by decide) (fun hc => ?_) (fun hc => ?_)
    · have h := h.1 hc
      exact t_X12_hasIt_32 hC σ p2 ((12 * (σ.1 32)) + p1) _ _ _ h hT (lv_sub hl [1, 3, 0] rfl)
    · have h := h.2 hc
      refine lv_iconst (v := 1) hx hb dX12_hasIt_30 (by decide) ?_
      exact rf_zret hC hT rfl h dX12_hasIt_31
/-! X12_counts -/
abbrev rm_X12_counts : Room := { frames := 2, cells := 0, slots := 0, locals := 48 }
def w_X12_counts_48 (post : Int32 → rf_S → Prop) (σ : rf_S) (y0 : Int32) : Prop := narrow .boolean (.int y0) = .int y0 ∧ post y0 σ
section
variable {p : Program} {l : Launch} {e : Env} {s : State} {m : MethodId} {args : Array Value} {below : List Frame} {meth : Method} {c : Code} {P : hw_G} {o : Nat} {ad : Nat → Nat}
set_option maxRecDepth 100000 in
set_option maxHeartbeats 4000000 in
theorem t_X12_counts_48 {post : Int32 → rf_S → Prop} (hC : rf_C P RX12 p s m meth c cX12_counts 4 (some .boolean)) (σ : rf_S) (y0 : Int32) (H : Heap) (locs : List Loc) (ls : Array Slot) (h : w_X12_counts_48 post σ y0) (hT : rf_T P s (rf_A o ad) o ad σ H locs) (hl : lv_has ls 4 []) : W p l e rm_X12_counts s m args below meth c H locs 0 0 (MQ below (rf_Qi P o ad post) args s 0 0 (rf_A o ad)) (F0 m 48 ls [.int y0]) := by
  obtain ⟨hx, hb, hml, hown, hK, -, -⟩ := id hC
  exact rf_zret hC hT h.1 h.2 dX12_counts_48
end
def w_X12_counts_47 (post : Int32 → rf_S → Prop) (σ : rf_S)  : Prop := w_X12_counts_48 post σ 0
section
variable {p : Program} {l : Launch} {e : Env} {s : State} {m : MethodId} {args : Array Value} {below : List Frame} {meth : Method} {c : Code} {P : hw_G} {o : Nat} {ad : Nat → Nat}
set_option maxRecDepth 100000 in
set_option maxHeartbeats 4000000 in
theorem t_X12_counts_47 {post : Int32 → rf_S → Prop} (hC : rf_C P RX12 p s m meth c cX12_counts 4 (some .boolean)) (σ : rf_S)  (H : Heap) (locs : List Loc) (ls : Array Slot) (h : w_X12_counts_47 post σ ) (hT : rf_T P s (rf_A o ad) o ad σ H locs) (hl : lv_has ls 4 []) : W p l e rm_X12_counts s m args below meth c H locs 0 0 (MQ below (rf_Qi P o ad post) args s 0 0 (rf_A o ad)) (F0 m 47 ls []) := by
  obtain ⟨hx, hb, hml, hown, hK, -, -⟩ := id hC
  refine lv_iconst (v := 0) hx hb dX12_counts_47 (by decide) ?_
  exact t_X12_counts_48 hC σ 0 _ _ _ h hT (lv_sub hl [] rfl)
end
def wp_X12_counts (post : Int32 → rf_S → Prop) (σ : rf_S) (p1 : Int32) (p2 : Int32) (p3 : Int32) : Prop := vp_in ((4000 * p1) + p2) (rf_n 63) ∧ (¬ (σ.2.2.1 63 ((4000 * p1) + p2).toNatClampNeg) = p3 → w_X12_counts_47 post σ) ∧ ((σ.2.2.1 63 ((4000 * p1) + p2).toNatClampNeg) = p3 → vp_in ((4000 * p1) + p2) (rf_n 64) ∧ (¬ ((σ.2.2.1 64 ((4000 * p1) + p2).toNatClampNeg) &&& 1) = 1 → w_X12_counts_47 post σ) ∧ (((σ.2.2.1 64 ((4000 * p1) + p2).toNatClampNeg) &&& 1) = 1 → wp_X12_hasIt (fun r2 σ2 => (r2 = 0 → w_X12_counts_47 post σ2) ∧ (¬ r2 = 0 → w_X12_counts_48 post σ2 1)) σ p1 p2))
set_option maxRecDepth 100000 in
set_option maxHeartbeats 4000000 in
theorem c_X12_counts {l : Launch} {P : hw_G} {o : Nat} {ad : Nat → Nat} {σ : rf_S} {p1 : Int32} {p2 : Int32} {p3 : Int32} {post : Int32 → rf_S → Prop} (h : wp_X12_counts post σ p1 p2 p3) : Met l yX12_counts [Cond.code yX12_counts cX12_counts 4 (some .boolean)] rm_X12_counts (rf_Pc P o ad σ [.ref o, .int p1, .int p2, .int p3]) (rf_Qi P o ad post) 0 0 (rf_A o ad) := by
  refine rf_met (by decide) rfl (Nat.le_of_ble_eq_true rfl) ?_
  intro p e s m below meth c ls hC hT hl
  obtain ⟨hx, hb, hml, hown, hK, -, -⟩ := id hC
  have hl : lv_has ls 4 [(0, .ref o), (1, .int p1), (2, .int p2), (3, .int p3)] := hl
  refine lv_aload_n hx hb dX12_counts_0 rfl (lv_at hl 0 rfl) ?_
  refine rf_get hx hb hK hT hown 63 (by decide) kfX12_87 (v := .ref (ad 63)) rfl dX12_counts_1 ?_
  refine lv_sipush (v := 4000) hx hb dX12_counts_4 (by decide) ?_
  refine lv_iload_n hx hb dX12_counts_7 rfl (lv_at hl 1 rfl) ?_
  refine lv_imul hx hb dX12_counts_8 ?_
  refine lv_iload_n hx hb dX12_counts_9 rfl (lv_at hl 2 rfl) ?_
  refine lv_iadd hx hb dX12_counts_10 ?_
  obtain ⟨hi, h⟩ := h
  refine rf_sald hx hb hK hT 63 (by decide) rfl hi (v := σ.2.2.1 63 ((4000 * p1) + p2).toNatClampNeg) rfl dX12_counts_11 ?_
  refine lv_iload_n hx hb dX12_counts_12 rfl (lv_at hl 3 rfl) ?_
  refine lv_icmp_ne (tgt := 47) hx hb dX12_counts_13 (by decide) (fun hc => ?_) (fun hc => ?_)
  · have h := h.1 hc
    exact t_X12_counts_47 hC σ _ _ _ h hT (lv_sub hl [] rfl)
  · have h := h.2 hc
    refine lv_aload_n hx hb dX12_counts_16 rfl (lv_at hl 0 rfl) ?_
    refine rf_get hx hb hK hT hown 64 (by decide) kfX12_260 (v := .ref (ad 64)) rfl dX12_counts_17 ?_
    refine lv_sipush (v := 4000) hx hb dX12_counts_20 (by decide) ?_
    refine lv_iload_n hx hb dX12_counts_23 rfl (lv_at hl 1 rfl) ?_
    refine lv_imul hx hb dX12_counts_24 ?_
    refine lv_iload_n hx hb dX12_counts_25 rfl (lv_at hl 2 rfl) ?_
    refine lv_iadd hx hb dX12_counts_26 ?_
    obtain ⟨hi, h⟩ := h
    refine rf_bald hx hb hK hT 64 (by decide) rfl hi (v := σ.2.2.1 64 ((4000 * p1) + p2).toNatClampNeg) rfl dX12_counts_27 ?_
    refine lv_iconst (v := 1) hx hb dX12_counts_28 (by decide) ?_
    refine lv_iand hx hb dX12_counts_29 ?_
    refine lv_iconst (v := 1) hx hb dX12_counts_30 (by decide) ?_
    refine lv_icmp_ne (tgt := 47) hx hb dX12_counts_31 (by decide) (fun hc => ?_) (fun hc => ?_)
    · have h := h.1 hc
      exact t_X12_counts_47 hC σ _ _ _ h hT (lv_sub hl [] rfl)
    · have h := h.2 hc
      refine lv_aload_n hx hb dX12_counts_34 rfl (lv_at hl 0 rfl) ?_
      refine lv_iload_n hx hb dX12_counts_35 rfl (lv_at hl 1 rfl) ?_
      refine lv_iload_n hx hb dX12_counts_36 rfl (lv_at hl 2 rfl) ?_
      refine rf_calli (rf_runV hx hb hml hown hK hT (c_X12_hasIt h) rfl rfl klX12_469 ki_X12_hasIt ks_X12_hasIt kn_X12 kc_X12_hasIt 2 ⟨rfl, by decide, by decide, by decide +kernel⟩ ⟨by decide, by decide⟩ rfl hl.1 rfl (Nat.le_of_ble_eq_true rfl) ⟨Nat.le_refl _, Nat.le_refl _⟩ dX12_counts_37) hT (fun r2 σ2 H locs h hT => ?_)
      refine lv_if_eq (tgt := 47) hx hb dX12_counts_40 (by decide) (fun hc => ?_) (fun hc => ?_)
      · have h := h.1 hc
        exact t_X12_counts_47 hC σ2 _ _ _ h hT (lv_sub hl [] rfl)
      · have h := h.2 hc
        refine lv_iconst (v := 1) hx hb dX12_counts_43 (by decide) ?_
        refine lv_goto (tgt := 48) hx hb dX12_counts_44 (by decide) ?_
        exact t_X12_counts_48 hC σ2 1 _ _ _ h hT (lv_sub hl [] rfl)
/-! X12_startOf -/
abbrev rm_X12_startOf : Room := { frames := 3, cells := 0, slots := 0, locals := 71 }
def w_X12_startOf_335 (post : Int32 → rf_S → Prop) (σ : rf_S) (y0 : Int32) : Prop := post y0 σ
section
variable {p : Program} {l : Launch} {e : Env} {s : State} {m : MethodId} {args : Array Value} {below : List Frame} {meth : Method} {c : Code} {P : hw_G} {o : Nat} {ad : Nat → Nat}
set_option maxRecDepth 100000 in
set_option maxHeartbeats 4000000 in
theorem t_X12_startOf_335 {post : Int32 → rf_S → Prop} (hC : rf_C P RX12 p s m meth c cX12_startOf 11 (some .int)) (σ : rf_S) (y0 : Int32) (H : Heap) (locs : List Loc) (ls : Array Slot) (h : w_X12_startOf_335 post σ y0) (hT : rf_T P s (rf_A o ad) o ad σ H locs) (hl : lv_has ls 11 []) : W p l e rm_X12_startOf s m args below meth c H locs 0 0 (MQ below (rf_Qi P o ad post) args s 0 0 (rf_A o ad)) (F0 m 335 ls [.int y0]) := by
  obtain ⟨hx, hb, hml, hown, hK, -, -⟩ := id hC
  exact rf_iret hC hT h dX12_startOf_335
end
def w_X12_startOf_304 (post : Int32 → rf_S → Prop) (σ : rf_S) (x3 : Int32) (x5 : Int64) (x7 : Int32) (x8 : Int32) : Prop := vp_in x3 (rf_n 39) ∧ (0 ≤ (lg_cmp x5 ((σ.2.2.1 39 x3.toNatClampNeg).toInt64)) → vp_in x3 (rf_n 38) ∧ (¬ (σ.2.2.1 38 x3.toNatClampNeg) = 0 → w_X12_startOf_335 post σ x7) ∧ ((σ.2.2.1 38 x3.toNatClampNeg) = 0 → w_X12_startOf_335 post σ x8)) ∧ (¬ 0 ≤ (lg_cmp x5 ((σ.2.2.1 39 x3.toNatClampNeg).toInt64)) → post ((-1)) σ)
section
variable {p : Program} {l : Launch} {e : Env} {s : State} {m : MethodId} {args : Array Value} {below : List Frame} {meth : Method} {c : Code} {P : hw_G} {o : Nat} {ad : Nat → Nat}
set_option maxRecDepth 100000 in
set_option maxHeartbeats 4000000 in
theorem t_X12_startOf_304 {post : Int32 → rf_S → Prop} (hC : rf_C P RX12 p s m meth c cX12_startOf 11 (some .int)) (σ : rf_S) (x3 : Int32) (x5 : Int64) (x7 : Int32) (x8 : Int32) (H : Heap) (locs : List Loc) (ls : Array Slot) (h : w_X12_startOf_304 post σ x3 x5 x7 x8) (hT : rf_T P s (rf_A o ad) o ad σ H locs) (hl : lv_has ls 11 [(0, .ref o), (3, .int x3), (5, .long x5), (7, .int x7), (8, .int x8)]) : W p l e rm_X12_startOf s m args below meth c H locs 0 0 (MQ below (rf_Qi P o ad post) args s 0 0 (rf_A o ad)) (F0 m 304 ls []) := by
  obtain ⟨hx, hb, hml, hown, hK, -, -⟩ := id hC
  refine lv_lload hx hb dX12_startOf_304 (lv_at hl 2 rfl) ?_
  refine lv_aload_n hx hb dX12_startOf_306 rfl (lv_at hl 0 rfl) ?_
  refine rf_get hx hb hK hT hown 39 (by decide) kfX12_211 (v := .ref (ad 39)) rfl dX12_startOf_307 ?_
  refine lv_iload_n hx hb dX12_startOf_310 rfl (lv_at hl 1 rfl) ?_
  obtain ⟨hi, h⟩ := h
  refine rf_iald hx hb hK hT 39 (by decide) rfl hi (v := σ.2.2.1 39 x3.toNatClampNeg) rfl dX12_startOf_311 ?_
  refine lv_i2l (v := (σ.2.2.1 39 x3.toNatClampNeg).toInt64) hx hb dX12_startOf_312 rfl ?_
  refine W.lcmp hx hb dX12_startOf_313 ?_
  refine lv_if_ge (tgt := 319) hx hb dX12_startOf_314 (by decide) (fun hc => ?_) (fun hc => ?_)
  · have h := h.1 hc
    refine lv_aload_n hx hb dX12_startOf_319 rfl (lv_at hl 0 rfl) ?_
    refine rf_get hx hb hK hT hown 38 (by decide) kfX12_208 (v := .ref (ad 38)) rfl dX12_startOf_320 ?_
    refine lv_iload_n hx hb dX12_startOf_323 rfl (lv_at hl 1 rfl) ?_
    obtain ⟨hi, h⟩ := h
    refine rf_iald hx hb hK hT 38 (by decide) rfl hi (v := σ.2.2.1 38 x3.toNatClampNeg) rfl dX12_startOf_324 ?_
    refine lv_if_ne (tgt := 333) hx hb dX12_startOf_325 (by decide) (fun hc => ?_) (fun hc => ?_)
    · have h := h.1 hc
      refine lv_iload hx hb dX12_startOf_333 (lv_at hl 3 rfl) ?_
      exact t_X12_startOf_335 hC σ x7 _ _ _ h hT (lv_sub hl [] rfl)
    · have h := h.2 hc
      refine lv_iload hx hb dX12_startOf_328 (lv_at hl 4 rfl) ?_
      refine lv_goto (tgt := 335) hx hb dX12_startOf_330 (by decide) ?_
      exact t_X12_startOf_335 hC σ x8 _ _ _ h hT (lv_sub hl [] rfl)
  · have h := h.2 hc
    refine lv_iconst (v := (-1)) hx hb dX12_startOf_317 (by decide) ?_
    exact rf_iret hC hT h dX12_startOf_318
end
def w_X12_startOf_298 (post : Int32 → rf_S → Prop) (k256 : rf_S → Int32 → Int32 → Int32 → Int64 → Int32 → Int32 → Int32 → Prop) (σ : rf_S) (x1 : Int32) (x3 : Int32) (x4 : Int32) (x5 : Int64) (x7 : Int32) (x8 : Int32) (x9 : Int32) : Prop := k256 σ x1 x3 x4 x5 x7 x8 (x9 + (-1))
section
variable {p : Program} {l : Launch} {e : Env} {s : State} {m : MethodId} {args : Array Value} {below : List Frame} {meth : Method} {c : Code} {P : hw_G} {o : Nat} {ad : Nat → Nat}
set_option maxRecDepth 100000 in
set_option maxHeartbeats 4000000 in
theorem t_X12_startOf_298 {post : Int32 → rf_S → Prop} {k256 : rf_S → Int32 → Int32 → Int32 → Int64 → Int32 → Int32 → Int32 → Prop} (hC : rf_C P RX12 p s m meth c cX12_startOf 11 (some .int)) (hk256 : ∀ (σ : rf_S) (x1 : Int32) (x3 : Int32) (x4 : Int32) (x5 : Int64) (x7 : Int32) (x8 : Int32) (x9 : Int32) (H : Heap) (locs : List Loc) (ls : Array Slot), k256 σ x1 x3 x4 x5 x7 x8 x9 → rf_T P s (rf_A o ad) o ad σ H locs → lv_has ls 11 [(0, .ref o), (1, .int x1), (3, .int x3), (4, .int x4), (5, .long x5), (7, .int x7), (8, .int x8), (9, .int x9)] → W p l e rm_X12_startOf s m args below meth c H locs 0 0 (MQ below (rf_Qi P o ad post) args s 0 0 (rf_A o ad)) (F0 m 256 ls [])) (σ : rf_S) (x1 : Int32) (x3 : Int32) (x4 : Int32) (x5 : Int64) (x7 : Int32) (x8 : Int32) (x9 : Int32) (H : Heap) (locs : List Loc) (ls : Array Slot) (h : w_X12_startOf_298 post k256 σ x1 x3 x4 x5 x7 x8 x9) (hT : rf_T P s (rf_A o ad) o ad σ H locs) (hl : lv_has ls 11 [(0, .ref o), (1, .int x1), (3, .int x3), (4, .int x4), (5, .long x5), (7, .int x7), (8, .int x8), (9, .int x9)]) : W p l e rm_X12_startOf s m args below meth c H locs 0 0 (MQ below (rf_Qi P o ad post) args s 0 0 (rf_A o ad)) (F0 m 298 ls []) := by
  obtain ⟨hx, hb, hml, hown, hK, -, -⟩ := id hC
  refine lv_iinc (v := x9 + (-1)) (lv' := [(9, _), (0, _), (1, _), (3, _), (4, _), (5, _), (7, _), (8, _)]) hx hb dX12_startOf_298 hl (k := 7) rfl rfl (by decide) rfl (fun ls hl => ?_)
  refine lv_goto (tgt := 256) hx hb dX12_startOf_301 (by decide) ?_
  exact hk256 σ x1 x3 x4 x5 x7 x8 (x9 + (-1)) _ _ _ h hT (lv_sub hl [1, 2, 3, 4, 5, 6, 7, 0] rfl)
end
def w_X12_startOf_256 (post : Int32 → rf_S → Prop) : Nat → rf_S → Int32 → Int32 → Int32 → Int64 → Int32 → Int32 → Int32 → Prop
  | 0, _, _, _, _, _, _, _, _ => False
  | n + 1, σ, x1, x3, x4, x5, x7, x8, x9 => (x9 < x7 → w_X12_startOf_304 post σ x3 x5 x7 x8) ∧ (¬ x9 < x7 → wp_X12_counts (fun r7 σ7 => (r7 = 0 → w_X12_startOf_298 post (w_X12_startOf_256 post n) σ7 x1 x3 x4 x5 x7 x8 x9) ∧ (¬ r7 = 0 → vp_in x3 (rf_n 36) ∧ wp_X12_fieldOf (fun r8 σ8 => vp_in r8 (rf_n 17) ∧ vp_in (σ8.2.2.1 17 r8.toNatClampNeg) (rf_n 68) ∧ w_X12_startOf_298 post (w_X12_startOf_256 post n) (rf_ua σ8 68 (σ8.2.2.1 17 r8.toNatClampNeg).toNatClampNeg (vp_nar .boolean 0)) x1 x3 x4 x5 x7 x8 x9) σ7 x9 (σ7.2.2.2 36 x3.toNatClampNeg))) σ x1 x9 x4)
section
variable {p : Program} {l : Launch} {e : Env} {s : State} {m : MethodId} {args : Array Value} {below : List Frame} {meth : Method} {c : Code} {P : hw_G} {o : Nat} {ad : Nat → Nat}
set_option maxRecDepth 100000 in
set_option maxHeartbeats 4000000 in
theorem t_X12_startOf_256 {post : Int32 → rf_S → Prop} (hC : rf_C P RX12 p s m meth c cX12_startOf 11 (some .int)) : ∀ (n : Nat) (σ : rf_S) (x1 : Int32) (x3 : Int32) (x4 : Int32) (x5 : Int64) (x7 : Int32) (x8 : Int32) (x9 : Int32) (H : Heap) (locs : List Loc) (ls : Array Slot), w_X12_startOf_256 post n σ x1 x3 x4 x5 x7 x8 x9 → rf_T P s (rf_A o ad) o ad σ H locs → lv_has ls 11 [(0, .ref o), (1, .int x1), (3, .int x3), (4, .int x4), (5, .long x5), (7, .int x7), (8, .int x8), (9, .int x9)] → W p l e rm_X12_startOf s m args below meth c H locs 0 0 (MQ below (rf_Qi P o ad post) args s 0 0 (rf_A o ad)) (F0 m 256 ls []) := by
  obtain ⟨hx, hb, hml, hown, hK, -, -⟩ := id hC
  intro n
  induction n with
  | zero => intro σ x1 x3 x4 x5 x7 x8 x9 H locs ls h; exact False.elim h
  | succ n ih =>
    intro σ x1 x3 x4 x5 x7 x8 x9 H locs ls h hT hl
    refine lv_iload hx hb dX12_startOf_256 (lv_at hl 7 rfl) ?_
    refine lv_iload hx hb dX12_startOf_258 (lv_at hl 5 rfl) ?_
    refine lv_icmp_lt (tgt := 304) hx hb dX12_startOf_260 (by decide) (fun hc => ?_) (fun hc => ?_)
    · have h := h.1 hc
      exact t_X12_startOf_304 hC σ x3 x5 x7 x8 _ _ _ h hT (lv_sub hl [0, 2, 4, 5, 6] rfl)
    · have h := h.2 hc
      refine lv_aload_n hx hb dX12_startOf_263 rfl (lv_at hl 0 rfl) ?_
      refine lv_iload_n hx hb dX12_startOf_264 rfl (lv_at hl 1 rfl) ?_
      refine lv_iload hx hb dX12_startOf_265 (lv_at hl 7 rfl) ?_
      refine lv_iload hx hb dX12_startOf_267 (lv_at hl 3 rfl) ?_
      refine rf_calli (rf_runV hx hb hml hown hK hT (c_X12_counts h) rfl rfl klX12_475 ki_X12_counts ks_X12_counts kn_X12 kc_X12_counts 3 ⟨rfl, by decide, by decide, by decide +kernel⟩ ⟨by decide, by decide⟩ rfl hl.1 rfl (Nat.le_of_ble_eq_true rfl) ⟨Nat.le_refl _, Nat.le_refl _⟩ dX12_startOf_269) hT (fun r7 σ7 H locs h hT => ?_)
      refine lv_if_eq (tgt := 298) hx hb dX12_startOf_272 (by decide) (fun hc => ?_) (fun hc => ?_)
      · have h := h.1 hc
        exact t_X12_startOf_298 hC ih σ7 x1 x3 x4 x5 x7 x8 x9 _ _ _ h hT (lv_sub hl [0, 1, 2, 3, 4, 5, 6, 7] rfl)
      · have h := h.2 hc
        refine lv_aload_n hx hb dX12_startOf_275 rfl (lv_at hl 0 rfl) ?_
        refine rf_get hx hb hK hT hown 68 (by decide) kfX12_263 (v := .ref (ad 68)) rfl dX12_startOf_276 ?_
        refine lv_aload_n hx hb dX12_startOf_279 rfl (lv_at hl 0 rfl) ?_
        refine rf_get hx hb hK hT hown 17 (by decide) kfX12_55 (v := .ref (ad 17)) rfl dX12_startOf_280 ?_
        refine lv_aload_n hx hb dX12_startOf_283 rfl (lv_at hl 0 rfl) ?_
        refine lv_iload hx hb dX12_startOf_284 (lv_at hl 7 rfl) ?_
        refine lv_aload_n hx hb dX12_startOf_286 rfl (lv_at hl 0 rfl) ?_
        refine rf_get hx hb hK hT hown 36 (by decide) kfX12_202 (v := .ref (ad 36)) rfl dX12_startOf_287 ?_
        refine lv_iload_n hx hb dX12_startOf_290 rfl (lv_at hl 2 rfl) ?_
        obtain ⟨hi, h⟩ := h
        refine rf_lald hx hb hK hT 36 (by decide) rfl hi (v := σ7.2.2.2 36 x3.toNatClampNeg) rfl dX12_startOf_291 ?_
        refine rf_calli (rf_runV hx hb hml hown hK hT (c_X12_fieldOf h) rfl rfl klX12_438 ki_X12_fieldOf ks_X12_fieldOf kn_X12 kc_X12_fieldOf 2 ⟨rfl, by decide, by decide, by decide +kernel⟩ ⟨by decide, by decide⟩ rfl hl.1 rfl (Nat.le_of_ble_eq_true rfl) ⟨Nat.le_refl _, Nat.le_refl _⟩ dX12_startOf_292) hT (fun r8 σ8 H locs h hT => ?_)
        obtain ⟨hi, h⟩ := h
        refine rf_iald hx hb hK hT 17 (by decide) rfl hi (v := σ8.2.2.1 17 r8.toNatClampNeg) rfl dX12_startOf_295 ?_
        refine lv_iconst (v := 0) hx hb dX12_startOf_296 (by decide) ?_
        obtain ⟨hi, h⟩ := h
        refine rf_zast hx hb hK hT 68 (by decide) rfl hi dX12_startOf_297 (fun H locs hT => ?_)
        exact t_X12_startOf_298 hC ih (rf_ua σ8 68 (σ8.2.2.1 17 r8.toNatClampNeg).toNatClampNeg (vp_nar .boolean 0)) x1 x3 x4 x5 x7 x8 x9 _ _ _ h hT (lv_sub hl [0, 1, 2, 3, 4, 5, 6, 7] rfl)
end
def w_X12_startOf_243 (post : Int32 → rf_S → Prop) (σ : rf_S) (x1 : Int32) (x2 : Int32) (x3 : Int32) (x4 : Int32) (x5 : Int64) (x7 : Int32) (x8 : Int32) : Prop := vp_in x3 (rf_n 38) ∧ (¬ (σ.2.2.1 38 x3.toNatClampNeg) = 1 → w_X12_startOf_304 post σ x3 x5 x7 x8) ∧ ((σ.2.2.1 38 x3.toNatClampNeg) = 1 → ∃ n9, w_X12_startOf_256 post n9 σ x1 x3 x4 x5 x7 x8 x2)
section
variable {p : Program} {l : Launch} {e : Env} {s : State} {m : MethodId} {args : Array Value} {below : List Frame} {meth : Method} {c : Code} {P : hw_G} {o : Nat} {ad : Nat → Nat}
set_option maxRecDepth 100000 in
set_option maxHeartbeats 4000000 in
theorem t_X12_startOf_243 {post : Int32 → rf_S → Prop} (hC : rf_C P RX12 p s m meth c cX12_startOf 11 (some .int)) (σ : rf_S) (x1 : Int32) (x2 : Int32) (x3 : Int32) (x4 : Int32) (x5 : Int64) (x7 : Int32) (x8 : Int32) (H : Heap) (locs : List Loc) (ls : Array Slot) (h : w_X12_startOf_243 post σ x1 x2 x3 x4 x5 x7 x8) (hT : rf_T P s (rf_A o ad) o ad σ H locs) (hl : lv_has ls 11 [(0, .ref o), (1, .int x1), (2, .int x2), (3, .int x3), (4, .int x4), (5, .long x5), (7, .int x7), (8, .int x8)]) : W p l e rm_X12_startOf s m args below meth c H locs 0 0 (MQ below (rf_Qi P o ad post) args s 0 0 (rf_A o ad)) (F0 m 243 ls []) := by
  obtain ⟨hx, hb, hml, hown, hK, -, -⟩ := id hC
  refine lv_aload_n hx hb dX12_startOf_243 rfl (lv_at hl 0 rfl) ?_
  refine rf_get hx hb hK hT hown 38 (by decide) kfX12_208 (v := .ref (ad 38)) rfl dX12_startOf_244 ?_
  refine lv_iload_n hx hb dX12_startOf_247 rfl (lv_at hl 3 rfl) ?_
  obtain ⟨hi, h⟩ := h
  refine rf_iald hx hb hK hT 38 (by decide) rfl hi (v := σ.2.2.1 38 x3.toNatClampNeg) rfl dX12_startOf_248 ?_
  refine lv_iconst (v := 1) hx hb dX12_startOf_249 (by decide) ?_
  refine lv_icmp_ne (tgt := 304) hx hb dX12_startOf_250 (by decide) (fun hc => ?_) (fun hc => ?_)
  · have h := h.1 hc
    exact t_X12_startOf_304 hC σ x3 x5 x7 x8 _ _ _ h hT (lv_sub hl [0, 3, 5, 6, 7] rfl)
  · have h := h.2 hc
    refine lv_iload_n hx hb dX12_startOf_253 rfl (lv_at hl 2 rfl) ?_
    refine lv_istore (lv' := [(9, _), (0, _), (1, _), (2, _), (3, _), (4, _), (5, _), (7, _), (8, _)]) hx hb dX12_startOf_254 hl (by decide) rfl (fun ls hl => ?_)
    obtain ⟨n9, h⟩ := h
    exact t_X12_startOf_256 hC n9 σ x1 x3 x4 x5 x7 x8 x2 _ _ _ h hT (lv_sub hl [1, 2, 4, 5, 6, 7, 8, 0] rfl)
end
def w_X12_startOf_237 (post : Int32 → rf_S → Prop) (k64 : rf_S → Int32 → Int32 → Int32 → Int32 → Int64 → Int32 → Int32 → Int32 → Prop) (σ : rf_S) (x1 : Int32) (x2 : Int32) (x3 : Int32) (x4 : Int32) (x5 : Int64) (x7 : Int32) (x8 : Int32) (x9 : Int32) : Prop := k64 σ x1 x2 x3 x4 x5 x7 x8 (x9 + (-1))
section
variable {p : Program} {l : Launch} {e : Env} {s : State} {m : MethodId} {args : Array Value} {below : List Frame} {meth : Method} {c : Code} {P : hw_G} {o : Nat} {ad : Nat → Nat}
set_option maxRecDepth 100000 in
set_option maxHeartbeats 4000000 in
theorem t_X12_startOf_237 {post : Int32 → rf_S → Prop} {k64 : rf_S → Int32 → Int32 → Int32 → Int32 → Int64 → Int32 → Int32 → Int32 → Prop} (hC : rf_C P RX12 p s m meth c cX12_startOf 11 (some .int)) (hk64 : ∀ (σ : rf_S) (x1 : Int32) (x2 : Int32) (x3 : Int32) (x4 : Int32) (x5 : Int64) (x7 : Int32) (x8 : Int32) (x9 : Int32) (H : Heap) (locs : List Loc) (ls : Array Slot), k64 σ x1 x2 x3 x4 x5 x7 x8 x9 → rf_T P s (rf_A o ad) o ad σ H locs → lv_has ls 11 [(0, .ref o), (1, .int x1), (2, .int x2), (3, .int x3), (4, .int x4), (5, .long x5), (7, .int x7), (8, .int x8), (9, .int x9)] → W p l e rm_X12_startOf s m args below meth c H locs 0 0 (MQ below (rf_Qi P o ad post) args s 0 0 (rf_A o ad)) (F0 m 64 ls [])) (σ : rf_S) (x1 : Int32) (x2 : Int32) (x3 : Int32) (x4 : Int32) (x5 : Int64) (x7 : Int32) (x8 : Int32) (x9 : Int32) (H : Heap) (locs : List Loc) (ls : Array Slot) (h : w_X12_startOf_237 post k64 σ x1 x2 x3 x4 x5 x7 x8 x9) (hT : rf_T P s (rf_A o ad) o ad σ H locs) (hl : lv_has ls 11 [(0, .ref o), (1, .int x1), (2, .int x2), (3, .int x3), (4, .int x4), (5, .long x5), (7, .int x7), (8, .int x8), (9, .int x9)]) : W p l e rm_X12_startOf s m args below meth c H locs 0 0 (MQ below (rf_Qi P o ad post) args s 0 0 (rf_A o ad)) (F0 m 237 ls []) := by
  obtain ⟨hx, hb, hml, hown, hK, -, -⟩ := id hC
  refine lv_iinc (v := x9 + (-1)) (lv' := [(9, _), (0, _), (1, _), (2, _), (3, _), (4, _), (5, _), (7, _), (8, _)]) hx hb dX12_startOf_237 hl (k := 8) rfl rfl (by decide) rfl (fun ls hl => ?_)
  refine lv_goto (tgt := 64) hx hb dX12_startOf_240 (by decide) ?_
  exact hk64 σ x1 x2 x3 x4 x5 x7 x8 (x9 + (-1)) _ _ _ h hT (lv_sub hl [1, 2, 3, 4, 5, 6, 7, 8, 0] rfl)
end
def w_X12_startOf_140 (post : Int32 → rf_S → Prop) (k64 : rf_S → Int32 → Int32 → Int32 → Int32 → Int64 → Int32 → Int32 → Int32 → Prop) (σ : rf_S) (x1 : Int32) (x2 : Int32) (x3 : Int32) (x4 : Int32) (x5 : Int64) (x7 : Int32) (x8 : Int32) (x9 : Int32) (y0 : Int32) : Prop := vp_in x3 (rf_n 38) ∧ (¬ (σ.2.2.1 38 x3.toNatClampNeg) = 0 → vp_in x3 (rf_n 38) ∧ (¬ (σ.2.2.1 38 x3.toNatClampNeg) = 2 → vp_in y0 (rf_n 17) ∧ vp_in (σ.2.2.1 17 y0.toNatClampNeg) (rf_n 68) ∧ (¬ (σ.2.2.1 68 (σ.2.2.1 17 y0.toNatClampNeg).toNatClampNeg) = 0 → w_X12_startOf_237 post k64 σ x1 x2 x3 x4 x5 x7 x8 x9) ∧ ((σ.2.2.1 68 (σ.2.2.1 17 y0.toNatClampNeg).toNatClampNeg) = 0 → vp_in y0 (rf_n 17) ∧ vp_in (σ.2.2.1 17 y0.toNatClampNeg) (rf_n 68) ∧ w_X12_startOf_237 post k64 (rf_ua σ 68 (σ.2.2.1 17 y0.toNatClampNeg).toNatClampNeg (vp_nar .boolean 1)) x1 x2 x3 x4 (x5 + 1) x7 x8 x9)) ∧ ((σ.2.2.1 38 x3.toNatClampNeg) = 2 → vp_in y0 (rf_n 15) ∧ w_X12_startOf_237 post k64 σ x1 x2 x3 x4 (x5 + ((σ.2.2.1 15 y0.toNatClampNeg).toInt64)) x7 x8 x9)) ∧ ((σ.2.2.1 38 x3.toNatClampNeg) = 0 → vp_in x3 (rf_n 39) ∧ (¬ (lg_cmp (x5 + 1) ((σ.2.2.1 39 x3.toNatClampNeg).toInt64)) = 0 → w_X12_startOf_237 post k64 σ x1 x2 x3 x4 (x5 + 1) x7 x8 x9) ∧ ((lg_cmp (x5 + 1) ((σ.2.2.1 39 x3.toNatClampNeg).toInt64)) = 0 → w_X12_startOf_237 post k64 σ x1 x2 x3 x4 (x5 + 1) x7 x9 x9))
section
variable {p : Program} {l : Launch} {e : Env} {s : State} {m : MethodId} {args : Array Value} {below : List Frame} {meth : Method} {c : Code} {P : hw_G} {o : Nat} {ad : Nat → Nat}
set_option maxRecDepth 100000 in
set_option maxHeartbeats 4000000 in
theorem t_X12_startOf_140 {post : Int32 → rf_S → Prop} {k64 : rf_S → Int32 → Int32 → Int32 → Int32 → Int64 → Int32 → Int32 → Int32 → Prop} (hC : rf_C P RX12 p s m meth c cX12_startOf 11 (some .int)) (hk64 : ∀ (σ : rf_S) (x1 : Int32) (x2 : Int32) (x3 : Int32) (x4 : Int32) (x5 : Int64) (x7 : Int32) (x8 : Int32) (x9 : Int32) (H : Heap) (locs : List Loc) (ls : Array Slot), k64 σ x1 x2 x3 x4 x5 x7 x8 x9 → rf_T P s (rf_A o ad) o ad σ H locs → lv_has ls 11 [(0, .ref o), (1, .int x1), (2, .int x2), (3, .int x3), (4, .int x4), (5, .long x5), (7, .int x7), (8, .int x8), (9, .int x9)] → W p l e rm_X12_startOf s m args below meth c H locs 0 0 (MQ below (rf_Qi P o ad post) args s 0 0 (rf_A o ad)) (F0 m 64 ls [])) (σ : rf_S) (x1 : Int32) (x2 : Int32) (x3 : Int32) (x4 : Int32) (x5 : Int64) (x7 : Int32) (x8 : Int32) (x9 : Int32) (y0 : Int32) (H : Heap) (locs : List Loc) (ls : Array Slot) (h : w_X12_startOf_140 post k64 σ x1 x2 x3 x4 x5 x7 x8 x9 y0) (hT : rf_T P s (rf_A o ad) o ad σ H locs) (hl : lv_has ls 11 [(0, .ref o), (1, .int x1), (2, .int x2), (3, .int x3), (4, .int x4), (5, .long x5), (7, .int x7), (8, .int x8), (9, .int x9)]) : W p l e rm_X12_startOf s m args below meth c H locs 0 0 (MQ below (rf_Qi P o ad post) args s 0 0 (rf_A o ad)) (F0 m 140 ls [.int y0]) := by
  obtain ⟨hx, hb, hml, hown, hK, -, -⟩ := id hC
  refine lv_istore (lv' := [(10, _), (0, _), (1, _), (2, _), (3, _), (4, _), (5, _), (7, _), (8, _), (9, _)]) hx hb dX12_startOf_140 hl (by decide) rfl (fun ls hl => ?_)
  refine lv_aload_n hx hb dX12_startOf_142 rfl (lv_at hl 1 rfl) ?_
  refine rf_get hx hb hK hT hown 38 (by decide) kfX12_208 (v := .ref (ad 38)) rfl dX12_startOf_143 ?_
  refine lv_iload_n hx hb dX12_startOf_146 rfl (lv_at hl 4 rfl) ?_
  obtain ⟨hi, h⟩ := h
  refine rf_iald hx hb hK hT 38 (by decide) rfl hi (v := σ.2.2.1 38 x3.toNatClampNeg) rfl dX12_startOf_147 ?_
  refine lv_if_ne (tgt := 177) hx hb dX12_startOf_148 (by decide) (fun hc => ?_) (fun hc => ?_)
  · have h := h.1 hc
    refine lv_aload_n hx hb dX12_startOf_177 rfl (lv_at hl 1 rfl) ?_
    refine rf_get hx hb hK hT hown 38 (by decide) kfX12_208 (v := .ref (ad 38)) rfl dX12_startOf_178 ?_
    refine lv_iload_n hx hb dX12_startOf_181 rfl (lv_at hl 4 rfl) ?_
    obtain ⟨hi, h⟩ := h
    refine rf_iald hx hb hK hT 38 (by decide) rfl hi (v := σ.2.2.1 38 x3.toNatClampNeg) rfl dX12_startOf_182 ?_
    refine lv_iconst (v := 2) hx hb dX12_startOf_183 (by decide) ?_
    refine lv_icmp_ne (tgt := 203) hx hb dX12_startOf_184 (by decide) (fun hc => ?_) (fun hc => ?_)
    · have h := h.1 hc
      refine lv_aload_n hx hb dX12_startOf_203 rfl (lv_at hl 1 rfl) ?_
      refine rf_get hx hb hK hT hown 68 (by decide) kfX12_263 (v := .ref (ad 68)) rfl dX12_startOf_204 ?_
      refine lv_aload_n hx hb dX12_startOf_207 rfl (lv_at hl 1 rfl) ?_
      refine rf_get hx hb hK hT hown 17 (by decide) kfX12_55 (v := .ref (ad 17)) rfl dX12_startOf_208 ?_
      refine lv_iload hx hb dX12_startOf_211 (lv_at hl 0 rfl) ?_
      obtain ⟨hi, h⟩ := h
      refine rf_iald hx hb hK hT 17 (by decide) rfl hi (v := σ.2.2.1 17 y0.toNatClampNeg) rfl dX12_startOf_213 ?_
      obtain ⟨hi, h⟩ := h
      refine rf_zald hx hb hK hT 68 (by decide) rfl hi (v := σ.2.2.1 68 (σ.2.2.1 17 y0.toNatClampNeg).toNatClampNeg) rfl dX12_startOf_214 ?_
      refine lv_if_ne (tgt := 237) hx hb dX12_startOf_215 (by decide) (fun hc => ?_) (fun hc => ?_)
      · have h := h.1 hc
        exact t_X12_startOf_237 hC hk64 σ x1 x2 x3 x4 x5 x7 x8 x9 _ _ _ h hT (lv_sub hl [1, 2, 3, 4, 5, 6, 7, 8, 9] rfl)
      · have h := h.2 hc
        refine lv_aload_n hx hb dX12_startOf_218 rfl (lv_at hl 1 rfl) ?_
        refine rf_get hx hb hK hT hown 68 (by decide) kfX12_263 (v := .ref (ad 68)) rfl dX12_startOf_219 ?_
        refine lv_aload_n hx hb dX12_startOf_222 rfl (lv_at hl 1 rfl) ?_
        refine rf_get hx hb hK hT hown 17 (by decide) kfX12_55 (v := .ref (ad 17)) rfl dX12_startOf_223 ?_
        refine lv_iload hx hb dX12_startOf_226 (lv_at hl 0 rfl) ?_
        obtain ⟨hi, h⟩ := h
        refine rf_iald hx hb hK hT 17 (by decide) rfl hi (v := σ.2.2.1 17 y0.toNatClampNeg) rfl dX12_startOf_228 ?_
        refine lv_iconst (v := 1) hx hb dX12_startOf_229 (by decide) ?_
        obtain ⟨hi, h⟩ := h
        refine rf_zast hx hb hK hT 68 (by decide) rfl hi dX12_startOf_230 (fun H locs hT => ?_)
        refine lv_lload hx hb dX12_startOf_231 (lv_at hl 6 rfl) ?_
        refine lv_lconst (v := 1) hx hb dX12_startOf_233 (by decide) ?_
        refine lv_ladd hx hb dX12_startOf_234 ?_
        refine lv_lstore (lv' := [(5, _), (10, _), (0, _), (1, _), (2, _), (3, _), (4, _), (7, _), (8, _), (9, _)]) hx hb dX12_startOf_235 hl (by decide) rfl (fun ls hl => ?_)
        exact t_X12_startOf_237 hC hk64 (rf_ua σ 68 (σ.2.2.1 17 y0.toNatClampNeg).toNatClampNeg (vp_nar .boolean 1)) x1 x2 x3 x4 (x5 + 1) x7 x8 x9 _ _ _ h hT (lv_sub hl [2, 3, 4, 5, 6, 0, 7, 8, 9] rfl)
    · have h := h.2 hc
      refine lv_lload hx hb dX12_startOf_187 (lv_at hl 6 rfl) ?_
      refine lv_aload_n hx hb dX12_startOf_189 rfl (lv_at hl 1 rfl) ?_
      refine rf_get hx hb hK hT hown 15 (by decide) kfX12_30 (v := .ref (ad 15)) rfl dX12_startOf_190 ?_
      refine lv_iload hx hb dX12_startOf_193 (lv_at hl 0 rfl) ?_
      obtain ⟨hi, h⟩ := h
      refine rf_iald hx hb hK hT 15 (by decide) rfl hi (v := σ.2.2.1 15 y0.toNatClampNeg) rfl dX12_startOf_195 ?_
      refine lv_i2l (v := (σ.2.2.1 15 y0.toNatClampNeg).toInt64) hx hb dX12_startOf_196 rfl ?_
      refine lv_ladd hx hb dX12_startOf_197 ?_
      refine lv_lstore (lv' := [(5, _), (10, _), (0, _), (1, _), (2, _), (3, _), (4, _), (7, _), (8, _), (9, _)]) hx hb dX12_startOf_198 hl (by decide) rfl (fun ls hl => ?_)
      refine lv_goto (tgt := 237) hx hb dX12_startOf_200 (by decide) ?_
      exact t_X12_startOf_237 hC hk64 σ x1 x2 x3 x4 (x5 + ((σ.2.2.1 15 y0.toNatClampNeg).toInt64)) x7 x8 x9 _ _ _ h hT (lv_sub hl [2, 3, 4, 5, 6, 0, 7, 8, 9] rfl)
  · have h := h.2 hc
    refine lv_lload hx hb dX12_startOf_151 (lv_at hl 6 rfl) ?_
    refine lv_lconst (v := 1) hx hb dX12_startOf_153 (by decide) ?_
    refine lv_ladd hx hb dX12_startOf_154 ?_
    refine lv_lstore (lv' := [(5, _), (10, _), (0, _), (1, _), (2, _), (3, _), (4, _), (7, _), (8, _), (9, _)]) hx hb dX12_startOf_155 hl (by decide) rfl (fun ls hl => ?_)
    refine lv_lload hx hb dX12_startOf_157 (lv_at hl 0 rfl) ?_
    refine lv_aload_n hx hb dX12_startOf_159 rfl (lv_at hl 2 rfl) ?_
    refine rf_get hx hb hK hT hown 39 (by decide) kfX12_211 (v := .ref (ad 39)) rfl dX12_startOf_160 ?_
    refine lv_iload_n hx hb dX12_startOf_163 rfl (lv_at hl 5 rfl) ?_
    obtain ⟨hi, h⟩ := h
    refine rf_iald hx hb hK hT 39 (by decide) rfl hi (v := σ.2.2.1 39 x3.toNatClampNeg) rfl dX12_startOf_164 ?_
    refine lv_i2l (v := (σ.2.2.1 39 x3.toNatClampNeg).toInt64) hx hb dX12_startOf_165 rfl ?_
    refine W.lcmp hx hb dX12_startOf_166 ?_
    refine lv_if_ne (tgt := 237) hx hb dX12_startOf_167 (by decide) (fun hc => ?_) (fun hc => ?_)
    · have h := h.1 hc
      exact t_X12_startOf_237 hC hk64 σ x1 x2 x3 x4 (x5 + 1) x7 x8 x9 _ _ _ h hT (lv_sub hl [2, 3, 4, 5, 6, 0, 7, 8, 9] rfl)
    · have h := h.2 hc
      refine lv_iload hx hb dX12_startOf_170 (lv_at hl 9 rfl) ?_
      refine lv_istore (lv' := [(8, _), (5, _), (10, _), (0, _), (1, _), (2, _), (3, _), (4, _), (7, _), (9, _)]) hx hb dX12_startOf_172 hl (by decide) rfl (fun ls hl => ?_)
      refine lv_goto (tgt := 237) hx hb dX12_startOf_174 (by decide) ?_
      exact t_X12_startOf_237 hC hk64 σ x1 x2 x3 x4 (x5 + 1) x7 x9 x9 _ _ _ h hT (lv_sub hl [3, 4, 5, 6, 7, 1, 8, 0, 9] rfl)
end
def w_X12_startOf_64 (post : Int32 → rf_S → Prop) : Nat → rf_S → Int32 → Int32 → Int32 → Int32 → Int64 → Int32 → Int32 → Int32 → Prop
  | 0, _, _, _, _, _, _, _, _, _ => False
  | n + 1, σ, x1, x2, x3, x4, x5, x7, x8, x9 => (x9 < 0 → w_X12_startOf_243 post σ x1 x2 x3 x4 x5 x7 x8) ∧ (¬ x9 < 0 → vp_in x9 (rf_n 8) ∧ vp_in x2 (rf_n 8) ∧ vp_in x3 (rf_n 44) ∧ ((lg_cmp ((σ.2.2.1 8 x9.toNatClampNeg).toInt64) (((σ.2.2.1 8 x2.toNatClampNeg).toInt64) - ((σ.2.2.1 44 x3.toNatClampNeg).toInt64))) ≤ 0 → w_X12_startOf_243 post σ x1 x2 x3 x4 x5 x7 x8) ∧ (¬ (lg_cmp ((σ.2.2.1 8 x9.toNatClampNeg).toInt64) (((σ.2.2.1 8 x2.toNatClampNeg).toInt64) - ((σ.2.2.1 44 x3.toNatClampNeg).toInt64))) ≤ 0 → wp_X12_counts (fun r9 σ9 => (¬ r9 = 0 → vp_in x3 (rf_n 38) ∧ (¬ (σ9.2.2.1 38 x3.toNatClampNeg) = 0 → vp_in x3 (rf_n 36) ∧ wp_X12_fieldOf (fun r10 σ10 => w_X12_startOf_140 post (w_X12_startOf_64 post n) σ10 x1 x2 x3 x4 x5 x9 x8 x9 r10) σ9 x9 (σ9.2.2.2 36 x3.toNatClampNeg)) ∧ ((σ9.2.2.1 38 x3.toNatClampNeg) = 0 → w_X12_startOf_140 post (w_X12_startOf_64 post n) σ9 x1 x2 x3 x4 x5 x9 x8 x9 ((-1)))) ∧ (r9 = 0 → w_X12_startOf_237 post (w_X12_startOf_64 post n) σ9 x1 x2 x3 x4 x5 x7 x8 x9)) σ x1 x9 x4))
section
variable {p : Program} {l : Launch} {e : Env} {s : State} {m : MethodId} {args : Array Value} {below : List Frame} {meth : Method} {c : Code} {P : hw_G} {o : Nat} {ad : Nat → Nat}
set_option maxRecDepth 100000 in
set_option maxHeartbeats 4000000 in
theorem t_X12_startOf_64 {post : Int32 → rf_S → Prop} (hC : rf_C P RX12 p s m meth c cX12_startOf 11 (some .int)) : ∀ (n : Nat) (σ : rf_S) (x1 : Int32) (x2 : Int32) (x3 : Int32) (x4 : Int32) (x5 : Int64) (x7 : Int32) (x8 : Int32) (x9 : Int32) (H : Heap) (locs : List Loc) (ls : Array Slot), w_X12_startOf_64 post n σ x1 x2 x3 x4 x5 x7 x8 x9 → rf_T P s (rf_A o ad) o ad σ H locs → lv_has ls 11 [(0, .ref o), (1, .int x1), (2, .int x2), (3, .int x3), (4, .int x4), (5, .long x5), (7, .int x7), (8, .int x8), (9, .int x9)] → W p l e rm_X12_startOf s m args below meth c H locs 0 0 (MQ below (rf_Qi P o ad post) args s 0 0 (rf_A o ad)) (F0 m 64 ls []) := by
  obtain ⟨hx, hb, hml, hown, hK, -, -⟩ := id hC
  intro n
  induction n with
  | zero => intro σ x1 x2 x3 x4 x5 x7 x8 x9 H locs ls h; exact False.elim h
  | succ n ih =>
    intro σ x1 x2 x3 x4 x5 x7 x8 x9 H locs ls h hT hl
    refine lv_iload hx hb dX12_startOf_64 (lv_at hl 8 rfl) ?_
    refine lv_if_lt (tgt := 243) hx hb dX12_startOf_66 (by decide) (fun hc => ?_) (fun hc => ?_)
    · have h := h.1 hc
      exact t_X12_startOf_243 hC σ x1 x2 x3 x4 x5 x7 x8 _ _ _ h hT (lv_sub hl [0, 1, 2, 3, 4, 5, 6, 7] rfl)
    · have h := h.2 hc
      refine lv_aload_n hx hb dX12_startOf_69 rfl (lv_at hl 0 rfl) ?_
      refine rf_get hx hb hK hT hown 8 (by decide) kfX12_170 (v := .ref (ad 8)) rfl dX12_startOf_70 ?_
      refine lv_iload hx hb dX12_startOf_73 (lv_at hl 8 rfl) ?_
      obtain ⟨hi, h⟩ := h
      refine rf_iald hx hb hK hT 8 (by decide) rfl hi (v := σ.2.2.1 8 x9.toNatClampNeg) rfl dX12_startOf_75 ?_
      refine lv_i2l (v := (σ.2.2.1 8 x9.toNatClampNeg).toInt64) hx hb dX12_startOf_76 rfl ?_
      refine lv_aload_n hx hb dX12_startOf_77 rfl (lv_at hl 0 rfl) ?_
      refine rf_get hx hb hK hT hown 8 (by decide) kfX12_170 (v := .ref (ad 8)) rfl dX12_startOf_78 ?_
      refine lv_iload_n hx hb dX12_startOf_81 rfl (lv_at hl 2 rfl) ?_
      obtain ⟨hi, h⟩ := h
      refine rf_iald hx hb hK hT 8 (by decide) rfl hi (v := σ.2.2.1 8 x2.toNatClampNeg) rfl dX12_startOf_82 ?_
      refine lv_i2l (v := (σ.2.2.1 8 x2.toNatClampNeg).toInt64) hx hb dX12_startOf_83 rfl ?_
      refine lv_aload_n hx hb dX12_startOf_84 rfl (lv_at hl 0 rfl) ?_
      refine rf_get hx hb hK hT hown 44 (by decide) kfX12_226 (v := .ref (ad 44)) rfl dX12_startOf_85 ?_
      refine lv_iload_n hx hb dX12_startOf_88 rfl (lv_at hl 3 rfl) ?_
      obtain ⟨hi, h⟩ := h
      refine rf_iald hx hb hK hT 44 (by decide) rfl hi (v := σ.2.2.1 44 x3.toNatClampNeg) rfl dX12_startOf_89 ?_
      refine lv_i2l (v := (σ.2.2.1 44 x3.toNatClampNeg).toInt64) hx hb dX12_startOf_90 rfl ?_
      refine lv_lsub hx hb dX12_startOf_91 ?_
      refine W.lcmp hx hb dX12_startOf_92 ?_
      refine lv_if_le (tgt := 243) hx hb dX12_startOf_93 (by decide) (fun hc => ?_) (fun hc => ?_)
      · have h := h.1 hc
        exact t_X12_startOf_243 hC σ x1 x2 x3 x4 x5 x7 x8 _ _ _ h hT (lv_sub hl [0, 1, 2, 3, 4, 5, 6, 7] rfl)
      · have h := h.2 hc
        refine lv_aload_n hx hb dX12_startOf_96 rfl (lv_at hl 0 rfl) ?_
        refine lv_iload_n hx hb dX12_startOf_97 rfl (lv_at hl 1 rfl) ?_
        refine lv_iload hx hb dX12_startOf_98 (lv_at hl 8 rfl) ?_
        refine lv_iload hx hb dX12_startOf_100 (lv_at hl 4 rfl) ?_
        refine rf_calli (rf_runV hx hb hml hown hK hT (c_X12_counts h) rfl rfl klX12_475 ki_X12_counts ks_X12_counts kn_X12 kc_X12_counts 3 ⟨rfl, by decide, by decide, by decide +kernel⟩ ⟨by decide, by decide⟩ rfl hl.1 rfl (Nat.le_of_ble_eq_true rfl) ⟨Nat.le_refl _, Nat.le_refl _⟩ dX12_startOf_102) hT (fun r9 σ9 H locs h hT => ?_)
        refine lv_if_ne (tgt := 111) hx hb dX12_startOf_105 (by decide) (fun hc => ?_) (fun hc => ?_)
        · have h := h.1 hc
          refine lv_iload hx hb dX12_startOf_111 (lv_at hl 8 rfl) ?_
          refine lv_istore (lv' := [(7, _), (0, _), (1, _), (2, _), (3, _), (4, _), (5, _), (8, _), (9, _)]) hx hb dX12_startOf_113 hl (by decide) rfl (fun ls hl => ?_)
          refine lv_aload_n hx hb dX12_startOf_115 rfl (lv_at hl 1 rfl) ?_
          refine rf_get hx hb hK hT hown 38 (by decide) kfX12_208 (v := .ref (ad 38)) rfl dX12_startOf_116 ?_
          refine lv_iload_n hx hb dX12_startOf_119 rfl (lv_at hl 4 rfl) ?_
          obtain ⟨hi, h⟩ := h
          refine rf_iald hx hb hK hT 38 (by decide) rfl hi (v := σ9.2.2.1 38 x3.toNatClampNeg) rfl dX12_startOf_120 ?_
          refine lv_if_ne (tgt := 128) hx hb dX12_startOf_121 (by decide) (fun hc => ?_) (fun hc => ?_)
          · have h := h.1 hc
            refine lv_aload_n hx hb dX12_startOf_128 rfl (lv_at hl 1 rfl) ?_
            refine lv_iload hx hb dX12_startOf_129 (lv_at hl 8 rfl) ?_
            refine lv_aload_n hx hb dX12_startOf_131 rfl (lv_at hl 1 rfl) ?_
            refine rf_get hx hb hK hT hown 36 (by decide) kfX12_202 (v := .ref (ad 36)) rfl dX12_startOf_132 ?_
            refine lv_iload_n hx hb dX12_startOf_135 rfl (lv_at hl 4 rfl) ?_
            obtain ⟨hi, h⟩ := h
            refine rf_lald hx hb hK hT 36 (by decide) rfl hi (v := σ9.2.2.2 36 x3.toNatClampNeg) rfl dX12_startOf_136 ?_
            refine rf_calli (rf_runV hx hb hml hown hK hT (c_X12_fieldOf h) rfl rfl klX12_438 ki_X12_fieldOf ks_X12_fieldOf kn_X12 kc_X12_fieldOf 2 ⟨rfl, by decide, by decide, by decide +kernel⟩ ⟨by decide, by decide⟩ rfl hl.1 rfl (Nat.le_of_ble_eq_true rfl) ⟨Nat.le_refl _, Nat.le_refl _⟩ dX12_startOf_137) hT (fun r10 σ10 H locs h hT => ?_)
            exact t_X12_startOf_140 hC ih σ10 x1 x2 x3 x4 x5 x9 x8 x9 r10 _ _ _ h hT (lv_sub hl [1, 2, 3, 4, 5, 6, 0, 7, 8] rfl)
          · have h := h.2 hc
            refine lv_iconst (v := (-1)) hx hb dX12_startOf_124 (by decide) ?_
            refine lv_goto (tgt := 140) hx hb dX12_startOf_125 (by decide) ?_
            exact t_X12_startOf_140 hC ih σ9 x1 x2 x3 x4 x5 x9 x8 x9 ((-1)) _ _ _ h hT (lv_sub hl [1, 2, 3, 4, 5, 6, 0, 7, 8] rfl)
        · have h := h.2 hc
          refine lv_goto (tgt := 237) hx hb dX12_startOf_108 (by decide) ?_
          exact t_X12_startOf_237 hC ih σ9 x1 x2 x3 x4 x5 x7 x8 x9 _ _ _ h hT (lv_sub hl [0, 1, 2, 3, 4, 5, 6, 7, 8] rfl)
end
def wp_X12_startOf (post : Int32 → rf_S → Prop) (σ : rf_S) (p1 : Int32) (p2 : Int32) : Prop := vp_in ((12 * (σ.1 32)) + p1) (rf_n 38) ∧ (¬ (σ.2.2.1 38 ((12 * (σ.1 32)) + p1).toNatClampNeg) = 3 → wp_X12_hasIt (fun r11 σ11 => (¬ r11 = 0 → vp_in ((4000 * p1) + p2) (rf_n 63) ∧ ∃ n9, w_X12_startOf_64 post n9 σ11 p1 p2 ((12 * (σ.1 32)) + p1) (σ11.2.2.1 63 ((4000 * p1) + p2).toNatClampNeg) 0 ((-1)) ((-1)) p2) ∧ (r11 = 0 → post ((-1)) σ11)) σ p1 p2) ∧ ((σ.2.2.1 38 ((12 * (σ.1 32)) + p1).toNatClampNeg) = 3 → wp_X12_chainStart (fun r12 σ12 => post r12 σ12) σ p1 p2)
set_option maxRecDepth 100000 in
set_option maxHeartbeats 4000000 in
theorem c_X12_startOf {l : Launch} {P : hw_G} {o : Nat} {ad : Nat → Nat} {σ : rf_S} {p1 : Int32} {p2 : Int32} {post : Int32 → rf_S → Prop} (h : wp_X12_startOf post σ p1 p2) : Met l yX12_startOf [Cond.code yX12_startOf cX12_startOf 11 (some .int)] rm_X12_startOf (rf_Pc P o ad σ [.ref o, .int p1, .int p2]) (rf_Qi P o ad post) 0 0 (rf_A o ad) := by
  refine rf_met (by decide) rfl (Nat.le_of_ble_eq_true rfl) ?_
  intro p e s m below meth c ls hC hT hl
  obtain ⟨hx, hb, hml, hown, hK, -, -⟩ := id hC
  have hl : lv_has ls 11 [(0, .ref o), (1, .int p1), (2, .int p2)] := hl
  refine lv_bipush (v := 12) hx hb dX12_startOf_0 (by decide) ?_
  refine lv_aload_n hx hb dX12_startOf_2 rfl (lv_at hl 0 rfl) ?_
  refine rf_get hx hb hK hT hown 32 (by decide) kfX12_368 (v := .int (σ.1 32)) rfl dX12_startOf_3 ?_
  refine lv_imul hx hb dX12_startOf_6 ?_
  refine lv_iload_n hx hb dX12_startOf_7 rfl (lv_at hl 1 rfl) ?_
  refine lv_iadd hx hb dX12_startOf_8 ?_
  refine lv_istore_n (lv' := [(3, _), (0, _), (1, _), (2, _)]) hx hb dX12_startOf_9 rfl hl (by decide) rfl (fun ls hl => ?_)
  refine lv_aload_n hx hb dX12_startOf_10 rfl (lv_at hl 1 rfl) ?_
  refine rf_get hx hb hK hT hown 38 (by decide) kfX12_208 (v := .ref (ad 38)) rfl dX12_startOf_11 ?_
  refine lv_iload_n hx hb dX12_startOf_14 rfl (lv_at hl 0 rfl) ?_
  obtain ⟨hi, h⟩ := h
  refine rf_iald hx hb hK hT 38 (by decide) rfl hi (v := σ.2.2.1 38 ((12 * (σ.1 32)) + p1).toNatClampNeg) rfl dX12_startOf_15 ?_
  refine lv_iconst (v := 3) hx hb dX12_startOf_16 (by decide) ?_
  refine lv_icmp_ne (tgt := 27) hx hb dX12_startOf_17 (by decide) (fun hc => ?_) (fun hc => ?_)
  · have h := h.1 hc
    refine lv_aload_n hx hb dX12_startOf_27 rfl (lv_at hl 1 rfl) ?_
    refine lv_iload_n hx hb dX12_startOf_28 rfl (lv_at hl 2 rfl) ?_
    refine lv_iload_n hx hb dX12_startOf_29 rfl (lv_at hl 3 rfl) ?_
    refine rf_calli (rf_runV hx hb hml hown hK hT (c_X12_hasIt h) rfl rfl klX12_469 ki_X12_hasIt ks_X12_hasIt kn_X12 kc_X12_hasIt 2 ⟨rfl, by decide, by decide, by decide +kernel⟩ ⟨by decide, by decide⟩ rfl hl.1 rfl (Nat.le_of_ble_eq_true rfl) ⟨Nat.le_refl _, Nat.le_refl _⟩ dX12_startOf_30) hT (fun r11 σ11 H locs h hT => ?_)
    refine lv_if_ne (tgt := 38) hx hb dX12_startOf_33 (by decide) (fun hc => ?_) (fun hc => ?_)
    · have h := h.1 hc
      refine lv_aload_n hx hb dX12_startOf_38 rfl (lv_at hl 1 rfl) ?_
      refine rf_get hx hb hK hT hown 63 (by decide) kfX12_87 (v := .ref (ad 63)) rfl dX12_startOf_39 ?_
      refine lv_sipush (v := 4000) hx hb dX12_startOf_42 (by decide) ?_
      refine lv_iload_n hx hb dX12_startOf_45 rfl (lv_at hl 2 rfl) ?_
      refine lv_imul hx hb dX12_startOf_46 ?_
      refine lv_iload_n hx hb dX12_startOf_47 rfl (lv_at hl 3 rfl) ?_
      refine lv_iadd hx hb dX12_startOf_48 ?_
      obtain ⟨hi, h⟩ := h
      refine rf_sald hx hb hK hT 63 (by decide) rfl hi (v := σ11.2.2.1 63 ((4000 * p1) + p2).toNatClampNeg) rfl dX12_startOf_49 ?_
      refine lv_istore (lv' := [(4, _), (3, _), (0, _), (1, _), (2, _)]) hx hb dX12_startOf_50 hl (by decide) rfl (fun ls hl => ?_)
      refine lv_lconst (v := 0) hx hb dX12_startOf_52 (by decide) ?_
      refine lv_lstore (lv' := [(5, _), (4, _), (3, _), (0, _), (1, _), (2, _)]) hx hb dX12_startOf_53 hl (by decide) rfl (fun ls hl => ?_)
      refine lv_iconst (v := (-1)) hx hb dX12_startOf_55 (by decide) ?_
      refine lv_istore (lv' := [(7, _), (5, _), (4, _), (3, _), (0, _), (1, _), (2, _)]) hx hb dX12_startOf_56 hl (by decide) rfl (fun ls hl => ?_)
      refine lv_iconst (v := (-1)) hx hb dX12_startOf_58 (by decide) ?_
      refine lv_istore (lv' := [(8, _), (7, _), (5, _), (4, _), (3, _), (0, _), (1, _), (2, _)]) hx hb dX12_startOf_59 hl (by decide) rfl (fun ls hl => ?_)
      refine lv_iload_n hx hb dX12_startOf_61 rfl (lv_at hl 7 rfl) ?_
      refine lv_istore (lv' := [(9, _), (8, _), (7, _), (5, _), (4, _), (3, _), (0, _), (1, _), (2, _)]) hx hb dX12_startOf_62 hl (by decide) rfl (fun ls hl => ?_)
      obtain ⟨n9, h⟩ := h
      exact t_X12_startOf_64 hC n9 σ11 p1 p2 ((12 * (σ.1 32)) + p1) (σ11.2.2.1 63 ((4000 * p1) + p2).toNatClampNeg) 0 ((-1)) ((-1)) p2 _ _ _ h hT (lv_sub hl [6, 7, 8, 5, 4, 3, 2, 1, 0] rfl)
    · have h := h.2 hc
      refine lv_iconst (v := (-1)) hx hb dX12_startOf_36 (by decide) ?_
      exact rf_iret hC hT h dX12_startOf_37
  · have h := h.2 hc
    refine lv_aload_n hx hb dX12_startOf_20 rfl (lv_at hl 1 rfl) ?_
    refine lv_iload_n hx hb dX12_startOf_21 rfl (lv_at hl 2 rfl) ?_
    refine lv_iload_n hx hb dX12_startOf_22 rfl (lv_at hl 3 rfl) ?_
    refine rf_calli (rf_runV hx hb hml hown hK hT (c_X12_chainStart h) rfl rfl klX12_472 ki_X12_chainStart ks_X12_chainStart kn_X12 kc_X12_chainStart 2 ⟨rfl, by decide, by decide, by decide +kernel⟩ ⟨by decide, by decide⟩ rfl hl.1 rfl (Nat.le_of_ble_eq_true rfl) ⟨Nat.le_refl _, Nat.le_refl _⟩ dX12_startOf_23) hT (fun r12 σ12 H locs h hT => ?_)
    exact rf_iret hC hT h dX12_startOf_26
/-! X12_looked -/
abbrev rm_X12_looked : Room := { frames := 63, cells := 0, slots := 0, locals := 2473 }
def w_X12_looked_247 (post : rf_S → Prop) (k2 : rf_S → Int32 → Int32 → Prop) (σ : rf_S) (x1 : Int32) (x3 : Int32) : Prop := k2 σ x1 (x3 + 1)
section
variable {p : Program} {l : Launch} {e : Env} {s : State} {m : MethodId} {args : Array Value} {below : List Frame} {meth : Method} {c : Code} {P : hw_G} {o : Nat} {ad : Nat → Nat}
set_option maxRecDepth 100000 in
set_option maxHeartbeats 4000000 in
theorem t_X12_looked_247 {post : rf_S → Prop} {k2 : rf_S → Int32 → Int32 → Prop} (hC : rf_C P RX12 p s m meth c cX12_looked 8 none) (hk2 : ∀ (σ : rf_S) (x1 : Int32) (x3 : Int32) (H : Heap) (locs : List Loc) (ls : Array Slot), k2 σ x1 x3 → rf_T P s (rf_A o ad) o ad σ H locs → lv_has ls 8 [(0, .ref o), (1, .int x1), (3, .int x3)] → W p l e rm_X12_looked s m args below meth c H locs 0 0 (MQ below (rf_Qv P o ad post) args s 0 0 (rf_A o ad)) (F0 m 2 ls [])) (σ : rf_S) (x1 : Int32) (x3 : Int32) (H : Heap) (locs : List Loc) (ls : Array Slot) (h : w_X12_looked_247 post k2 σ x1 x3) (hT : rf_T P s (rf_A o ad) o ad σ H locs) (hl : lv_has ls 8 [(0, .ref o), (1, .int x1), (3, .int x3)]) : W p l e rm_X12_looked s m args below meth c H locs 0 0 (MQ below (rf_Qv P o ad post) args s 0 0 (rf_A o ad)) (F0 m 247 ls []) := by
  obtain ⟨hx, hb, hml, hown, hK, -, -⟩ := id hC
  refine lv_iinc (v := x3 + 1) (lv' := [(3, _), (0, _), (1, _)]) hx hb dX12_looked_247 hl (k := 2) rfl rfl (by decide) rfl (fun ls hl => ?_)
  refine lv_goto (tgt := 2) hx hb dX12_looked_250 (by decide) ?_
  exact hk2 σ x1 (x3 + 1) _ _ _ h hT (lv_sub hl [1, 2, 0] rfl)
end
def w_X12_looked_183 (post : rf_S → Prop) (k2 : rf_S → Int32 → Int32 → Prop) (σ : rf_S) (x1 : Int32) (x3 : Int32) (x6 : Int32) (y1 : Int32) (y2 : Int32) (y3 : Int32) : Prop := wp_X12_answered (fun σ8 => ((x6 &&& 1) ≤ 0 → w_X12_looked_247 post k2 σ8 x1 x3) ∧ (¬ (x6 &&& 1) ≤ 0 → wp_X12_waits (fun σ9 => w_X12_looked_247 post k2 σ9 x1 x3) σ8 x3 x1)) σ y1 y2 y3
section
variable {p : Program} {l : Launch} {e : Env} {s : State} {m : MethodId} {args : Array Value} {below : List Frame} {meth : Method} {c : Code} {P : hw_G} {o : Nat} {ad : Nat → Nat}
set_option maxRecDepth 100000 in
set_option maxHeartbeats 4000000 in
theorem t_X12_looked_183 {post : rf_S → Prop} {k2 : rf_S → Int32 → Int32 → Prop} (hC : rf_C P RX12 p s m meth c cX12_looked 8 none) (hk2 : ∀ (σ : rf_S) (x1 : Int32) (x3 : Int32) (H : Heap) (locs : List Loc) (ls : Array Slot), k2 σ x1 x3 → rf_T P s (rf_A o ad) o ad σ H locs → lv_has ls 8 [(0, .ref o), (1, .int x1), (3, .int x3)] → W p l e rm_X12_looked s m args below meth c H locs 0 0 (MQ below (rf_Qv P o ad post) args s 0 0 (rf_A o ad)) (F0 m 2 ls [])) (σ : rf_S) (x1 : Int32) (x3 : Int32) (x6 : Int32) (y1 : Int32) (y2 : Int32) (y3 : Int32) (H : Heap) (locs : List Loc) (ls : Array Slot) (h : w_X12_looked_183 post k2 σ x1 x3 x6 y1 y2 y3) (hT : rf_T P s (rf_A o ad) o ad σ H locs) (hl : lv_has ls 8 [(0, .ref o), (1, .int x1), (3, .int x3), (6, .int x6)]) : W p l e rm_X12_looked s m args below meth c H locs 0 0 (MQ below (rf_Qv P o ad post) args s 0 0 (rf_A o ad)) (F0 m 183 ls [.int y3, .int y2, .int y1, .ref o]) := by
  obtain ⟨hx, hb, hml, hown, hK, -, -⟩ := id hC
  refine rf_callv (rf_runV hx hb hml hown hK hT (c_X12_answered h) rfl rfl klX12_455 ki_X12_answered ks_X12_answered kn_X12 kc_X12_answered 3 ⟨rfl, by decide, by decide, by decide +kernel⟩ ⟨by decide, by decide⟩ rfl hl.1 rfl (Nat.le_of_ble_eq_true rfl) ⟨Nat.le_refl _, Nat.le_refl _⟩ dX12_looked_183) hT (fun σ8 H locs h hT => ?_)
  refine lv_iload hx hb dX12_looked_186 (lv_at hl 3 rfl) ?_
  refine lv_iconst (v := 1) hx hb dX12_looked_188 (by decide) ?_
  refine lv_iand hx hb dX12_looked_189 ?_
  refine lv_if_le (tgt := 247) hx hb dX12_looked_190 (by decide) (fun hc => ?_) (fun hc => ?_)
  · have h := h.1 hc
    exact t_X12_looked_247 hC hk2 σ8 x1 x3 _ _ _ h hT (lv_sub hl [0, 1, 2] rfl)
  · have h := h.2 hc
    refine lv_aload_n hx hb dX12_looked_193 rfl (lv_at hl 0 rfl) ?_
    refine lv_iload_n hx hb dX12_looked_194 rfl (lv_at hl 2 rfl) ?_
    refine lv_iload_n hx hb dX12_looked_195 rfl (lv_at hl 1 rfl) ?_
    refine rf_callv (rf_runV hx hb hml hown hK hT (c_X12_waits h) rfl rfl klX12_459 ki_X12_waits ks_X12_waits kn_X12 kc_X12_waits 2 ⟨rfl, by decide, by decide, by decide +kernel⟩ ⟨by decide, by decide⟩ rfl hl.1 rfl (Nat.le_of_ble_eq_true rfl) ⟨Nat.le_refl _, Nat.le_refl _⟩ dX12_looked_196) hT (fun σ9 H locs h hT => ?_)
    refine lv_goto (tgt := 247) hx hb dX12_looked_199 (by decide) ?_
    exact t_X12_looked_247 hC hk2 σ9 x1 x3 _ _ _ h hT (lv_sub hl [0, 1, 2] rfl)
end
def w_X12_looked_147 (post : rf_S → Prop) (k2 : rf_S → Int32 → Int32 → Prop) (σ : rf_S) (x1 : Int32) (x3 : Int32) (x4 : Int32) (x5 : Int32) (x6 : Int32) : Prop := vp_in x5 (rf_n 64) ∧ vp_in x4 (rf_n 38) ∧ (¬ (σ.2.2.1 38 x4.toNatClampNeg) = 4 → vp_in x4 (rf_n 40) ∧ (¬ ((x6 >>> (((σ.2.2.1 40 x4.toNatClampNeg) - 1) &&& 31)) &&& 1) = 1 → w_X12_looked_247 post k2 (rf_ua σ 64 x5.toNatClampNeg (vp_nar .byte x6.toInt8.toInt32)) x1 x3) ∧ (((x6 >>> (((σ.2.2.1 40 x4.toNatClampNeg) - 1) &&& 31)) &&& 1) = 1 → wp_X12_startOf (fun r10 σ10 => (r10 < 0 → w_X12_looked_247 post k2 σ10 x1 x3) ∧ (¬ r10 < 0 → vp_in x1 (rf_n 8) ∧ wp_X12_finds (fun σ11 => w_X12_looked_247 post k2 σ11 x1 x3) σ10 x3 x1 (σ10.2.2.1 8 x1.toNatClampNeg) r10)) (rf_ua σ 64 x5.toNatClampNeg (vp_nar .byte x6.toInt8.toInt32)) x3 x1)) ∧ ((σ.2.2.1 38 x4.toNatClampNeg) = 4 → ((x6 &&& 2) ≤ 0 → w_X12_looked_183 post k2 (rf_ua σ 64 x5.toNatClampNeg (vp_nar .byte x6.toInt8.toInt32)) x1 x3 x6 x3 x1 0) ∧ (¬ (x6 &&& 2) ≤ 0 → w_X12_looked_183 post k2 (rf_ua σ 64 x5.toNatClampNeg (vp_nar .byte x6.toInt8.toInt32)) x1 x3 x6 x3 x1 1))
section
variable {p : Program} {l : Launch} {e : Env} {s : State} {m : MethodId} {args : Array Value} {below : List Frame} {meth : Method} {c : Code} {P : hw_G} {o : Nat} {ad : Nat → Nat}
set_option maxRecDepth 100000 in
set_option maxHeartbeats 4000000 in
theorem t_X12_looked_147 {post : rf_S → Prop} {k2 : rf_S → Int32 → Int32 → Prop} (hC : rf_C P RX12 p s m meth c cX12_looked 8 none) (hk2 : ∀ (σ : rf_S) (x1 : Int32) (x3 : Int32) (H : Heap) (locs : List Loc) (ls : Array Slot), k2 σ x1 x3 → rf_T P s (rf_A o ad) o ad σ H locs → lv_has ls 8 [(0, .ref o), (1, .int x1), (3, .int x3)] → W p l e rm_X12_looked s m args below meth c H locs 0 0 (MQ below (rf_Qv P o ad post) args s 0 0 (rf_A o ad)) (F0 m 2 ls [])) (σ : rf_S) (x1 : Int32) (x3 : Int32) (x4 : Int32) (x5 : Int32) (x6 : Int32) (H : Heap) (locs : List Loc) (ls : Array Slot) (h : w_X12_looked_147 post k2 σ x1 x3 x4 x5 x6) (hT : rf_T P s (rf_A o ad) o ad σ H locs) (hl : lv_has ls 8 [(0, .ref o), (1, .int x1), (3, .int x3), (4, .int x4), (5, .int x5), (6, .int x6)]) : W p l e rm_X12_looked s m args below meth c H locs 0 0 (MQ below (rf_Qv P o ad post) args s 0 0 (rf_A o ad)) (F0 m 147 ls []) := by
  obtain ⟨hx, hb, hml, hown, hK, -, -⟩ := id hC
  refine lv_aload_n hx hb dX12_looked_147 rfl (lv_at hl 0 rfl) ?_
  refine rf_get hx hb hK hT hown 64 (by decide) kfX12_260 (v := .ref (ad 64)) rfl dX12_looked_148 ?_
  refine lv_iload hx hb dX12_looked_151 (lv_at hl 4 rfl) ?_
  refine lv_iload hx hb dX12_looked_153 (lv_at hl 5 rfl) ?_
  refine lv_i2b (v := x6.toInt8.toInt32) hx hb dX12_looked_155 rfl ?_
  obtain ⟨hi, h⟩ := h
  refine rf_bast hx hb hK hT 64 (by decide) rfl hi dX12_looked_156 (fun H locs hT => ?_)
  refine lv_aload_n hx hb dX12_looked_157 rfl (lv_at hl 0 rfl) ?_
  refine rf_get hx hb hK hT hown 38 (by decide) kfX12_208 (v := .ref (ad 38)) rfl dX12_looked_158 ?_
  refine lv_iload hx hb dX12_looked_161 (lv_at hl 3 rfl) ?_
  obtain ⟨hi, h⟩ := h
  refine rf_iald hx hb hK hT 38 (by decide) rfl hi (v := σ.2.2.1 38 x4.toNatClampNeg) rfl dX12_looked_163 ?_
  refine lv_iconst (v := 4) hx hb dX12_looked_164 (by decide) ?_
  refine lv_icmp_ne (tgt := 202) hx hb dX12_looked_165 (by decide) (fun hc => ?_) (fun hc => ?_)
  · have h := h.1 hc
    refine lv_iload hx hb dX12_looked_202 (lv_at hl 5 rfl) ?_
    refine lv_aload_n hx hb dX12_looked_204 rfl (lv_at hl 0 rfl) ?_
    refine rf_get hx hb hK hT hown 40 (by decide) kfX12_214 (v := .ref (ad 40)) rfl dX12_looked_205 ?_
    refine lv_iload hx hb dX12_looked_208 (lv_at hl 3 rfl) ?_
    obtain ⟨hi, h⟩ := h
    refine rf_iald hx hb hK hT 40 (by decide) rfl hi (v := σ.2.2.1 40 x4.toNatClampNeg) rfl dX12_looked_210 ?_
    refine lv_iconst (v := 1) hx hb dX12_looked_211 (by decide) ?_
    refine lv_isub hx hb dX12_looked_212 ?_
    refine lv_ishr hx hb dX12_looked_213 ?_
    refine lv_iconst (v := 1) hx hb dX12_looked_214 (by decide) ?_
    refine lv_iand hx hb dX12_looked_215 ?_
    refine lv_iconst (v := 1) hx hb dX12_looked_216 (by decide) ?_
    refine lv_icmp_ne (tgt := 247) hx hb dX12_looked_217 (by decide) (fun hc => ?_) (fun hc => ?_)
    · have h := h.1 hc
      exact t_X12_looked_247 hC hk2 (rf_ua σ 64 x5.toNatClampNeg (vp_nar .byte x6.toInt8.toInt32)) x1 x3 _ _ _ h hT (lv_sub hl [0, 1, 2] rfl)
    · have h := h.2 hc
      refine lv_aload_n hx hb dX12_looked_220 rfl (lv_at hl 0 rfl) ?_
      refine lv_iload_n hx hb dX12_looked_221 rfl (lv_at hl 2 rfl) ?_
      refine lv_iload_n hx hb dX12_looked_222 rfl (lv_at hl 1 rfl) ?_
      refine rf_calli (rf_runV hx hb hml hown hK hT (c_X12_startOf h) rfl rfl klX12_462 ki_X12_startOf ks_X12_startOf kn_X12 kc_X12_startOf 2 ⟨rfl, by decide, by decide, by decide +kernel⟩ ⟨by decide, by decide⟩ rfl hl.1 rfl (Nat.le_of_ble_eq_true rfl) ⟨Nat.le_refl _, Nat.le_refl _⟩ dX12_looked_223) hT (fun r10 σ10 H locs h hT => ?_)
      refine lv_istore (lv' := [(7, _), (0, _), (1, _), (3, _), (4, _), (5, _), (6, _)]) hx hb dX12_looked_226 hl (by decide) rfl (fun ls hl => ?_)
      refine lv_iload hx hb dX12_looked_228 (lv_at hl 0 rfl) ?_
      refine lv_if_lt (tgt := 247) hx hb dX12_looked_230 (by decide) (fun hc => ?_) (fun hc => ?_)
      · have h := h.1 hc
        exact t_X12_looked_247 hC hk2 σ10 x1 x3 _ _ _ h hT (lv_sub hl [1, 2, 3] rfl)
      · have h := h.2 hc
        refine lv_aload_n hx hb dX12_looked_233 rfl (lv_at hl 1 rfl) ?_
        refine lv_iload_n hx hb dX12_looked_234 rfl (lv_at hl 3 rfl) ?_
        refine lv_iload_n hx hb dX12_looked_235 rfl (lv_at hl 2 rfl) ?_
        refine lv_aload_n hx hb dX12_looked_236 rfl (lv_at hl 1 rfl) ?_
        refine rf_get hx hb hK hT hown 8 (by decide) kfX12_170 (v := .ref (ad 8)) rfl dX12_looked_237 ?_
        refine lv_iload_n hx hb dX12_looked_240 rfl (lv_at hl 2 rfl) ?_
        obtain ⟨hi, h⟩ := h
        refine rf_iald hx hb hK hT 8 (by decide) rfl hi (v := σ10.2.2.1 8 x1.toNatClampNeg) rfl dX12_looked_241 ?_
        refine lv_iload hx hb dX12_looked_242 (lv_at hl 0 rfl) ?_
        refine rf_callv (rf_runV hx hb hml hown hK hT (c_X12_finds h) rfl rfl klX12_465 ki_X12_finds ks_X12_finds kn_X12 kc_X12_finds 4 ⟨rfl, by decide, by decide, by decide +kernel⟩ ⟨by decide, by decide⟩ rfl hl.1 rfl (Nat.le_of_ble_eq_true rfl) ⟨Nat.le_refl _, Nat.le_refl _⟩ dX12_looked_244) hT (fun σ11 H locs h hT => ?_)
        exact t_X12_looked_247 hC hk2 σ11 x1 x3 _ _ _ h hT (lv_sub hl [1, 2, 3] rfl)
  · have h := h.2 hc
    refine lv_aload_n hx hb dX12_looked_168 rfl (lv_at hl 0 rfl) ?_
    refine lv_iload_n hx hb dX12_looked_169 rfl (lv_at hl 2 rfl) ?_
    refine lv_iload_n hx hb dX12_looked_170 rfl (lv_at hl 1 rfl) ?_
    refine lv_iload hx hb dX12_looked_171 (lv_at hl 5 rfl) ?_
    refine lv_iconst (v := 2) hx hb dX12_looked_173 (by decide) ?_
    refine lv_iand hx hb dX12_looked_174 ?_
    refine lv_if_le (tgt := 182) hx hb dX12_looked_175 (by decide) (fun hc => ?_) (fun hc => ?_)
    · have h := h.1 hc
      refine lv_iconst (v := 0) hx hb dX12_looked_182 (by decide) ?_
      exact t_X12_looked_183 hC hk2 (rf_ua σ 64 x5.toNatClampNeg (vp_nar .byte x6.toInt8.toInt32)) x1 x3 x6 x3 x1 0 _ _ _ h hT (lv_sub hl [0, 1, 2, 5] rfl)
    · have h := h.2 hc
      refine lv_iconst (v := 1) hx hb dX12_looked_178 (by decide) ?_
      refine lv_goto (tgt := 183) hx hb dX12_looked_179 (by decide) ?_
      exact t_X12_looked_183 hC hk2 (rf_ua σ 64 x5.toNatClampNeg (vp_nar .byte x6.toInt8.toInt32)) x1 x3 x6 x3 x1 1 _ _ _ h hT (lv_sub hl [0, 1, 2, 5] rfl)
end
def w_X12_looked_106 (post : rf_S → Prop) (k2 : rf_S → Int32 → Int32 → Prop) (k63 : rf_S → Int32 → Int32 → Int32 → Int32 → Int32 → Int32 → Prop) (σ : rf_S) (x1 : Int32) (x3 : Int32) (x4 : Int32) (x5 : Int32) (x7 : Int32) (y0 : Int32) (y1 : Int32) : Prop := k63 σ x1 x3 x4 x5 (y0 ||| y1) (x7 + 1)
section
variable {p : Program} {l : Launch} {e : Env} {s : State} {m : MethodId} {args : Array Value} {below : List Frame} {meth : Method} {c : Code} {P : hw_G} {o : Nat} {ad : Nat → Nat}
set_option maxRecDepth 100000 in
set_option maxHeartbeats 4000000 in
theorem t_X12_looked_106 {post : rf_S → Prop} {k2 : rf_S → Int32 → Int32 → Prop} {k63 : rf_S → Int32 → Int32 → Int32 → Int32 → Int32 → Int32 → Prop} (hC : rf_C P RX12 p s m meth c cX12_looked 8 none) (hk2 : ∀ (σ : rf_S) (x1 : Int32) (x3 : Int32) (H : Heap) (locs : List Loc) (ls : Array Slot), k2 σ x1 x3 → rf_T P s (rf_A o ad) o ad σ H locs → lv_has ls 8 [(0, .ref o), (1, .int x1), (3, .int x3)] → W p l e rm_X12_looked s m args below meth c H locs 0 0 (MQ below (rf_Qv P o ad post) args s 0 0 (rf_A o ad)) (F0 m 2 ls [])) (hk63 : ∀ (σ : rf_S) (x1 : Int32) (x3 : Int32) (x4 : Int32) (x5 : Int32) (x6 : Int32) (x7 : Int32) (H : Heap) (locs : List Loc) (ls : Array Slot), k63 σ x1 x3 x4 x5 x6 x7 → rf_T P s (rf_A o ad) o ad σ H locs → lv_has ls 8 [(0, .ref o), (1, .int x1), (3, .int x3), (4, .int x4), (5, .int x5), (6, .int x6), (7, .int x7)] → W p l e rm_X12_looked s m args below meth c H locs 0 0 (MQ below (rf_Qv P o ad post) args s 0 0 (rf_A o ad)) (F0 m 63 ls [])) (σ : rf_S) (x1 : Int32) (x3 : Int32) (x4 : Int32) (x5 : Int32) (x7 : Int32) (y0 : Int32) (y1 : Int32) (H : Heap) (locs : List Loc) (ls : Array Slot) (h : w_X12_looked_106 post k2 k63 σ x1 x3 x4 x5 x7 y0 y1) (hT : rf_T P s (rf_A o ad) o ad σ H locs) (hl : lv_has ls 8 [(0, .ref o), (1, .int x1), (3, .int x3), (4, .int x4), (5, .int x5), (7, .int x7)]) : W p l e rm_X12_looked s m args below meth c H locs 0 0 (MQ below (rf_Qv P o ad post) args s 0 0 (rf_A o ad)) (F0 m 106 ls [.int y1, .int y0]) := by
  obtain ⟨hx, hb, hml, hown, hK, -, -⟩ := id hC
  refine lv_ior hx hb dX12_looked_106 ?_
  refine lv_istore (lv' := [(6, _), (0, _), (1, _), (3, _), (4, _), (5, _), (7, _)]) hx hb dX12_looked_107 hl (by decide) rfl (fun ls hl => ?_)
  refine lv_iinc (v := x7 + 1) (lv' := [(7, _), (6, _), (0, _), (1, _), (3, _), (4, _), (5, _)]) hx hb dX12_looked_109 hl (k := 6) rfl rfl (by decide) rfl (fun ls hl => ?_)
  refine lv_goto (tgt := 63) hx hb dX12_looked_112 (by decide) ?_
  exact hk63 σ x1 x3 x4 x5 (y0 ||| y1) (x7 + 1) _ _ _ h hT (lv_sub hl [2, 3, 4, 5, 6, 1, 0] rfl)
end
def w_X12_looked_63 (post : rf_S → Prop) (k2 : rf_S → Int32 → Int32 → Prop) : Nat → rf_S → Int32 → Int32 → Int32 → Int32 → Int32 → Int32 → Prop
  | 0, _, _, _, _, _, _, _ => False
  | n + 1, σ, x1, x3, x4, x5, x6, x7 => vp_in x4 (rf_n 40) ∧ ((σ.2.2.1 40 x4.toNatClampNeg) ≤ x7 → vp_in x4 (rf_n 42) ∧ ((σ.2.2.1 42 x4.toNatClampNeg) < 0 → w_X12_looked_147 post k2 σ x1 x3 x4 x5 x6) ∧ (¬ (σ.2.2.1 42 x4.toNatClampNeg) < 0 → vp_in x4 (rf_n 42) ∧ ∃ d9, d9 ≤ 60 ∧ wp_X12_holds d9 (fun r12 σ12 => (r12 = 0 → w_X12_looked_147 post k2 σ12 x1 x3 x4 x5 x6) ∧ (¬ r12 = 0 → w_X12_looked_147 post k2 σ12 x1 x3 x4 x5 (x6 ||| 32))) σ (σ.2.2.1 42 x4.toNatClampNeg) x1)) ∧ (¬ (σ.2.2.1 40 x4.toNatClampNeg) ≤ x7 → vp_in ((6 * x4) + x7) (rf_n 41) ∧ ∃ d9, d9 ≤ 60 ∧ wp_X12_holds d9 (fun r13 σ13 => (r13 = 0 → w_X12_looked_106 post k2 (w_X12_looked_63 post k2 n) σ13 x1 x3 x4 x5 x7 x6 0) ∧ (¬ r13 = 0 → w_X12_looked_106 post k2 (w_X12_looked_63 post k2 n) σ13 x1 x3 x4 x5 x7 x6 (1 <<< (x7 &&& 31)))) σ (σ.2.2.1 41 ((6 * x4) + x7).toNatClampNeg) x1)
section
variable {p : Program} {l : Launch} {e : Env} {s : State} {m : MethodId} {args : Array Value} {below : List Frame} {meth : Method} {c : Code} {P : hw_G} {o : Nat} {ad : Nat → Nat}
set_option maxRecDepth 100000 in
set_option maxHeartbeats 4000000 in
theorem t_X12_looked_63 {post : rf_S → Prop} {k2 : rf_S → Int32 → Int32 → Prop} (hC : rf_C P RX12 p s m meth c cX12_looked 8 none) (hk2 : ∀ (σ : rf_S) (x1 : Int32) (x3 : Int32) (H : Heap) (locs : List Loc) (ls : Array Slot), k2 σ x1 x3 → rf_T P s (rf_A o ad) o ad σ H locs → lv_has ls 8 [(0, .ref o), (1, .int x1), (3, .int x3)] → W p l e rm_X12_looked s m args below meth c H locs 0 0 (MQ below (rf_Qv P o ad post) args s 0 0 (rf_A o ad)) (F0 m 2 ls [])) : ∀ (n : Nat) (σ : rf_S) (x1 : Int32) (x3 : Int32) (x4 : Int32) (x5 : Int32) (x6 : Int32) (x7 : Int32) (H : Heap) (locs : List Loc) (ls : Array Slot), w_X12_looked_63 post k2 n σ x1 x3 x4 x5 x6 x7 → rf_T P s (rf_A o ad) o ad σ H locs → lv_has ls 8 [(0, .ref o), (1, .int x1), (3, .int x3), (4, .int x4), (5, .int x5), (6, .int x6), (7, .int x7)] → W p l e rm_X12_looked s m args below meth c H locs 0 0 (MQ below (rf_Qv P o ad post) args s 0 0 (rf_A o ad)) (F0 m 63 ls []) := by
  obtain ⟨hx, hb, hml, hown, hK, -, -⟩ := id hC
  intro n
  induction n with
  | zero => intro σ x1 x3 x4 x5 x6 x7 H locs ls h; exact False.elim h
  | succ n ih =>
    intro σ x1 x3 x4 x5 x6 x7 H locs ls h hT hl
    refine lv_iload hx hb dX12_looked_63 (lv_at hl 6 rfl) ?_
    refine lv_aload_n hx hb dX12_looked_65 rfl (lv_at hl 0 rfl) ?_
    refine rf_get hx hb hK hT hown 40 (by decide) kfX12_214 (v := .ref (ad 40)) rfl dX12_looked_66 ?_
    refine lv_iload hx hb dX12_looked_69 (lv_at hl 3 rfl) ?_
    obtain ⟨hi, h⟩ := h
    refine rf_iald hx hb hK hT 40 (by decide) rfl hi (v := σ.2.2.1 40 x4.toNatClampNeg) rfl dX12_looked_71 ?_
    refine lv_icmp_ge (tgt := 115) hx hb dX12_looked_72 (by decide) (fun hc => ?_) (fun hc => ?_)
    · have h := h.1 hc
      refine lv_aload_n hx hb dX12_looked_115 rfl (lv_at hl 0 rfl) ?_
      refine rf_get hx hb hK hT hown 42 (by decide) kfX12_220 (v := .ref (ad 42)) rfl dX12_looked_116 ?_
      refine lv_iload hx hb dX12_looked_119 (lv_at hl 3 rfl) ?_
      obtain ⟨hi, h⟩ := h
      refine rf_iald hx hb hK hT 42 (by decide) rfl hi (v := σ.2.2.1 42 x4.toNatClampNeg) rfl dX12_looked_121 ?_
      refine lv_if_lt (tgt := 147) hx hb dX12_looked_122 (by decide) (fun hc => ?_) (fun hc => ?_)
      · have h := h.1 hc
        exact t_X12_looked_147 hC hk2 σ x1 x3 x4 x5 x6 _ _ _ h hT (lv_sub hl [0, 1, 2, 3, 4, 5] rfl)
      · have h := h.2 hc
        refine lv_aload_n hx hb dX12_looked_125 rfl (lv_at hl 0 rfl) ?_
        refine lv_aload_n hx hb dX12_looked_126 rfl (lv_at hl 0 rfl) ?_
        refine rf_get hx hb hK hT hown 42 (by decide) kfX12_220 (v := .ref (ad 42)) rfl dX12_looked_127 ?_
        refine lv_iload hx hb dX12_looked_130 (lv_at hl 3 rfl) ?_
        obtain ⟨hi, h⟩ := h
        refine rf_iald hx hb hK hT 42 (by decide) rfl hi (v := σ.2.2.1 42 x4.toNatClampNeg) rfl dX12_looked_132 ?_
        refine lv_iload_n hx hb dX12_looked_133 rfl (lv_at hl 1 rfl) ?_
        obtain ⟨d9, hd9, h⟩ := h
        refine rf_calli (rf_runV hx hb hml hown hK hT (c_X12_holds d9 h) rfl rfl klX12_435 ki_X12_holds ks_X12_holds kn_X12 kc_X12_holds 2 ⟨rfl, by decide, by decide, by decide +kernel⟩ ⟨by show _ + d9 + 1 ≤ _; exact Nat.le_trans (Nat.add_le_add_right (Nat.add_le_add_left hd9 _) 1) (by decide), by show _ + (_ + 40 * d9) ≤ _; exact Nat.le_trans (Nat.add_le_add_left (Nat.add_le_add_left (Nat.mul_le_mul_left 40 hd9) _) _) (by decide)⟩ rfl hl.1 rfl (Nat.le_of_ble_eq_true rfl) ⟨Nat.le_refl _, Nat.le_refl _⟩ dX12_looked_134) hT (fun r12 σ12 H locs h hT => ?_)
        refine lv_if_eq (tgt := 147) hx hb dX12_looked_137 (by decide) (fun hc => ?_) (fun hc => ?_)
        · have h := h.1 hc
          exact t_X12_looked_147 hC hk2 σ12 x1 x3 x4 x5 x6 _ _ _ h hT (lv_sub hl [0, 1, 2, 3, 4, 5] rfl)
        · have h := h.2 hc
          refine lv_iload hx hb dX12_looked_140 (lv_at hl 5 rfl) ?_
          refine lv_bipush (v := 32) hx hb dX12_looked_142 (by decide) ?_
          refine lv_ior hx hb dX12_looked_144 ?_
          refine lv_istore (lv' := [(6, _), (0, _), (1, _), (3, _), (4, _), (5, _), (7, _)]) hx hb dX12_looked_145 hl (by decide) rfl (fun ls hl => ?_)
          exact t_X12_looked_147 hC hk2 σ12 x1 x3 x4 x5 (x6 ||| 32) _ _ _ h hT (lv_sub hl [1, 2, 3, 4, 5, 0] rfl)
    · have h := h.2 hc
      refine lv_iload hx hb dX12_looked_75 (lv_at hl 5 rfl) ?_
      refine lv_aload_n hx hb dX12_looked_77 rfl (lv_at hl 0 rfl) ?_
      refine lv_aload_n hx hb dX12_looked_78 rfl (lv_at hl 0 rfl) ?_
      refine rf_get hx hb hK hT hown 41 (by decide) kfX12_217 (v := .ref (ad 41)) rfl dX12_looked_79 ?_
      refine lv_bipush (v := 6) hx hb dX12_looked_82 (by decide) ?_
      refine lv_iload hx hb dX12_looked_84 (lv_at hl 3 rfl) ?_
      refine lv_imul hx hb dX12_looked_86 ?_
      refine lv_iload hx hb dX12_looked_87 (lv_at hl 6 rfl) ?_
      refine lv_iadd hx hb dX12_looked_89 ?_
      obtain ⟨hi, h⟩ := h
      refine rf_iald hx hb hK hT 41 (by decide) rfl hi (v := σ.2.2.1 41 ((6 * x4) + x7).toNatClampNeg) rfl dX12_looked_90 ?_
      refine lv_iload_n hx hb dX12_looked_91 rfl (lv_at hl 1 rfl) ?_
      obtain ⟨d9, hd9, h⟩ := h
      refine rf_calli (rf_runV hx hb hml hown hK hT (c_X12_holds d9 h) rfl rfl klX12_435 ki_X12_holds ks_X12_holds kn_X12 kc_X12_holds 2 ⟨rfl, by decide, by decide, by decide +kernel⟩ ⟨by show _ + d9 + 1 ≤ _; exact Nat.le_trans (Nat.add_le_add_right (Nat.add_le_add_left hd9 _) 1) (by decide), by show _ + (_ + 40 * d9) ≤ _; exact Nat.le_trans (Nat.add_le_add_left (Nat.add_le_add_left (Nat.mul_le_mul_left 40 hd9) _) _) (by decide)⟩ rfl hl.1 rfl (Nat.le_of_ble_eq_true rfl) ⟨Nat.le_refl _, Nat.le_refl _⟩ dX12_looked_92) hT (fun r13 σ13 H locs h hT => ?_)
      refine lv_if_eq (tgt := 105) hx hb dX12_looked_95 (by decide) (fun hc => ?_) (fun hc => ?_)
      · have h := h.1 hc
        refine lv_iconst (v := 0) hx hb dX12_looked_105 (by decide) ?_
        exact t_X12_looked_106 hC hk2 ih σ13 x1 x3 x4 x5 x7 x6 0 _ _ _ h hT (lv_sub hl [0, 1, 2, 3, 4, 6] rfl)
      · have h := h.2 hc
        refine lv_iconst (v := 1) hx hb dX12_looked_98 (by decide) ?_
        refine lv_iload hx hb dX12_looked_99 (lv_at hl 6 rfl) ?_
        refine lv_ishl hx hb dX12_looked_101 ?_
        refine lv_goto (tgt := 106) hx hb dX12_looked_102 (by decide) ?_
        exact t_X12_looked_106 hC hk2 ih σ13 x1 x3 x4 x5 x7 x6 (1 <<< (x7 &&& 31)) _ _ _ h hT (lv_sub hl [0, 1, 2, 3, 4, 6] rfl)
end
def w_X12_looked_2 (post : rf_S → Prop) : Nat → rf_S → Int32 → Int32 → Prop
  | 0, _, _, _ => False
  | n + 1, σ, x1, x3 => ((σ.1 33) ≤ x3 → post σ) ∧ (¬ (σ.1 33) ≤ x3 → wp_X12_keyOf (fun r14 σ14 => vp_in ((4000 * x3) + x1) (rf_n 63) ∧ vp_in ((4000 * x3) + x1) (rf_n 63) ∧ (0 ≤ ((rf_ua σ14 63 ((4000 * x3) + x1).toNatClampNeg (vp_nar .short r14.toInt16.toInt32)).2.2.1 63 ((4000 * x3) + x1).toNatClampNeg) → ∃ n9, w_X12_looked_63 post (w_X12_looked_2 post n) n9 (rf_ua σ14 63 ((4000 * x3) + x1).toNatClampNeg (vp_nar .short r14.toInt16.toInt32)) x1 x3 ((12 * (σ.1 32)) + x3) ((4000 * x3) + x1) 0 0) ∧ (¬ 0 ≤ ((rf_ua σ14 63 ((4000 * x3) + x1).toNatClampNeg (vp_nar .short r14.toInt16.toInt32)).2.2.1 63 ((4000 * x3) + x1).toNatClampNeg) → w_X12_looked_247 post (w_X12_looked_2 post n) (rf_ua σ14 63 ((4000 * x3) + x1).toNatClampNeg (vp_nar .short r14.toInt16.toInt32)) x1 x3)) σ x3 x1)
section
variable {p : Program} {l : Launch} {e : Env} {s : State} {m : MethodId} {args : Array Value} {below : List Frame} {meth : Method} {c : Code} {P : hw_G} {o : Nat} {ad : Nat → Nat}
set_option maxRecDepth 100000 in
set_option maxHeartbeats 4000000 in
theorem t_X12_looked_2 {post : rf_S → Prop} (hC : rf_C P RX12 p s m meth c cX12_looked 8 none) : ∀ (n : Nat) (σ : rf_S) (x1 : Int32) (x3 : Int32) (H : Heap) (locs : List Loc) (ls : Array Slot), w_X12_looked_2 post n σ x1 x3 → rf_T P s (rf_A o ad) o ad σ H locs → lv_has ls 8 [(0, .ref o), (1, .int x1), (3, .int x3)] → W p l e rm_X12_looked s m args below meth c H locs 0 0 (MQ below (rf_Qv P o ad post) args s 0 0 (rf_A o ad)) (F0 m 2 ls []) := by
  obtain ⟨hx, hb, hml, hown, hK, -, -⟩ := id hC
  intro n
  induction n with
  | zero => intro σ x1 x3 H locs ls h; exact False.elim h
  | succ n ih =>
    intro σ x1 x3 H locs ls h hT hl
    refine lv_iload_n hx hb dX12_looked_2 rfl (lv_at hl 2 rfl) ?_
    refine lv_aload_n hx hb dX12_looked_3 rfl (lv_at hl 0 rfl) ?_
    refine rf_get hx hb hK hT hown 33 (by decide) kfX12_380 (v := .int (σ.1 33)) rfl dX12_looked_4 ?_
    refine lv_icmp_ge (tgt := 253) hx hb dX12_looked_7 (by decide) (fun hc => ?_) (fun hc => ?_)
    · have h := h.1 hc
      exact rf_vret hC hT h dX12_looked_253
    · have h := h.2 hc
      refine lv_bipush (v := 12) hx hb dX12_looked_10 (by decide) ?_
      refine lv_aload_n hx hb dX12_looked_12 rfl (lv_at hl 0 rfl) ?_
      refine rf_get hx hb hK hT hown 32 (by decide) kfX12_368 (v := .int (σ.1 32)) rfl dX12_looked_13 ?_
      refine lv_imul hx hb dX12_looked_16 ?_
      refine lv_iload_n hx hb dX12_looked_17 rfl (lv_at hl 2 rfl) ?_
      refine lv_iadd hx hb dX12_looked_18 ?_
      refine lv_istore (lv' := [(4, _), (0, _), (1, _), (3, _)]) hx hb dX12_looked_19 hl (by decide) rfl (fun ls hl => ?_)
      refine lv_sipush (v := 4000) hx hb dX12_looked_21 (by decide) ?_
      refine lv_iload_n hx hb dX12_looked_24 rfl (lv_at hl 3 rfl) ?_
      refine lv_imul hx hb dX12_looked_25 ?_
      refine lv_iload_n hx hb dX12_looked_26 rfl (lv_at hl 2 rfl) ?_
      refine lv_iadd hx hb dX12_looked_27 ?_
      refine lv_istore (lv' := [(5, _), (4, _), (0, _), (1, _), (3, _)]) hx hb dX12_looked_28 hl (by decide) rfl (fun ls hl => ?_)
      refine lv_aload_n hx hb dX12_looked_30 rfl (lv_at hl 2 rfl) ?_
      refine rf_get hx hb hK hT hown 63 (by decide) kfX12_87 (v := .ref (ad 63)) rfl dX12_looked_31 ?_
      refine lv_iload hx hb dX12_looked_34 (lv_at hl 0 rfl) ?_
      refine lv_aload_n hx hb dX12_looked_36 rfl (lv_at hl 2 rfl) ?_
      refine lv_iload_n hx hb dX12_looked_37 rfl (lv_at hl 4 rfl) ?_
      refine lv_iload_n hx hb dX12_looked_38 rfl (lv_at hl 3 rfl) ?_
      refine rf_calli (rf_runV hx hb hml hown hK hT (c_X12_keyOf h) rfl rfl klX12_452 ki_X12_keyOf ks_X12_keyOf kn_X12 kc_X12_keyOf 2 ⟨rfl, by decide, by decide, by decide +kernel⟩ ⟨by decide, by decide⟩ rfl hl.1 rfl (Nat.le_of_ble_eq_true rfl) ⟨Nat.le_refl _, Nat.le_refl _⟩ dX12_looked_39) hT (fun r14 σ14 H locs h hT => ?_)
      refine lv_i2s (v := r14.toInt16.toInt32) hx hb dX12_looked_42 rfl ?_
      obtain ⟨hi, h⟩ := h
      refine rf_sast hx hb hK hT 63 (by decide) rfl hi dX12_looked_43 (fun H locs hT => ?_)
      refine lv_aload_n hx hb dX12_looked_44 rfl (lv_at hl 2 rfl) ?_
      refine rf_get hx hb hK hT hown 63 (by decide) kfX12_87 (v := .ref (ad 63)) rfl dX12_looked_45 ?_
      refine lv_iload hx hb dX12_looked_48 (lv_at hl 0 rfl) ?_
      obtain ⟨hi, h⟩ := h
      refine rf_sald hx hb hK hT 63 (by decide) rfl hi (v := (rf_ua σ14 63 ((4000 * x3) + x1).toNatClampNeg (vp_nar .short r14.toInt16.toInt32)).2.2.1 63 ((4000 * x3) + x1).toNatClampNeg) rfl dX12_looked_50 ?_
      refine lv_if_ge (tgt := 57) hx hb dX12_looked_51 (by decide) (fun hc => ?_) (fun hc => ?_)
      · have h := h.1 hc
        refine lv_iconst (v := 0) hx hb dX12_looked_57 (by decide) ?_
        refine lv_istore (lv' := [(6, _), (5, _), (4, _), (0, _), (1, _), (3, _)]) hx hb dX12_looked_58 hl (by decide) rfl (fun ls hl => ?_)
        refine lv_iconst (v := 0) hx hb dX12_looked_60 (by decide) ?_
        refine lv_istore (lv' := [(7, _), (6, _), (5, _), (4, _), (0, _), (1, _), (3, _)]) hx hb dX12_looked_61 hl (by decide) rfl (fun ls hl => ?_)
        obtain ⟨n9, h⟩ := h
        exact t_X12_looked_63 hC ih n9 (rf_ua σ14 63 ((4000 * x3) + x1).toNatClampNeg (vp_nar .short r14.toInt16.toInt32)) x1 x3 ((12 * (σ.1 32)) + x3) ((4000 * x3) + x1) 0 0 _ _ _ h hT (lv_sub hl [4, 5, 6, 3, 2, 1, 0] rfl)
      · have h := h.2 hc
        refine lv_goto (tgt := 247) hx hb dX12_looked_54 (by decide) ?_
        exact t_X12_looked_247 hC ih (rf_ua σ14 63 ((4000 * x3) + x1).toNatClampNeg (vp_nar .short r14.toInt16.toInt32)) x1 x3 _ _ _ h hT (lv_sub hl [2, 3, 4] rfl)
end
def wp_X12_looked (post : rf_S → Prop) (σ : rf_S) (p1 : Int32) (p2 : Int32) : Prop := ∃ n9, w_X12_looked_2 post n9 σ p1 p2
set_option maxRecDepth 100000 in
set_option maxHeartbeats 4000000 in
theorem c_X12_looked {l : Launch} {P : hw_G} {o : Nat} {ad : Nat → Nat} {σ : rf_S} {p1 : Int32} {p2 : Int32} {post : rf_S → Prop} (h : wp_X12_looked post σ p1 p2) : Met l yX12_looked [Cond.code yX12_looked cX12_looked 8 none] rm_X12_looked (rf_Pc P o ad σ [.ref o, .int p1, .int p2]) (rf_Qv P o ad post) 0 0 (rf_A o ad) := by
  refine rf_met (by decide) rfl (Nat.le_of_ble_eq_true rfl) ?_
  intro p e s m below meth c ls hC hT hl
  obtain ⟨hx, hb, hml, hown, hK, -, -⟩ := id hC
  have hl : lv_has ls 8 [(0, .ref o), (1, .int p1), (2, .int p2)] := hl
  refine lv_iload_n hx hb dX12_looked_0 rfl (lv_at hl 2 rfl) ?_
  refine lv_istore_n (lv' := [(3, _), (0, _), (1, _), (2, _)]) hx hb dX12_looked_1 rfl hl (by decide) rfl (fun ls hl => ?_)
  obtain ⟨n9, h⟩ := h
  exact t_X12_looked_2 hC n9 σ p1 p2 _ _ _ h hT (lv_sub hl [1, 2, 0] rfl)
