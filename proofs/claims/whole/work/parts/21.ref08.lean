/-! X12_heldOf -/
abbrev rm_X12_heldOf : Room := { frames := 2, cells := 0, slots := 0, locals := 52 }
def w_X12_heldOf_205 (post : Int32 → rf_S → Prop) (k74 : rf_S → Int32 → Int32 → Int32 → Int32 → Prop) (σ : rf_S) (x1 : Int32) (x2 : Int32) (x3 : Int32) (x4 : Int32) : Prop := k74 σ x1 x2 x3 (x4 + 1)
section
variable {p : Program} {l : Launch} {e : Env} {s : State} {m : MethodId} {args : Array Value} {below : List Frame} {meth : Method} {c : Code} {P : hw_G} {o : Nat} {ad : Nat → Nat}
set_option maxRecDepth 100000 in
set_option maxHeartbeats 4000000 in
theorem t_X12_heldOf_205 {post : Int32 → rf_S → Prop} {k74 : rf_S → Int32 → Int32 → Int32 → Int32 → Prop} (hC : rf_C P RX12 p s m meth c cX12_heldOf 5 (some .int)) (hk74 : ∀ (σ : rf_S) (x1 : Int32) (x2 : Int32) (x3 : Int32) (x4 : Int32) (H : Heap) (locs : List Loc) (ls : Array Slot), k74 σ x1 x2 x3 x4 → rf_T P s (rf_A o ad) o ad σ H locs → lv_has ls 5 [(0, .ref o), (1, .int x1), (2, .int x2), (3, .int x3), (4, .int x4)] → W p l e rm_X12_heldOf s m args below meth c H locs 0 0 (MQ below (rf_Qi P o ad post) args s 0 0 (rf_A o ad)) (F0 m 74 ls [])) (σ : rf_S) (x1 : Int32) (x2 : Int32) (x3 : Int32) (x4 : Int32) (H : Heap) (locs : List Loc) (ls : Array Slot) (h : w_X12_heldOf_205 post k74 σ x1 x2 x3 x4) (hT : rf_T P s (rf_A o ad) o ad σ H locs) (hl : lv_has ls 5 [(0, .ref o), (1, .int x1), (2, .int x2), (3, .int x3), (4, .int x4)]) : W p l e rm_X12_heldOf s m args below meth c H locs 0 0 (MQ below (rf_Qi P o ad post) args s 0 0 (rf_A o ad)) (F0 m 205 ls []) := by
  obtain ⟨hx, hb, hml, hown, hK, -, -⟩ := id hC
  refine lv_iinc (v := x4 + 1) (lv' := [(4, _), (0, _), (1, _), (2, _), (3, _)]) hx hb dX12_heldOf_205 hl (k := 4) rfl rfl (by decide) rfl (fun ls hl => ?_)
  refine lv_goto (tgt := 74) hx hb dX12_heldOf_208 (by decide) ?_
  exact hk74 σ x1 x2 x3 (x4 + 1) _ _ _ h hT (lv_sub hl [1, 2, 3, 4, 0] rfl)
end
def w_X12_heldOf_172 (post : Int32 → rf_S → Prop) (k74 : rf_S → Int32 → Int32 → Int32 → Int32 → Prop) (σ : rf_S) (x1 : Int32) (x2 : Int32) (x4 : Int32) (y0 : Int32) (y1 : Int32) : Prop := w_X12_heldOf_205 post k74 σ x1 x2 (y0 + y1) x4
section
variable {p : Program} {l : Launch} {e : Env} {s : State} {m : MethodId} {args : Array Value} {below : List Frame} {meth : Method} {c : Code} {P : hw_G} {o : Nat} {ad : Nat → Nat}
set_option maxRecDepth 100000 in
set_option maxHeartbeats 4000000 in
theorem t_X12_heldOf_172 {post : Int32 → rf_S → Prop} {k74 : rf_S → Int32 → Int32 → Int32 → Int32 → Prop} (hC : rf_C P RX12 p s m meth c cX12_heldOf 5 (some .int)) (hk74 : ∀ (σ : rf_S) (x1 : Int32) (x2 : Int32) (x3 : Int32) (x4 : Int32) (H : Heap) (locs : List Loc) (ls : Array Slot), k74 σ x1 x2 x3 x4 → rf_T P s (rf_A o ad) o ad σ H locs → lv_has ls 5 [(0, .ref o), (1, .int x1), (2, .int x2), (3, .int x3), (4, .int x4)] → W p l e rm_X12_heldOf s m args below meth c H locs 0 0 (MQ below (rf_Qi P o ad post) args s 0 0 (rf_A o ad)) (F0 m 74 ls [])) (σ : rf_S) (x1 : Int32) (x2 : Int32) (x4 : Int32) (y0 : Int32) (y1 : Int32) (H : Heap) (locs : List Loc) (ls : Array Slot) (h : w_X12_heldOf_172 post k74 σ x1 x2 x4 y0 y1) (hT : rf_T P s (rf_A o ad) o ad σ H locs) (hl : lv_has ls 5 [(0, .ref o), (1, .int x1), (2, .int x2), (4, .int x4)]) : W p l e rm_X12_heldOf s m args below meth c H locs 0 0 (MQ below (rf_Qi P o ad post) args s 0 0 (rf_A o ad)) (F0 m 172 ls [.int y1, .int y0]) := by
  obtain ⟨hx, hb, hml, hown, hK, -, -⟩ := id hC
  refine lv_iadd hx hb dX12_heldOf_172 ?_
  refine lv_istore_n (lv' := [(3, _), (0, _), (1, _), (2, _), (4, _)]) hx hb dX12_heldOf_173 rfl hl (by decide) rfl (fun ls hl => ?_)
  refine lv_goto (tgt := 205) hx hb dX12_heldOf_174 (by decide) ?_
  exact t_X12_heldOf_205 hC hk74 σ x1 x2 (y0 + y1) x4 _ _ _ h hT (lv_sub hl [1, 2, 3, 0, 4] rfl)
end
def w_X12_heldOf_171 (post : Int32 → rf_S → Prop) (k74 : rf_S → Int32 → Int32 → Int32 → Int32 → Prop) (σ : rf_S) (x1 : Int32) (x2 : Int32) (x4 : Int32) (y0 : Int32) : Prop := w_X12_heldOf_172 post k74 σ x1 x2 x4 y0 0
section
variable {p : Program} {l : Launch} {e : Env} {s : State} {m : MethodId} {args : Array Value} {below : List Frame} {meth : Method} {c : Code} {P : hw_G} {o : Nat} {ad : Nat → Nat}
set_option maxRecDepth 100000 in
set_option maxHeartbeats 4000000 in
theorem t_X12_heldOf_171 {post : Int32 → rf_S → Prop} {k74 : rf_S → Int32 → Int32 → Int32 → Int32 → Prop} (hC : rf_C P RX12 p s m meth c cX12_heldOf 5 (some .int)) (hk74 : ∀ (σ : rf_S) (x1 : Int32) (x2 : Int32) (x3 : Int32) (x4 : Int32) (H : Heap) (locs : List Loc) (ls : Array Slot), k74 σ x1 x2 x3 x4 → rf_T P s (rf_A o ad) o ad σ H locs → lv_has ls 5 [(0, .ref o), (1, .int x1), (2, .int x2), (3, .int x3), (4, .int x4)] → W p l e rm_X12_heldOf s m args below meth c H locs 0 0 (MQ below (rf_Qi P o ad post) args s 0 0 (rf_A o ad)) (F0 m 74 ls [])) (σ : rf_S) (x1 : Int32) (x2 : Int32) (x4 : Int32) (y0 : Int32) (H : Heap) (locs : List Loc) (ls : Array Slot) (h : w_X12_heldOf_171 post k74 σ x1 x2 x4 y0) (hT : rf_T P s (rf_A o ad) o ad σ H locs) (hl : lv_has ls 5 [(0, .ref o), (1, .int x1), (2, .int x2), (4, .int x4)]) : W p l e rm_X12_heldOf s m args below meth c H locs 0 0 (MQ below (rf_Qi P o ad post) args s 0 0 (rf_A o ad)) (F0 m 171 ls [.int y0]) := by
  obtain ⟨hx, hb, hml, hown, hK, -, -⟩ := id hC
  refine lv_iconst (v := 0) hx hb dX12_heldOf_171 (by decide) ?_
  exact t_X12_heldOf_172 hC hk74 σ x1 x2 x4 y0 0 _ _ _ h hT (lv_sub hl [0, 1, 2, 3] rfl)
end
def w_X12_heldOf_74 (post : Int32 → rf_S → Prop) : Nat → rf_S → Int32 → Int32 → Int32 → Int32 → Prop
  | 0, _, _, _, _, _ => False
  | n + 1, σ, x1, x2, x3, x4 => ((σ.1 19) ≤ x4 → post x3 σ) ∧ (¬ (σ.1 19) ≤ x4 → vp_in ((4000 * x1) + x4) (rf_n 63) ∧ (0 ≤ (σ.2.2.1 63 ((4000 * x1) + x4).toNatClampNeg) → vp_in x2 (rf_n 38) ∧ ((σ.2.2.1 38 x2.toNatClampNeg) = 3 → vp_in ((4000 * x1) + x4) (rf_n 63) ∧ (¬ (σ.2.2.1 63 ((4000 * x1) + x4).toNatClampNeg) = x4 → w_X12_heldOf_205 post (w_X12_heldOf_74 post n) σ x1 x2 x3 x4) ∧ ((σ.2.2.1 63 ((4000 * x1) + x4).toNatClampNeg) = x4 → wp_X12_begun (fun r3 σ3 => w_X12_heldOf_205 post (w_X12_heldOf_74 post n) σ3 x1 x2 (x3 + r3) x4) σ x1 x4)) ∧ (¬ (σ.2.2.1 38 x2.toNatClampNeg) = 3 → vp_in ((4000 * x1) + x4) (rf_n 64) ∧ (¬ ((σ.2.2.1 64 ((4000 * x1) + x4).toNatClampNeg) &&& 1) = 1 → w_X12_heldOf_171 post (w_X12_heldOf_74 post n) σ x1 x2 x4 x3) ∧ (((σ.2.2.1 64 ((4000 * x1) + x4).toNatClampNeg) &&& 1) = 1 → wp_X12_hasIt (fun r4 σ4 => (r4 = 0 → w_X12_heldOf_171 post (w_X12_heldOf_74 post n) σ4 x1 x2 x4 x3) ∧ (¬ r4 = 0 → vp_in x4 (rf_n 8) ∧ vp_in x2 (rf_n 44) ∧ ((lg_cmp ((σ4.2.2.1 8 x4.toNatClampNeg).toInt64) (((σ4.1 21).toInt64) - ((σ4.2.2.1 44 x2.toNatClampNeg).toInt64))) ≤ 0 → w_X12_heldOf_171 post (w_X12_heldOf_74 post n) σ4 x1 x2 x4 x3) ∧ (¬ (lg_cmp ((σ4.2.2.1 8 x4.toNatClampNeg).toInt64) (((σ4.1 21).toInt64) - ((σ4.2.2.1 44 x2.toNatClampNeg).toInt64))) ≤ 0 → w_X12_heldOf_172 post (w_X12_heldOf_74 post n) σ4 x1 x2 x4 x3 1))) σ x1 x4))) ∧ (¬ 0 ≤ (σ.2.2.1 63 ((4000 * x1) + x4).toNatClampNeg) → w_X12_heldOf_205 post (w_X12_heldOf_74 post n) σ x1 x2 x3 x4))
section
variable {p : Program} {l : Launch} {e : Env} {s : State} {m : MethodId} {args : Array Value} {below : List Frame} {meth : Method} {c : Code} {P : hw_G} {o : Nat} {ad : Nat → Nat}
set_option maxRecDepth 100000 in
set_option maxHeartbeats 4000000 in
theorem t_X12_heldOf_74 {post : Int32 → rf_S → Prop} (hC : rf_C P RX12 p s m meth c cX12_heldOf 5 (some .int)) : ∀ (n : Nat) (σ : rf_S) (x1 : Int32) (x2 : Int32) (x3 : Int32) (x4 : Int32) (H : Heap) (locs : List Loc) (ls : Array Slot), w_X12_heldOf_74 post n σ x1 x2 x3 x4 → rf_T P s (rf_A o ad) o ad σ H locs → lv_has ls 5 [(0, .ref o), (1, .int x1), (2, .int x2), (3, .int x3), (4, .int x4)] → W p l e rm_X12_heldOf s m args below meth c H locs 0 0 (MQ below (rf_Qi P o ad post) args s 0 0 (rf_A o ad)) (F0 m 74 ls []) := by
  obtain ⟨hx, hb, hml, hown, hK, -, -⟩ := id hC
  intro n
  induction n with
  | zero => intro σ x1 x2 x3 x4 H locs ls h; exact False.elim h
  | succ n ih =>
    intro σ x1 x2 x3 x4 H locs ls h hT hl
    refine lv_iload hx hb dX12_heldOf_74 (lv_at hl 4 rfl) ?_
    refine lv_aload_n hx hb dX12_heldOf_76 rfl (lv_at hl 0 rfl) ?_
    refine rf_get hx hb hK hT hown 19 (by decide) kfX12_58 (v := .int (σ.1 19)) rfl dX12_heldOf_77 ?_
    refine lv_icmp_ge (tgt := 211) hx hb dX12_heldOf_80 (by decide) (fun hc => ?_) (fun hc => ?_)
    · have h := h.1 hc
      refine lv_iload_n hx hb dX12_heldOf_211 rfl (lv_at hl 3 rfl) ?_
      exact rf_iret hC hT h dX12_heldOf_212
    · have h := h.2 hc
      refine lv_aload_n hx hb dX12_heldOf_83 rfl (lv_at hl 0 rfl) ?_
      refine rf_get hx hb hK hT hown 63 (by decide) kfX12_87 (v := .ref (ad 63)) rfl dX12_heldOf_84 ?_
      refine lv_sipush (v := 4000) hx hb dX12_heldOf_87 (by decide) ?_
      refine lv_iload_n hx hb dX12_heldOf_90 rfl (lv_at hl 1 rfl) ?_
      refine lv_imul hx hb dX12_heldOf_91 ?_
      refine lv_iload hx hb dX12_heldOf_92 (lv_at hl 4 rfl) ?_
      refine lv_iadd hx hb dX12_heldOf_94 ?_
      obtain ⟨hi, h⟩ := h
      refine rf_sald hx hb hK hT 63 (by decide) rfl hi (v := σ.2.2.1 63 ((4000 * x1) + x4).toNatClampNeg) rfl dX12_heldOf_95 ?_
      refine lv_if_ge (tgt := 102) hx hb dX12_heldOf_96 (by decide) (fun hc => ?_) (fun hc => ?_)
      · have h := h.1 hc
        refine lv_aload_n hx hb dX12_heldOf_102 rfl (lv_at hl 0 rfl) ?_
        refine rf_get hx hb hK hT hown 38 (by decide) kfX12_208 (v := .ref (ad 38)) rfl dX12_heldOf_103 ?_
        refine lv_iload_n hx hb dX12_heldOf_106 rfl (lv_at hl 2 rfl) ?_
        obtain ⟨hi, h⟩ := h
        refine rf_iald hx hb hK hT 38 (by decide) rfl hi (v := σ.2.2.1 38 x2.toNatClampNeg) rfl dX12_heldOf_107 ?_
        refine lv_iconst (v := 3) hx hb dX12_heldOf_108 (by decide) ?_
        refine lv_icmp_eq (tgt := 177) hx hb dX12_heldOf_109 (by decide) (fun hc => ?_) (fun hc => ?_)
        · have h := h.1 hc
          refine lv_aload_n hx hb dX12_heldOf_177 rfl (lv_at hl 0 rfl) ?_
          refine rf_get hx hb hK hT hown 63 (by decide) kfX12_87 (v := .ref (ad 63)) rfl dX12_heldOf_178 ?_
          refine lv_sipush (v := 4000) hx hb dX12_heldOf_181 (by decide) ?_
          refine lv_iload_n hx hb dX12_heldOf_184 rfl (lv_at hl 1 rfl) ?_
          refine lv_imul hx hb dX12_heldOf_185 ?_
          refine lv_iload hx hb dX12_heldOf_186 (lv_at hl 4 rfl) ?_
          refine lv_iadd hx hb dX12_heldOf_188 ?_
          obtain ⟨hi, h⟩ := h
          refine rf_sald hx hb hK hT 63 (by decide) rfl hi (v := σ.2.2.1 63 ((4000 * x1) + x4).toNatClampNeg) rfl dX12_heldOf_189 ?_
          refine lv_iload hx hb dX12_heldOf_190 (lv_at hl 4 rfl) ?_
          refine lv_icmp_ne (tgt := 205) hx hb dX12_heldOf_192 (by decide) (fun hc => ?_) (fun hc => ?_)
          · have h := h.1 hc
            exact t_X12_heldOf_205 hC ih σ x1 x2 x3 x4 _ _ _ h hT (lv_sub hl [0, 1, 2, 3, 4] rfl)
          · have h := h.2 hc
            refine lv_iload_n hx hb dX12_heldOf_195 rfl (lv_at hl 3 rfl) ?_
            refine lv_aload_n hx hb dX12_heldOf_196 rfl (lv_at hl 0 rfl) ?_
            refine lv_iload_n hx hb dX12_heldOf_197 rfl (lv_at hl 1 rfl) ?_
            refine lv_iload hx hb dX12_heldOf_198 (lv_at hl 4 rfl) ?_
            refine rf_calli (rf_runV hx hb hml hown hK hT (c_X12_begun h) rfl rfl klX12_511 ki_X12_begun ks_X12_begun kn_X12 kc_X12_begun 2 ⟨rfl, by decide, by decide, by decide +kernel⟩ ⟨by decide, by decide⟩ rfl hl.1 rfl (Nat.le_of_ble_eq_true rfl) ⟨Nat.le_refl _, Nat.le_refl _⟩ dX12_heldOf_200) hT (fun r3 σ3 H locs h hT => ?_)
            refine lv_iadd hx hb dX12_heldOf_203 ?_
            refine lv_istore_n (lv' := [(3, _), (0, _), (1, _), (2, _), (4, _)]) hx hb dX12_heldOf_204 rfl hl (by decide) rfl (fun ls hl => ?_)
            exact t_X12_heldOf_205 hC ih σ3 x1 x2 (x3 + r3) x4 _ _ _ h hT (lv_sub hl [1, 2, 3, 0, 4] rfl)
        · have h := h.2 hc
          refine lv_iload_n hx hb dX12_heldOf_112 rfl (lv_at hl 3 rfl) ?_
          refine lv_aload_n hx hb dX12_heldOf_113 rfl (lv_at hl 0 rfl) ?_
          refine rf_get hx hb hK hT hown 64 (by decide) kfX12_260 (v := .ref (ad 64)) rfl dX12_heldOf_114 ?_
          refine lv_sipush (v := 4000) hx hb dX12_heldOf_117 (by decide) ?_
          refine lv_iload_n hx hb dX12_heldOf_120 rfl (lv_at hl 1 rfl) ?_
          refine lv_imul hx hb dX12_heldOf_121 ?_
          refine lv_iload hx hb dX12_heldOf_122 (lv_at hl 4 rfl) ?_
          refine lv_iadd hx hb dX12_heldOf_124 ?_
          obtain ⟨hi, h⟩ := h
          refine rf_bald hx hb hK hT 64 (by decide) rfl hi (v := σ.2.2.1 64 ((4000 * x1) + x4).toNatClampNeg) rfl dX12_heldOf_125 ?_
          refine lv_iconst (v := 1) hx hb dX12_heldOf_126 (by decide) ?_
          refine lv_iand hx hb dX12_heldOf_127 ?_
          refine lv_iconst (v := 1) hx hb dX12_heldOf_128 (by decide) ?_
          refine lv_icmp_ne (tgt := 171) hx hb dX12_heldOf_129 (by decide) (fun hc => ?_) (fun hc => ?_)
          · have h := h.1 hc
            exact t_X12_heldOf_171 hC ih σ x1 x2 x4 x3 _ _ _ h hT (lv_sub hl [0, 1, 2, 4] rfl)
          · have h := h.2 hc
            refine lv_aload_n hx hb dX12_heldOf_132 rfl (lv_at hl 0 rfl) ?_
            refine lv_iload_n hx hb dX12_heldOf_133 rfl (lv_at hl 1 rfl) ?_
            refine lv_iload hx hb dX12_heldOf_134 (lv_at hl 4 rfl) ?_
            refine rf_calli (rf_runV hx hb hml hown hK hT (c_X12_hasIt h) rfl rfl klX12_469 ki_X12_hasIt ks_X12_hasIt kn_X12 kc_X12_hasIt 2 ⟨rfl, by decide, by decide, by decide +kernel⟩ ⟨by decide, by decide⟩ rfl hl.1 rfl (Nat.le_of_ble_eq_true rfl) ⟨Nat.le_refl _, Nat.le_refl _⟩ dX12_heldOf_136) hT (fun r4 σ4 H locs h hT => ?_)
            refine lv_if_eq (tgt := 171) hx hb dX12_heldOf_139 (by decide) (fun hc => ?_) (fun hc => ?_)
            · have h := h.1 hc
              exact t_X12_heldOf_171 hC ih σ4 x1 x2 x4 x3 _ _ _ h hT (lv_sub hl [0, 1, 2, 4] rfl)
            · have h := h.2 hc
              refine lv_aload_n hx hb dX12_heldOf_142 rfl (lv_at hl 0 rfl) ?_
              refine rf_get hx hb hK hT hown 8 (by decide) kfX12_170 (v := .ref (ad 8)) rfl dX12_heldOf_143 ?_
              refine lv_iload hx hb dX12_heldOf_146 (lv_at hl 4 rfl) ?_
              obtain ⟨hi, h⟩ := h
              refine rf_iald hx hb hK hT 8 (by decide) rfl hi (v := σ4.2.2.1 8 x4.toNatClampNeg) rfl dX12_heldOf_148 ?_
              refine lv_i2l (v := (σ4.2.2.1 8 x4.toNatClampNeg).toInt64) hx hb dX12_heldOf_149 rfl ?_
              refine lv_aload_n hx hb dX12_heldOf_150 rfl (lv_at hl 0 rfl) ?_
              refine rf_get hx hb hK hT hown 21 (by decide) kfX12_64 (v := .int (σ4.1 21)) rfl dX12_heldOf_151 ?_
              refine lv_i2l (v := (σ4.1 21).toInt64) hx hb dX12_heldOf_154 rfl ?_
              refine lv_aload_n hx hb dX12_heldOf_155 rfl (lv_at hl 0 rfl) ?_
              refine rf_get hx hb hK hT hown 44 (by decide) kfX12_226 (v := .ref (ad 44)) rfl dX12_heldOf_156 ?_
              refine lv_iload_n hx hb dX12_heldOf_159 rfl (lv_at hl 2 rfl) ?_
              obtain ⟨hi, h⟩ := h
              refine rf_iald hx hb hK hT 44 (by decide) rfl hi (v := σ4.2.2.1 44 x2.toNatClampNeg) rfl dX12_heldOf_160 ?_
              refine lv_i2l (v := (σ4.2.2.1 44 x2.toNatClampNeg).toInt64) hx hb dX12_heldOf_161 rfl ?_
              refine lv_lsub hx hb dX12_heldOf_162 ?_
              refine W.lcmp hx hb dX12_heldOf_163 ?_
              refine lv_if_le (tgt := 171) hx hb dX12_heldOf_164 (by decide) (fun hc => ?_) (fun hc => ?_)
              · have h := h.1 hc
                exact t_X12_heldOf_171 hC ih σ4 x1 x2 x4 x3 _ _ _ h hT (lv_sub hl [0, 1, 2, 4] rfl)
              · have h := h.2 hc
                refine lv_iconst (v := 1) hx hb dX12_heldOf_167 (by decide) ?_
                refine lv_goto (tgt := 172) hx hb dX12_heldOf_168 (by decide) ?_
                exact t_X12_heldOf_172 hC ih σ4 x1 x2 x4 x3 1 _ _ _ h hT (lv_sub hl [0, 1, 2, 4] rfl)
      · have h := h.2 hc
        refine lv_goto (tgt := 205) hx hb dX12_heldOf_99 (by decide) ?_
        exact t_X12_heldOf_205 hC ih σ x1 x2 x3 x4 _ _ _ h hT (lv_sub hl [0, 1, 2, 3, 4] rfl)
end
def w_X12_heldOf_61 (post : Int32 → rf_S → Prop) (k25 : rf_S → Int32 → Int32 → Int32 → Prop) (σ : rf_S) (x1 : Int32) (x4 : Int32) (y0 : Int32) (y1 : Int32) : Prop := k25 σ x1 (y0 + y1) (x4 + 1)
section
variable {p : Program} {l : Launch} {e : Env} {s : State} {m : MethodId} {args : Array Value} {below : List Frame} {meth : Method} {c : Code} {P : hw_G} {o : Nat} {ad : Nat → Nat}
set_option maxRecDepth 100000 in
set_option maxHeartbeats 4000000 in
theorem t_X12_heldOf_61 {post : Int32 → rf_S → Prop} {k25 : rf_S → Int32 → Int32 → Int32 → Prop} (hC : rf_C P RX12 p s m meth c cX12_heldOf 5 (some .int)) (hk25 : ∀ (σ : rf_S) (x1 : Int32) (x3 : Int32) (x4 : Int32) (H : Heap) (locs : List Loc) (ls : Array Slot), k25 σ x1 x3 x4 → rf_T P s (rf_A o ad) o ad σ H locs → lv_has ls 5 [(0, .ref o), (1, .int x1), (3, .int x3), (4, .int x4)] → W p l e rm_X12_heldOf s m args below meth c H locs 0 0 (MQ below (rf_Qi P o ad post) args s 0 0 (rf_A o ad)) (F0 m 25 ls [])) (σ : rf_S) (x1 : Int32) (x4 : Int32) (y0 : Int32) (y1 : Int32) (H : Heap) (locs : List Loc) (ls : Array Slot) (h : w_X12_heldOf_61 post k25 σ x1 x4 y0 y1) (hT : rf_T P s (rf_A o ad) o ad σ H locs) (hl : lv_has ls 5 [(0, .ref o), (1, .int x1), (4, .int x4)]) : W p l e rm_X12_heldOf s m args below meth c H locs 0 0 (MQ below (rf_Qi P o ad post) args s 0 0 (rf_A o ad)) (F0 m 61 ls [.int y1, .int y0]) := by
  obtain ⟨hx, hb, hml, hown, hK, -, -⟩ := id hC
  refine lv_iadd hx hb dX12_heldOf_61 ?_
  refine lv_istore_n (lv' := [(3, _), (0, _), (1, _), (4, _)]) hx hb dX12_heldOf_62 rfl hl (by decide) rfl (fun ls hl => ?_)
  refine lv_iinc (v := x4 + 1) (lv' := [(4, _), (3, _), (0, _), (1, _)]) hx hb dX12_heldOf_63 hl (k := 3) rfl rfl (by decide) rfl (fun ls hl => ?_)
  refine lv_goto (tgt := 25) hx hb dX12_heldOf_66 (by decide) ?_
  exact hk25 σ x1 (y0 + y1) (x4 + 1) _ _ _ h hT (lv_sub hl [2, 3, 1, 0] rfl)
end
def w_X12_heldOf_60 (post : Int32 → rf_S → Prop) (k25 : rf_S → Int32 → Int32 → Int32 → Prop) (σ : rf_S) (x1 : Int32) (x4 : Int32) (y0 : Int32) : Prop := w_X12_heldOf_61 post k25 σ x1 x4 y0 0
section
variable {p : Program} {l : Launch} {e : Env} {s : State} {m : MethodId} {args : Array Value} {below : List Frame} {meth : Method} {c : Code} {P : hw_G} {o : Nat} {ad : Nat → Nat}
set_option maxRecDepth 100000 in
set_option maxHeartbeats 4000000 in
theorem t_X12_heldOf_60 {post : Int32 → rf_S → Prop} {k25 : rf_S → Int32 → Int32 → Int32 → Prop} (hC : rf_C P RX12 p s m meth c cX12_heldOf 5 (some .int)) (hk25 : ∀ (σ : rf_S) (x1 : Int32) (x3 : Int32) (x4 : Int32) (H : Heap) (locs : List Loc) (ls : Array Slot), k25 σ x1 x3 x4 → rf_T P s (rf_A o ad) o ad σ H locs → lv_has ls 5 [(0, .ref o), (1, .int x1), (3, .int x3), (4, .int x4)] → W p l e rm_X12_heldOf s m args below meth c H locs 0 0 (MQ below (rf_Qi P o ad post) args s 0 0 (rf_A o ad)) (F0 m 25 ls [])) (σ : rf_S) (x1 : Int32) (x4 : Int32) (y0 : Int32) (H : Heap) (locs : List Loc) (ls : Array Slot) (h : w_X12_heldOf_60 post k25 σ x1 x4 y0) (hT : rf_T P s (rf_A o ad) o ad σ H locs) (hl : lv_has ls 5 [(0, .ref o), (1, .int x1), (4, .int x4)]) : W p l e rm_X12_heldOf s m args below meth c H locs 0 0 (MQ below (rf_Qi P o ad post) args s 0 0 (rf_A o ad)) (F0 m 60 ls [.int y0]) := by
  obtain ⟨hx, hb, hml, hown, hK, -, -⟩ := id hC
  refine lv_iconst (v := 0) hx hb dX12_heldOf_60 (by decide) ?_
  exact t_X12_heldOf_61 hC hk25 σ x1 x4 y0 0 _ _ _ h hT (lv_sub hl [0, 1, 2] rfl)
end
def w_X12_heldOf_25 (post : Int32 → rf_S → Prop) : Nat → rf_S → Int32 → Int32 → Int32 → Prop
  | 0, _, _, _, _ => False
  | n + 1, σ, x1, x3, x4 => ((σ.1 72) ≤ x4 → post x3 σ) ∧ (¬ (σ.1 72) ≤ x4 → vp_in x4 (rf_n 71) ∧ (¬ (σ.2.2.1 71 x4.toNatClampNeg) = 0 → w_X12_heldOf_60 post (w_X12_heldOf_25 post n) σ x1 x4 x3) ∧ ((σ.2.2.1 71 x4.toNatClampNeg) = 0 → vp_in x4 (rf_n 69) ∧ (¬ (σ.2.2.1 69 x4.toNatClampNeg) = x1 → w_X12_heldOf_60 post (w_X12_heldOf_25 post n) σ x1 x4 x3) ∧ ((σ.2.2.1 69 x4.toNatClampNeg) = x1 → w_X12_heldOf_61 post (w_X12_heldOf_25 post n) σ x1 x4 x3 1)))
section
variable {p : Program} {l : Launch} {e : Env} {s : State} {m : MethodId} {args : Array Value} {below : List Frame} {meth : Method} {c : Code} {P : hw_G} {o : Nat} {ad : Nat → Nat}
set_option maxRecDepth 100000 in
set_option maxHeartbeats 4000000 in
theorem t_X12_heldOf_25 {post : Int32 → rf_S → Prop} (hC : rf_C P RX12 p s m meth c cX12_heldOf 5 (some .int)) : ∀ (n : Nat) (σ : rf_S) (x1 : Int32) (x3 : Int32) (x4 : Int32) (H : Heap) (locs : List Loc) (ls : Array Slot), w_X12_heldOf_25 post n σ x1 x3 x4 → rf_T P s (rf_A o ad) o ad σ H locs → lv_has ls 5 [(0, .ref o), (1, .int x1), (3, .int x3), (4, .int x4)] → W p l e rm_X12_heldOf s m args below meth c H locs 0 0 (MQ below (rf_Qi P o ad post) args s 0 0 (rf_A o ad)) (F0 m 25 ls []) := by
  obtain ⟨hx, hb, hml, hown, hK, -, -⟩ := id hC
  intro n
  induction n with
  | zero => intro σ x1 x3 x4 H locs ls h; exact False.elim h
  | succ n ih =>
    intro σ x1 x3 x4 H locs ls h hT hl
    refine lv_iload hx hb dX12_heldOf_25 (lv_at hl 3 rfl) ?_
    refine lv_aload_n hx hb dX12_heldOf_27 rfl (lv_at hl 0 rfl) ?_
    refine rf_get hx hb hK hT hown 72 (by decide) kfX12_80 (v := .int (σ.1 72)) rfl dX12_heldOf_28 ?_
    refine lv_icmp_ge (tgt := 69) hx hb dX12_heldOf_31 (by decide) (fun hc => ?_) (fun hc => ?_)
    · have h := h.1 hc
      refine lv_iload_n hx hb dX12_heldOf_69 rfl (lv_at hl 2 rfl) ?_
      exact rf_iret hC hT h dX12_heldOf_70
    · have h := h.2 hc
      refine lv_iload_n hx hb dX12_heldOf_34 rfl (lv_at hl 2 rfl) ?_
      refine lv_aload_n hx hb dX12_heldOf_35 rfl (lv_at hl 0 rfl) ?_
      refine rf_get hx hb hK hT hown 71 (by decide) kfX12_272 (v := .ref (ad 71)) rfl dX12_heldOf_36 ?_
      refine lv_iload hx hb dX12_heldOf_39 (lv_at hl 3 rfl) ?_
      obtain ⟨hi, h⟩ := h
      refine rf_zald hx hb hK hT 71 (by decide) rfl hi (v := σ.2.2.1 71 x4.toNatClampNeg) rfl dX12_heldOf_41 ?_
      refine lv_if_ne (tgt := 60) hx hb dX12_heldOf_42 (by decide) (fun hc => ?_) (fun hc => ?_)
      · have h := h.1 hc
        exact t_X12_heldOf_60 hC ih σ x1 x4 x3 _ _ _ h hT (lv_sub hl [0, 1, 3] rfl)
      · have h := h.2 hc
        refine lv_aload_n hx hb dX12_heldOf_45 rfl (lv_at hl 0 rfl) ?_
        refine rf_get hx hb hK hT hown 69 (by decide) kfX12_266 (v := .ref (ad 69)) rfl dX12_heldOf_46 ?_
        refine lv_iload hx hb dX12_heldOf_49 (lv_at hl 3 rfl) ?_
        obtain ⟨hi, h⟩ := h
        refine rf_bald hx hb hK hT 69 (by decide) rfl hi (v := σ.2.2.1 69 x4.toNatClampNeg) rfl dX12_heldOf_51 ?_
        refine lv_iload_n hx hb dX12_heldOf_52 rfl (lv_at hl 1 rfl) ?_
        refine lv_icmp_ne (tgt := 60) hx hb dX12_heldOf_53 (by decide) (fun hc => ?_) (fun hc => ?_)
        · have h := h.1 hc
          exact t_X12_heldOf_60 hC ih σ x1 x4 x3 _ _ _ h hT (lv_sub hl [0, 1, 3] rfl)
        · have h := h.2 hc
          refine lv_iconst (v := 1) hx hb dX12_heldOf_56 (by decide) ?_
          refine lv_goto (tgt := 61) hx hb dX12_heldOf_57 (by decide) ?_
          exact t_X12_heldOf_61 hC ih σ x1 x4 x3 1 _ _ _ h hT (lv_sub hl [0, 1, 3] rfl)
end
def wp_X12_heldOf (post : Int32 → rf_S → Prop) (σ : rf_S) (p1 : Int32) : Prop := vp_in ((12 * (σ.1 32)) + p1) (rf_n 38) ∧ (¬ (σ.2.2.1 38 ((12 * (σ.1 32)) + p1).toNatClampNeg) = 4 → ∃ n9, w_X12_heldOf_74 post n9 σ p1 ((12 * (σ.1 32)) + p1) 0 0) ∧ ((σ.2.2.1 38 ((12 * (σ.1 32)) + p1).toNatClampNeg) = 4 → ∃ n9, w_X12_heldOf_25 post n9 σ p1 0 0)
set_option maxRecDepth 100000 in
set_option maxHeartbeats 4000000 in
theorem c_X12_heldOf {l : Launch} {P : hw_G} {o : Nat} {ad : Nat → Nat} {σ : rf_S} {p1 : Int32} {post : Int32 → rf_S → Prop} (h : wp_X12_heldOf post σ p1) : Met l yX12_heldOf [Cond.code yX12_heldOf cX12_heldOf 5 (some .int)] rm_X12_heldOf (rf_Pc P o ad σ [.ref o, .int p1]) (rf_Qi P o ad post) 0 0 (rf_A o ad) := by
  refine rf_met (by decide) rfl (Nat.le_of_ble_eq_true rfl) ?_
  intro p e s m below meth c ls hC hT hl
  obtain ⟨hx, hb, hml, hown, hK, -, -⟩ := id hC
  have hl : lv_has ls 5 [(0, .ref o), (1, .int p1)] := hl
  refine lv_bipush (v := 12) hx hb dX12_heldOf_0 (by decide) ?_
  refine lv_aload_n hx hb dX12_heldOf_2 rfl (lv_at hl 0 rfl) ?_
  refine rf_get hx hb hK hT hown 32 (by decide) kfX12_368 (v := .int (σ.1 32)) rfl dX12_heldOf_3 ?_
  refine lv_imul hx hb dX12_heldOf_6 ?_
  refine lv_iload_n hx hb dX12_heldOf_7 rfl (lv_at hl 1 rfl) ?_
  refine lv_iadd hx hb dX12_heldOf_8 ?_
  refine lv_istore_n (lv' := [(2, _), (0, _), (1, _)]) hx hb dX12_heldOf_9 rfl hl (by decide) rfl (fun ls hl => ?_)
  refine lv_iconst (v := 0) hx hb dX12_heldOf_10 (by decide) ?_
  refine lv_istore_n (lv' := [(3, _), (2, _), (0, _), (1, _)]) hx hb dX12_heldOf_11 rfl hl (by decide) rfl (fun ls hl => ?_)
  refine lv_aload_n hx hb dX12_heldOf_12 rfl (lv_at hl 2 rfl) ?_
  refine rf_get hx hb hK hT hown 38 (by decide) kfX12_208 (v := .ref (ad 38)) rfl dX12_heldOf_13 ?_
  refine lv_iload_n hx hb dX12_heldOf_16 rfl (lv_at hl 1 rfl) ?_
  obtain ⟨hi, h⟩ := h
  refine rf_iald hx hb hK hT 38 (by decide) rfl hi (v := σ.2.2.1 38 ((12 * (σ.1 32)) + p1).toNatClampNeg) rfl dX12_heldOf_17 ?_
  refine lv_iconst (v := 4) hx hb dX12_heldOf_18 (by decide) ?_
  refine lv_icmp_ne (tgt := 71) hx hb dX12_heldOf_19 (by decide) (fun hc => ?_) (fun hc => ?_)
  · have h := h.1 hc
    refine lv_iconst (v := 0) hx hb dX12_heldOf_71 (by decide) ?_
    refine lv_istore (lv' := [(4, _), (3, _), (2, _), (0, _), (1, _)]) hx hb dX12_heldOf_72 hl (by decide) rfl (fun ls hl => ?_)
    obtain ⟨n9, h⟩ := h
    exact t_X12_heldOf_74 hC n9 σ p1 ((12 * (σ.1 32)) + p1) 0 0 _ _ _ h hT (lv_sub hl [3, 4, 2, 1, 0] rfl)
  · have h := h.2 hc
    refine lv_iconst (v := 0) hx hb dX12_heldOf_22 (by decide) ?_
    refine lv_istore (lv' := [(4, _), (3, _), (2, _), (0, _), (1, _)]) hx hb dX12_heldOf_23 hl (by decide) rfl (fun ls hl => ?_)
    obtain ⟨n9, h⟩ := h
    exact t_X12_heldOf_25 hC n9 σ p1 0 0 _ _ _ h hT (lv_sub hl [3, 4, 1, 0] rfl)
/-! X12_rule_ -/
abbrev rm_X12_rule_ : Room := { frames := 3, cells := 0, slots := 0, locals := 76 }
def w_X12_rule__53 (post : Int32 → rf_S → Prop) (σ : rf_S) (y0 : Int32) : Prop := post y0 σ
section
variable {p : Program} {l : Launch} {e : Env} {s : State} {m : MethodId} {args : Array Value} {below : List Frame} {meth : Method} {c : Code} {P : hw_G} {o : Nat} {ad : Nat → Nat}
set_option maxRecDepth 100000 in
set_option maxHeartbeats 4000000 in
theorem t_X12_rule__53 {post : Int32 → rf_S → Prop} (hC : rf_C P RX12 p s m meth c cX12_rule_ 3 (some .int)) (σ : rf_S) (y0 : Int32) (H : Heap) (locs : List Loc) (ls : Array Slot) (h : w_X12_rule__53 post σ y0) (hT : rf_T P s (rf_A o ad) o ad σ H locs) (hl : lv_has ls 3 []) : W p l e rm_X12_rule_ s m args below meth c H locs 0 0 (MQ below (rf_Qi P o ad post) args s 0 0 (rf_A o ad)) (F0 m 53 ls [.int y0]) := by
  obtain ⟨hx, hb, hml, hown, hK, -, -⟩ := id hC
  exact rf_iret hC hT h dX12_rule__53
end
def w_X12_rule__27 (post : Int32 → rf_S → Prop) (σ : rf_S) (x1 : Int32) (x2 : Int32) (y1 : Int32) : Prop := wp_X12_throwsIf (fun r3 σ3 => (r3 = 0 → (¬ x2 = 0 → vp_in x1 (rf_n 67) ∧ w_X12_rule__53 post σ3 (σ3.2.2.1 67 x1.toNatClampNeg)) ∧ (x2 = 0 → wp_X12_heldOf (fun r4 σ4 => w_X12_rule__53 post σ4 r4) σ3 x1)) ∧ (¬ r3 = 0 → post 0 σ3)) σ y1
section
variable {p : Program} {l : Launch} {e : Env} {s : State} {m : MethodId} {args : Array Value} {below : List Frame} {meth : Method} {c : Code} {P : hw_G} {o : Nat} {ad : Nat → Nat}
set_option maxRecDepth 100000 in
set_option maxHeartbeats 4000000 in
theorem t_X12_rule__27 {post : Int32 → rf_S → Prop} (hC : rf_C P RX12 p s m meth c cX12_rule_ 3 (some .int)) (σ : rf_S) (x1 : Int32) (x2 : Int32) (y1 : Int32) (H : Heap) (locs : List Loc) (ls : Array Slot) (h : w_X12_rule__27 post σ x1 x2 y1) (hT : rf_T P s (rf_A o ad) o ad σ H locs) (hl : lv_has ls 3 [(0, .ref o), (1, .int x1), (2, .int x2)]) : W p l e rm_X12_rule_ s m args below meth c H locs 0 0 (MQ below (rf_Qi P o ad post) args s 0 0 (rf_A o ad)) (F0 m 27 ls [.int y1, .ref o]) := by
  obtain ⟨hx, hb, hml, hown, hK, -, -⟩ := id hC
  refine rf_calli (rf_runV hx hb hml hown hK hT (c_X12_throwsIf h) rfl rfl klX12_507 ki_X12_throwsIf ks_X12_throwsIf kn_X12 kc_X12_throwsIf 1 ⟨rfl, by decide, by decide, by decide +kernel⟩ ⟨by decide, by decide⟩ rfl hl.1 rfl (Nat.le_of_ble_eq_true rfl) ⟨Nat.le_refl _, Nat.le_refl _⟩ dX12_rule__27) hT (fun r3 σ3 H locs h hT => ?_)
  refine lv_if_eq (tgt := 35) hx hb dX12_rule__30 (by decide) (fun hc => ?_) (fun hc => ?_)
  · have h := h.1 hc
    refine lv_iload_n hx hb dX12_rule__35 rfl (lv_at hl 2 rfl) ?_
    refine lv_if_ne (tgt := 47) hx hb dX12_rule__36 (by decide) (fun hc => ?_) (fun hc => ?_)
    · have h := h.1 hc
      refine lv_aload_n hx hb dX12_rule__47 rfl (lv_at hl 0 rfl) ?_
      refine rf_get hx hb hK hT hown 67 (by decide) kfX12_83 (v := .ref (ad 67)) rfl dX12_rule__48 ?_
      refine lv_iload_n hx hb dX12_rule__51 rfl (lv_at hl 1 rfl) ?_
      obtain ⟨hi, h⟩ := h
      refine rf_iald hx hb hK hT 67 (by decide) rfl hi (v := σ3.2.2.1 67 x1.toNatClampNeg) rfl dX12_rule__52 ?_
      exact t_X12_rule__53 hC σ3 (σ3.2.2.1 67 x1.toNatClampNeg) _ _ _ h hT (lv_sub hl [] rfl)
    · have h := h.2 hc
      refine lv_aload_n hx hb dX12_rule__39 rfl (lv_at hl 0 rfl) ?_
      refine lv_iload_n hx hb dX12_rule__40 rfl (lv_at hl 1 rfl) ?_
      refine rf_calli (rf_runV hx hb hml hown hK hT (c_X12_heldOf h) rfl rfl klX12_514 ki_X12_heldOf ks_X12_heldOf kn_X12 kc_X12_heldOf 1 ⟨rfl, by decide, by decide, by decide +kernel⟩ ⟨by decide, by decide⟩ rfl hl.1 rfl (Nat.le_of_ble_eq_true rfl) ⟨Nat.le_refl _, Nat.le_refl _⟩ dX12_rule__41) hT (fun r4 σ4 H locs h hT => ?_)
      refine lv_goto (tgt := 53) hx hb dX12_rule__44 (by decide) ?_
      exact t_X12_rule__53 hC σ4 r4 _ _ _ h hT (lv_sub hl [] rfl)
  · have h := h.2 hc
    refine lv_iconst (v := 0) hx hb dX12_rule__33 (by decide) ?_
    exact rf_iret hC hT h dX12_rule__34
end
def w_X12_rule__22 (post : Int32 → rf_S → Prop) (σ : rf_S) (x1 : Int32) (x2 : Int32) : Prop := w_X12_rule__27 post σ x1 x2 1
section
variable {p : Program} {l : Launch} {e : Env} {s : State} {m : MethodId} {args : Array Value} {below : List Frame} {meth : Method} {c : Code} {P : hw_G} {o : Nat} {ad : Nat → Nat}
set_option maxRecDepth 100000 in
set_option maxHeartbeats 4000000 in
theorem t_X12_rule__22 {post : Int32 → rf_S → Prop} (hC : rf_C P RX12 p s m meth c cX12_rule_ 3 (some .int)) (σ : rf_S) (x1 : Int32) (x2 : Int32) (H : Heap) (locs : List Loc) (ls : Array Slot) (h : w_X12_rule__22 post σ x1 x2) (hT : rf_T P s (rf_A o ad) o ad σ H locs) (hl : lv_has ls 3 [(0, .ref o), (1, .int x1), (2, .int x2)]) : W p l e rm_X12_rule_ s m args below meth c H locs 0 0 (MQ below (rf_Qi P o ad post) args s 0 0 (rf_A o ad)) (F0 m 22 ls [.ref o]) := by
  obtain ⟨hx, hb, hml, hown, hK, -, -⟩ := id hC
  refine lv_iconst (v := 1) hx hb dX12_rule__22 (by decide) ?_
  refine lv_goto (tgt := 27) hx hb dX12_rule__23 (by decide) ?_
  exact t_X12_rule__27 hC σ x1 x2 1 _ _ _ h hT (lv_sub hl [0, 1, 2] rfl)
end
def wp_X12_rule_ (post : Int32 → rf_S → Prop) (σ : rf_S) (p1 : Int32) (p2 : Int32) : Prop := (p1 < 0 → w_X12_rule__22 post σ p1 p2) ∧ (¬ p1 < 0 → ((σ.1 33) ≤ p1 → w_X12_rule__22 post σ p1 p2) ∧ (¬ (σ.1 33) ≤ p1 → (p2 < 0 → w_X12_rule__22 post σ p1 p2) ∧ (¬ p2 < 0 → (p2 ≤ 1 → w_X12_rule__27 post σ p1 p2 0) ∧ (¬ p2 ≤ 1 → w_X12_rule__22 post σ p1 p2))))
set_option maxRecDepth 100000 in
set_option maxHeartbeats 4000000 in
theorem c_X12_rule_ {l : Launch} {P : hw_G} {o : Nat} {ad : Nat → Nat} {σ : rf_S} {p1 : Int32} {p2 : Int32} {post : Int32 → rf_S → Prop} (h : wp_X12_rule_ post σ p1 p2) : Met l yX12_rule_ [Cond.code yX12_rule_ cX12_rule_ 3 (some .int)] rm_X12_rule_ (rf_Pc P o ad σ [.ref o, .int p1, .int p2]) (rf_Qi P o ad post) 0 0 (rf_A o ad) := by
  refine rf_met (by decide) rfl (Nat.le_of_ble_eq_true rfl) ?_
  intro p e s m below meth c ls hC hT hl
  obtain ⟨hx, hb, hml, hown, hK, -, -⟩ := id hC
  have hl : lv_has ls 3 [(0, .ref o), (1, .int p1), (2, .int p2)] := hl
  refine lv_aload_n hx hb dX12_rule__0 rfl (lv_at hl 0 rfl) ?_
  refine lv_iload_n hx hb dX12_rule__1 rfl (lv_at hl 1 rfl) ?_
  refine lv_if_lt (tgt := 22) hx hb dX12_rule__2 (by decide) (fun hc => ?_) (fun hc => ?_)
  · have h := h.1 hc
    exact t_X12_rule__22 hC σ p1 p2 _ _ _ h hT (lv_sub hl [0, 1, 2] rfl)
  · have h := h.2 hc
    refine lv_iload_n hx hb dX12_rule__5 rfl (lv_at hl 1 rfl) ?_
    refine lv_aload_n hx hb dX12_rule__6 rfl (lv_at hl 0 rfl) ?_
    refine rf_get hx hb hK hT hown 33 (by decide) kfX12_380 (v := .int (σ.1 33)) rfl dX12_rule__7 ?_
    refine lv_icmp_ge (tgt := 22) hx hb dX12_rule__10 (by decide) (fun hc => ?_) (fun hc => ?_)
    · have h := h.1 hc
      exact t_X12_rule__22 hC σ p1 p2 _ _ _ h hT (lv_sub hl [0, 1, 2] rfl)
    · have h := h.2 hc
      refine lv_iload_n hx hb dX12_rule__13 rfl (lv_at hl 2 rfl) ?_
      refine lv_if_lt (tgt := 22) hx hb dX12_rule__14 (by decide) (fun hc => ?_) (fun hc => ?_)
      · have h := h.1 hc
        exact t_X12_rule__22 hC σ p1 p2 _ _ _ h hT (lv_sub hl [0, 1, 2] rfl)
      · have h := h.2 hc
        refine lv_iload_n hx hb dX12_rule__17 rfl (lv_at hl 2 rfl) ?_
        refine lv_iconst (v := 1) hx hb dX12_rule__18 (by decide) ?_
        refine lv_icmp_le (tgt := 26) hx hb dX12_rule__19 (by decide) (fun hc => ?_) (fun hc => ?_)
        · have h := h.1 hc
          refine lv_iconst (v := 0) hx hb dX12_rule__26 (by decide) ?_
          exact t_X12_rule__27 hC σ p1 p2 0 _ _ _ h hT (lv_sub hl [0, 1, 2] rfl)
        · have h := h.2 hc
          exact t_X12_rule__22 hC σ p1 p2 _ _ _ h hT (lv_sub hl [0, 1, 2] rfl)
/-! X12_isLate -/
abbrev rm_X12_isLate : Room := { frames := 0, cells := 0, slots := 0, locals := 0 }
def w_X12_isLate_28 (post : Int32 → rf_S → Prop) (σ : rf_S) (y0 : Int32) : Prop := narrow .boolean (.int y0) = .int y0 ∧ post y0 σ
section
variable {p : Program} {l : Launch} {e : Env} {s : State} {m : MethodId} {args : Array Value} {below : List Frame} {meth : Method} {c : Code} {P : hw_G} {o : Nat} {ad : Nat → Nat}
set_option maxRecDepth 100000 in
set_option maxHeartbeats 4000000 in
theorem t_X12_isLate_28 {post : Int32 → rf_S → Prop} (hC : rf_C P RX12 p s m meth c cX12_isLate 2 (some .boolean)) (σ : rf_S) (y0 : Int32) (H : Heap) (locs : List Loc) (ls : Array Slot) (h : w_X12_isLate_28 post σ y0) (hT : rf_T P s (rf_A o ad) o ad σ H locs) (hl : lv_has ls 2 []) : W p l e rm_X12_isLate s m args below meth c H locs 0 0 (MQ below (rf_Qi P o ad post) args s 0 0 (rf_A o ad)) (F0 m 28 ls [.int y0]) := by
  obtain ⟨hx, hb, hml, hown, hK, -, -⟩ := id hC
  exact rf_zret hC hT h.1 h.2 dX12_isLate_28
end
def w_X12_isLate_27 (post : Int32 → rf_S → Prop) (σ : rf_S)  : Prop := w_X12_isLate_28 post σ 0
section
variable {p : Program} {l : Launch} {e : Env} {s : State} {m : MethodId} {args : Array Value} {below : List Frame} {meth : Method} {c : Code} {P : hw_G} {o : Nat} {ad : Nat → Nat}
set_option maxRecDepth 100000 in
set_option maxHeartbeats 4000000 in
theorem t_X12_isLate_27 {post : Int32 → rf_S → Prop} (hC : rf_C P RX12 p s m meth c cX12_isLate 2 (some .boolean)) (σ : rf_S)  (H : Heap) (locs : List Loc) (ls : Array Slot) (h : w_X12_isLate_27 post σ ) (hT : rf_T P s (rf_A o ad) o ad σ H locs) (hl : lv_has ls 2 []) : W p l e rm_X12_isLate s m args below meth c H locs 0 0 (MQ below (rf_Qi P o ad post) args s 0 0 (rf_A o ad)) (F0 m 27 ls []) := by
  obtain ⟨hx, hb, hml, hown, hK, -, -⟩ := id hC
  refine lv_iconst (v := 0) hx hb dX12_isLate_27 (by decide) ?_
  exact t_X12_isLate_28 hC σ 0 _ _ _ h hT (lv_sub hl [] rfl)
end
def wp_X12_isLate (post : Int32 → rf_S → Prop) (σ : rf_S) (p1 : Int32) : Prop := (p1 < 0 → w_X12_isLate_27 post σ) ∧ (¬ p1 < 0 → ((σ.1 19) ≤ p1 → w_X12_isLate_27 post σ) ∧ (¬ (σ.1 19) ≤ p1 → (p1 < ((σ.1 19) - 64) → w_X12_isLate_27 post σ) ∧ (¬ p1 < ((σ.1 19) - 64) → w_X12_isLate_28 post σ 1)))
set_option maxRecDepth 100000 in
set_option maxHeartbeats 4000000 in
theorem c_X12_isLate {l : Launch} {P : hw_G} {o : Nat} {ad : Nat → Nat} {σ : rf_S} {p1 : Int32} {post : Int32 → rf_S → Prop} (h : wp_X12_isLate post σ p1) : Met l yX12_isLate [Cond.code yX12_isLate cX12_isLate 2 (some .boolean)] rm_X12_isLate (rf_Pc P o ad σ [.ref o, .int p1]) (rf_Qi P o ad post) 0 0 (rf_A o ad) := by
  refine rf_met (by decide) rfl (Nat.le_of_ble_eq_true rfl) ?_
  intro p e s m below meth c ls hC hT hl
  obtain ⟨hx, hb, hml, hown, hK, -, -⟩ := id hC
  have hl : lv_has ls 2 [(0, .ref o), (1, .int p1)] := hl
  refine lv_iload_n hx hb dX12_isLate_0 rfl (lv_at hl 1 rfl) ?_
  refine lv_if_lt (tgt := 27) hx hb dX12_isLate_1 (by decide) (fun hc => ?_) (fun hc => ?_)
  · have h := h.1 hc
    exact t_X12_isLate_27 hC σ _ _ _ h hT (lv_sub hl [] rfl)
  · have h := h.2 hc
    refine lv_iload_n hx hb dX12_isLate_4 rfl (lv_at hl 1 rfl) ?_
    refine lv_aload_n hx hb dX12_isLate_5 rfl (lv_at hl 0 rfl) ?_
    refine rf_get hx hb hK hT hown 19 (by decide) kfX12_58 (v := .int (σ.1 19)) rfl dX12_isLate_6 ?_
    refine lv_icmp_ge (tgt := 27) hx hb dX12_isLate_9 (by decide) (fun hc => ?_) (fun hc => ?_)
    · have h := h.1 hc
      exact t_X12_isLate_27 hC σ _ _ _ h hT (lv_sub hl [] rfl)
    · have h := h.2 hc
      refine lv_iload_n hx hb dX12_isLate_12 rfl (lv_at hl 1 rfl) ?_
      refine lv_aload_n hx hb dX12_isLate_13 rfl (lv_at hl 0 rfl) ?_
      refine rf_get hx hb hK hT hown 19 (by decide) kfX12_58 (v := .int (σ.1 19)) rfl dX12_isLate_14 ?_
      refine lv_bipush (v := 64) hx hb dX12_isLate_17 (by decide) ?_
      refine lv_isub hx hb dX12_isLate_19 ?_
      refine lv_icmp_lt (tgt := 27) hx hb dX12_isLate_20 (by decide) (fun hc => ?_) (fun hc => ?_)
      · have h := h.1 hc
        exact t_X12_isLate_27 hC σ _ _ _ h hT (lv_sub hl [] rfl)
      · have h := h.2 hc
        refine lv_iconst (v := 1) hx hb dX12_isLate_23 (by decide) ?_
        refine lv_goto (tgt := 28) hx hb dX12_isLate_24 (by decide) ?_
        exact t_X12_isLate_28 hC σ 1 _ _ _ h hT (lv_sub hl [] rfl)
/-! X12_letter -/
abbrev rm_X12_letter : Room := { frames := 0, cells := 0, slots := 0, locals := 0 }
def w_X12_letter_40 (post : Int32 → rf_S → Prop) (σ : rf_S) (y0 : Int64) : Prop := post ((y0 &&& 255).toInt32) σ
section
variable {p : Program} {l : Launch} {e : Env} {s : State} {m : MethodId} {args : Array Value} {below : List Frame} {meth : Method} {c : Code} {P : hw_G} {o : Nat} {ad : Nat → Nat}
set_option maxRecDepth 100000 in
set_option maxHeartbeats 4000000 in
theorem t_X12_letter_40 {post : Int32 → rf_S → Prop} (hC : rf_C P RX12 p s m meth c cX12_letter 3 (some .int)) (σ : rf_S) (y0 : Int64) (H : Heap) (locs : List Loc) (ls : Array Slot) (h : w_X12_letter_40 post σ y0) (hT : rf_T P s (rf_A o ad) o ad σ H locs) (hl : lv_has ls 3 []) : W p l e rm_X12_letter s m args below meth c H locs 0 0 (MQ below (rf_Qi P o ad post) args s 0 0 (rf_A o ad)) (F0 m 40 ls [.long y0]) := by
  obtain ⟨hx, hb, hml, hown, hK, -, -⟩ := id hC
  refine lv_ldc2 (v := 255) hx hb hown (hK.word kkX12_523 rfl) dX12_letter_40 ?_
  refine lv_land hx hb dX12_letter_43 ?_
  refine lv_l2i (v := (y0 &&& 255).toInt32) hx hb dX12_letter_44 rfl ?_
  exact rf_iret hC hT h dX12_letter_45
end
def wp_X12_letter (post : Int32 → rf_S → Prop) (σ : rf_S) (p1 : Int32) (p2 : Int32) : Prop := (8 ≤ p2 → vp_in p1 (rf_n 12) ∧ w_X12_letter_40 post σ ((σ.2.2.2 12 p1.toNatClampNeg) >>> ((56 - (8 * (p2 - 8))).toInt64 &&& 63))) ∧ (¬ 8 ≤ p2 → vp_in p1 (rf_n 11) ∧ w_X12_letter_40 post σ ((σ.2.2.2 11 p1.toNatClampNeg) >>> ((56 - (8 * p2)).toInt64 &&& 63)))
set_option maxRecDepth 100000 in
set_option maxHeartbeats 4000000 in
theorem c_X12_letter {l : Launch} {P : hw_G} {o : Nat} {ad : Nat → Nat} {σ : rf_S} {p1 : Int32} {p2 : Int32} {post : Int32 → rf_S → Prop} (h : wp_X12_letter post σ p1 p2) : Met l yX12_letter [Cond.code yX12_letter cX12_letter 3 (some .int)] rm_X12_letter (rf_Pc P o ad σ [.ref o, .int p1, .int p2]) (rf_Qi P o ad post) 0 0 (rf_A o ad) := by
  refine rf_met (by decide) rfl (Nat.le_of_ble_eq_true rfl) ?_
  intro p e s m below meth c ls hC hT hl
  obtain ⟨hx, hb, hml, hown, hK, -, -⟩ := id hC
  have hl : lv_has ls 3 [(0, .ref o), (1, .int p1), (2, .int p2)] := hl
  refine lv_iload_n hx hb dX12_letter_0 rfl (lv_at hl 2 rfl) ?_
  refine lv_bipush (v := 8) hx hb dX12_letter_1 (by decide) ?_
  refine lv_icmp_ge (tgt := 23) hx hb dX12_letter_3 (by decide) (fun hc => ?_) (fun hc => ?_)
  · have h := h.1 hc
    refine lv_aload_n hx hb dX12_letter_23 rfl (lv_at hl 0 rfl) ?_
    refine rf_get hx hb hK hT hown 12 (by decide) kfX12_148 (v := .ref (ad 12)) rfl dX12_letter_24 ?_
    refine lv_iload_n hx hb dX12_letter_27 rfl (lv_at hl 1 rfl) ?_
    obtain ⟨hi, h⟩ := h
    refine rf_lald hx hb hK hT 12 (by decide) rfl hi (v := σ.2.2.2 12 p1.toNatClampNeg) rfl dX12_letter_28 ?_
    refine lv_bipush (v := 56) hx hb dX12_letter_29 (by decide) ?_
    refine lv_bipush (v := 8) hx hb dX12_letter_31 (by decide) ?_
    refine lv_iload_n hx hb dX12_letter_33 rfl (lv_at hl 2 rfl) ?_
    refine lv_bipush (v := 8) hx hb dX12_letter_34 (by decide) ?_
    refine lv_isub hx hb dX12_letter_36 ?_
    refine lv_imul hx hb dX12_letter_37 ?_
    refine lv_isub hx hb dX12_letter_38 ?_
    refine lv_lshr (v := (σ.2.2.2 12 p1.toNatClampNeg) >>> ((56 - (8 * (p2 - 8))).toInt64 &&& 63)) hx hb dX12_letter_39 rfl ?_
    exact t_X12_letter_40 hC σ ((σ.2.2.2 12 p1.toNatClampNeg) >>> ((56 - (8 * (p2 - 8))).toInt64 &&& 63)) _ _ _ h hT (lv_sub hl [] rfl)
  · have h := h.2 hc
    refine lv_aload_n hx hb dX12_letter_6 rfl (lv_at hl 0 rfl) ?_
    refine rf_get hx hb hK hT hown 11 (by decide) kfX12_145 (v := .ref (ad 11)) rfl dX12_letter_7 ?_
    refine lv_iload_n hx hb dX12_letter_10 rfl (lv_at hl 1 rfl) ?_
    obtain ⟨hi, h⟩ := h
    refine rf_lald hx hb hK hT 11 (by decide) rfl hi (v := σ.2.2.2 11 p1.toNatClampNeg) rfl dX12_letter_11 ?_
    refine lv_bipush (v := 56) hx hb dX12_letter_12 (by decide) ?_
    refine lv_bipush (v := 8) hx hb dX12_letter_14 (by decide) ?_
    refine lv_iload_n hx hb dX12_letter_16 rfl (lv_at hl 2 rfl) ?_
    refine lv_imul hx hb dX12_letter_17 ?_
    refine lv_isub hx hb dX12_letter_18 ?_
    refine lv_lshr (v := (σ.2.2.2 11 p1.toNatClampNeg) >>> ((56 - (8 * p2)).toInt64 &&& 63)) hx hb dX12_letter_19 rfl ?_
    refine lv_goto (tgt := 40) hx hb dX12_letter_20 (by decide) ?_
    exact t_X12_letter_40 hC σ ((σ.2.2.2 11 p1.toNatClampNeg) >>> ((56 - (8 * p2)).toInt64 &&& 63)) _ _ _ h hT (lv_sub hl [] rfl)
/-! X12_event -/
abbrev rm_X12_event : Room := { frames := 1, cells := 0, slots := 0, locals := 22 }
def w_X12_event_96 (post : Int32 → rf_S → Prop) (σ : rf_S) (y0 : Int32) : Prop := post y0 σ
section
variable {p : Program} {l : Launch} {e : Env} {s : State} {m : MethodId} {args : Array Value} {below : List Frame} {meth : Method} {c : Code} {P : hw_G} {o : Nat} {ad : Nat → Nat}
set_option maxRecDepth 100000 in
set_option maxHeartbeats 4000000 in
theorem t_X12_event_96 {post : Int32 → rf_S → Prop} (hC : rf_C P RX12 p s m meth c cX12_event 4 (some .int)) (σ : rf_S) (y0 : Int32) (H : Heap) (locs : List Loc) (ls : Array Slot) (h : w_X12_event_96 post σ y0) (hT : rf_T P s (rf_A o ad) o ad σ H locs) (hl : lv_has ls 4 []) : W p l e rm_X12_event s m args below meth c H locs 0 0 (MQ below (rf_Qi P o ad post) args s 0 0 (rf_A o ad)) (F0 m 96 ls [.int y0]) := by
  obtain ⟨hx, hb, hml, hown, hK, -, -⟩ := id hC
  exact rf_iret hC hT h dX12_event_96
end
def w_X12_event_54 (post : Int32 → rf_S → Prop) (σ : rf_S) (x1 : Int32) (x2 : Int32) (x3 : Int32) : Prop := (¬ x2 = 0 → (¬ x2 = 1 → (¬ x2 = 2 → vp_in x1 (rf_n 10) ∧ w_X12_event_96 post σ (σ.2.2.1 10 x1.toNatClampNeg)) ∧ (x2 = 2 → vp_in x1 (rf_n 9) ∧ w_X12_event_96 post σ (σ.2.2.1 9 x1.toNatClampNeg))) ∧ (x2 = 1 → w_X12_event_96 post σ x3)) ∧ (x2 = 0 → vp_in x1 (rf_n 8) ∧ w_X12_event_96 post σ (σ.2.2.1 8 x1.toNatClampNeg))
section
variable {p : Program} {l : Launch} {e : Env} {s : State} {m : MethodId} {args : Array Value} {below : List Frame} {meth : Method} {c : Code} {P : hw_G} {o : Nat} {ad : Nat → Nat}
set_option maxRecDepth 100000 in
set_option maxHeartbeats 4000000 in
theorem t_X12_event_54 {post : Int32 → rf_S → Prop} (hC : rf_C P RX12 p s m meth c cX12_event 4 (some .int)) (σ : rf_S) (x1 : Int32) (x2 : Int32) (x3 : Int32) (H : Heap) (locs : List Loc) (ls : Array Slot) (h : w_X12_event_54 post σ x1 x2 x3) (hT : rf_T P s (rf_A o ad) o ad σ H locs) (hl : lv_has ls 4 [(0, .ref o), (1, .int x1), (2, .int x2), (3, .int x3)]) : W p l e rm_X12_event s m args below meth c H locs 0 0 (MQ below (rf_Qi P o ad post) args s 0 0 (rf_A o ad)) (F0 m 54 ls []) := by
  obtain ⟨hx, hb, hml, hown, hK, -, -⟩ := id hC
  refine lv_iload_n hx hb dX12_event_54 rfl (lv_at hl 2 rfl) ?_
  refine lv_if_ne (tgt := 67) hx hb dX12_event_55 (by decide) (fun hc => ?_) (fun hc => ?_)
  · have h := h.1 hc
    refine lv_iload_n hx hb dX12_event_67 rfl (lv_at hl 2 rfl) ?_
    refine lv_iconst (v := 1) hx hb dX12_event_68 (by decide) ?_
    refine lv_icmp_ne (tgt := 76) hx hb dX12_event_69 (by decide) (fun hc => ?_) (fun hc => ?_)
    · have h := h.1 hc
      refine lv_iload_n hx hb dX12_event_76 rfl (lv_at hl 2 rfl) ?_
      refine lv_iconst (v := 2) hx hb dX12_event_77 (by decide) ?_
      refine lv_icmp_ne (tgt := 90) hx hb dX12_event_78 (by decide) (fun hc => ?_) (fun hc => ?_)
      · have h := h.1 hc
        refine lv_aload_n hx hb dX12_event_90 rfl (lv_at hl 0 rfl) ?_
        refine rf_get hx hb hK hT hown 10 (by decide) kfX12_173 (v := .ref (ad 10)) rfl dX12_event_91 ?_
        refine lv_iload_n hx hb dX12_event_94 rfl (lv_at hl 1 rfl) ?_
        obtain ⟨hi, h⟩ := h
        refine rf_iald hx hb hK hT 10 (by decide) rfl hi (v := σ.2.2.1 10 x1.toNatClampNeg) rfl dX12_event_95 ?_
        exact t_X12_event_96 hC σ (σ.2.2.1 10 x1.toNatClampNeg) _ _ _ h hT (lv_sub hl [] rfl)
      · have h := h.2 hc
        refine lv_aload_n hx hb dX12_event_81 rfl (lv_at hl 0 rfl) ?_
        refine rf_get hx hb hK hT hown 9 (by decide) kfX12_97 (v := .ref (ad 9)) rfl dX12_event_82 ?_
        refine lv_iload_n hx hb dX12_event_85 rfl (lv_at hl 1 rfl) ?_
        obtain ⟨hi, h⟩ := h
        refine rf_iald hx hb hK hT 9 (by decide) rfl hi (v := σ.2.2.1 9 x1.toNatClampNeg) rfl dX12_event_86 ?_
        refine lv_goto (tgt := 96) hx hb dX12_event_87 (by decide) ?_
        exact t_X12_event_96 hC σ (σ.2.2.1 9 x1.toNatClampNeg) _ _ _ h hT (lv_sub hl [] rfl)
    · have h := h.2 hc
      refine lv_iload_n hx hb dX12_event_72 rfl (lv_at hl 3 rfl) ?_
      refine lv_goto (tgt := 96) hx hb dX12_event_73 (by decide) ?_
      exact t_X12_event_96 hC σ x3 _ _ _ h hT (lv_sub hl [] rfl)
  · have h := h.2 hc
    refine lv_aload_n hx hb dX12_event_58 rfl (lv_at hl 0 rfl) ?_
    refine rf_get hx hb hK hT hown 8 (by decide) kfX12_170 (v := .ref (ad 8)) rfl dX12_event_59 ?_
    refine lv_iload_n hx hb dX12_event_62 rfl (lv_at hl 1 rfl) ?_
    obtain ⟨hi, h⟩ := h
    refine rf_iald hx hb hK hT 8 (by decide) rfl hi (v := σ.2.2.1 8 x1.toNatClampNeg) rfl dX12_event_63 ?_
    refine lv_goto (tgt := 96) hx hb dX12_event_64 (by decide) ?_
    exact t_X12_event_96 hC σ (σ.2.2.1 8 x1.toNatClampNeg) _ _ _ h hT (lv_sub hl [] rfl)
end
def w_X12_event_33 (post : Int32 → rf_S → Prop) : Nat → rf_S → Int32 → Int32 → Int32 → Prop
  | 0, _, _, _, _ => False
  | n + 1, σ, x1, x2, x3 => (12 ≤ x3 → w_X12_event_54 post σ x1 x2 x3) ∧ (¬ 12 ≤ x3 → wp_X12_letter (fun r4 σ4 => (r4 ≤ 0 → w_X12_event_54 post σ4 x1 x2 x3) ∧ (¬ r4 ≤ 0 → w_X12_event_33 post n σ4 x1 x2 (x3 + 1))) σ x1 x3)
section
variable {p : Program} {l : Launch} {e : Env} {s : State} {m : MethodId} {args : Array Value} {below : List Frame} {meth : Method} {c : Code} {P : hw_G} {o : Nat} {ad : Nat → Nat}
set_option maxRecDepth 100000 in
set_option maxHeartbeats 4000000 in
theorem t_X12_event_33 {post : Int32 → rf_S → Prop} (hC : rf_C P RX12 p s m meth c cX12_event 4 (some .int)) : ∀ (n : Nat) (σ : rf_S) (x1 : Int32) (x2 : Int32) (x3 : Int32) (H : Heap) (locs : List Loc) (ls : Array Slot), w_X12_event_33 post n σ x1 x2 x3 → rf_T P s (rf_A o ad) o ad σ H locs → lv_has ls 4 [(0, .ref o), (1, .int x1), (2, .int x2), (3, .int x3)] → W p l e rm_X12_event s m args below meth c H locs 0 0 (MQ below (rf_Qi P o ad post) args s 0 0 (rf_A o ad)) (F0 m 33 ls []) := by
  obtain ⟨hx, hb, hml, hown, hK, -, -⟩ := id hC
  intro n
  induction n with
  | zero => intro σ x1 x2 x3 H locs ls h; exact False.elim h
  | succ n ih =>
    intro σ x1 x2 x3 H locs ls h hT hl
    refine lv_iload_n hx hb dX12_event_33 rfl (lv_at hl 3 rfl) ?_
    refine lv_bipush (v := 12) hx hb dX12_event_34 (by decide) ?_
    refine lv_icmp_ge (tgt := 54) hx hb dX12_event_36 (by decide) (fun hc => ?_) (fun hc => ?_)
    · have h := h.1 hc
      exact t_X12_event_54 hC σ x1 x2 x3 _ _ _ h hT (lv_sub hl [0, 1, 2, 3] rfl)
    · have h := h.2 hc
      refine lv_aload_n hx hb dX12_event_39 rfl (lv_at hl 0 rfl) ?_
      refine lv_iload_n hx hb dX12_event_40 rfl (lv_at hl 1 rfl) ?_
      refine lv_iload_n hx hb dX12_event_41 rfl (lv_at hl 3 rfl) ?_
      refine rf_calli (rf_runV hx hb hml hown hK hT (c_X12_letter h) rfl rfl klX12_520 ki_X12_letter ks_X12_letter kn_X12 kc_X12_letter 2 ⟨rfl, by decide, by decide, by decide +kernel⟩ ⟨by decide, by decide⟩ rfl hl.1 rfl (Nat.le_of_ble_eq_true rfl) ⟨Nat.le_refl _, Nat.le_refl _⟩ dX12_event_42) hT (fun r4 σ4 H locs h hT => ?_)
      refine lv_if_le (tgt := 54) hx hb dX12_event_45 (by decide) (fun hc => ?_) (fun hc => ?_)
      · have h := h.1 hc
        exact t_X12_event_54 hC σ4 x1 x2 x3 _ _ _ h hT (lv_sub hl [0, 1, 2, 3] rfl)
      · have h := h.2 hc
        refine lv_iinc (v := x3 + 1) (lv' := [(3, _), (0, _), (1, _), (2, _)]) hx hb dX12_event_48 hl (k := 3) rfl rfl (by decide) rfl (fun ls hl => ?_)
        refine lv_goto (tgt := 33) hx hb dX12_event_51 (by decide) ?_
        exact ih σ4 x1 x2 (x3 + 1) _ _ _ h hT (lv_sub hl [1, 2, 3, 0] rfl)
end
def w_X12_event_23 (post : Int32 → rf_S → Prop) (σ : rf_S) (x1 : Int32) (x2 : Int32) (y1 : Int32) : Prop := wp_X12_throwsIf (fun r5 σ5 => (r5 = 0 → ∃ n9, w_X12_event_33 post n9 σ5 x1 x2 0) ∧ (¬ r5 = 0 → post 0 σ5)) σ y1
section
variable {p : Program} {l : Launch} {e : Env} {s : State} {m : MethodId} {args : Array Value} {below : List Frame} {meth : Method} {c : Code} {P : hw_G} {o : Nat} {ad : Nat → Nat}
set_option maxRecDepth 100000 in
set_option maxHeartbeats 4000000 in
theorem t_X12_event_23 {post : Int32 → rf_S → Prop} (hC : rf_C P RX12 p s m meth c cX12_event 4 (some .int)) (σ : rf_S) (x1 : Int32) (x2 : Int32) (y1 : Int32) (H : Heap) (locs : List Loc) (ls : Array Slot) (h : w_X12_event_23 post σ x1 x2 y1) (hT : rf_T P s (rf_A o ad) o ad σ H locs) (hl : lv_has ls 4 [(0, .ref o), (1, .int x1), (2, .int x2)]) : W p l e rm_X12_event s m args below meth c H locs 0 0 (MQ below (rf_Qi P o ad post) args s 0 0 (rf_A o ad)) (F0 m 23 ls [.int y1, .ref o]) := by
  obtain ⟨hx, hb, hml, hown, hK, -, -⟩ := id hC
  refine rf_calli (rf_runV hx hb hml hown hK hT (c_X12_throwsIf h) rfl rfl klX12_507 ki_X12_throwsIf ks_X12_throwsIf kn_X12 kc_X12_throwsIf 1 ⟨rfl, by decide, by decide, by decide +kernel⟩ ⟨by decide, by decide⟩ rfl hl.1 rfl (Nat.le_of_ble_eq_true rfl) ⟨Nat.le_refl _, Nat.le_refl _⟩ dX12_event_23) hT (fun r5 σ5 H locs h hT => ?_)
  refine lv_if_eq (tgt := 31) hx hb dX12_event_26 (by decide) (fun hc => ?_) (fun hc => ?_)
  · have h := h.1 hc
    refine lv_iconst (v := 0) hx hb dX12_event_31 (by decide) ?_
    refine lv_istore_n (lv' := [(3, _), (0, _), (1, _), (2, _)]) hx hb dX12_event_32 rfl hl (by decide) rfl (fun ls hl => ?_)
    obtain ⟨n9, h⟩ := h
    exact t_X12_event_33 hC n9 σ5 x1 x2 0 _ _ _ h hT (lv_sub hl [1, 2, 3, 0] rfl)
  · have h := h.2 hc
    refine lv_iconst (v := 0) hx hb dX12_event_29 (by decide) ?_
    exact rf_iret hC hT h dX12_event_30
end
def w_X12_event_18 (post : Int32 → rf_S → Prop) (σ : rf_S) (x1 : Int32) (x2 : Int32) : Prop := w_X12_event_23 post σ x1 x2 1
section
variable {p : Program} {l : Launch} {e : Env} {s : State} {m : MethodId} {args : Array Value} {below : List Frame} {meth : Method} {c : Code} {P : hw_G} {o : Nat} {ad : Nat → Nat}
set_option maxRecDepth 100000 in
set_option maxHeartbeats 4000000 in
theorem t_X12_event_18 {post : Int32 → rf_S → Prop} (hC : rf_C P RX12 p s m meth c cX12_event 4 (some .int)) (σ : rf_S) (x1 : Int32) (x2 : Int32) (H : Heap) (locs : List Loc) (ls : Array Slot) (h : w_X12_event_18 post σ x1 x2) (hT : rf_T P s (rf_A o ad) o ad σ H locs) (hl : lv_has ls 4 [(0, .ref o), (1, .int x1), (2, .int x2)]) : W p l e rm_X12_event s m args below meth c H locs 0 0 (MQ below (rf_Qi P o ad post) args s 0 0 (rf_A o ad)) (F0 m 18 ls [.ref o]) := by
  obtain ⟨hx, hb, hml, hown, hK, -, -⟩ := id hC
  refine lv_iconst (v := 1) hx hb dX12_event_18 (by decide) ?_
  refine lv_goto (tgt := 23) hx hb dX12_event_19 (by decide) ?_
  exact t_X12_event_23 hC σ x1 x2 1 _ _ _ h hT (lv_sub hl [0, 1, 2] rfl)
end
def wp_X12_event (post : Int32 → rf_S → Prop) (σ : rf_S) (p1 : Int32) (p2 : Int32) : Prop := wp_X12_isLate (fun r6 σ6 => (r6 = 0 → w_X12_event_18 post σ6 p1 p2) ∧ (¬ r6 = 0 → (p2 < 0 → w_X12_event_18 post σ6 p1 p2) ∧ (¬ p2 < 0 → (p2 ≤ 3 → w_X12_event_23 post σ6 p1 p2 0) ∧ (¬ p2 ≤ 3 → w_X12_event_18 post σ6 p1 p2)))) σ p1
set_option maxRecDepth 100000 in
set_option maxHeartbeats 4000000 in
theorem c_X12_event {l : Launch} {P : hw_G} {o : Nat} {ad : Nat → Nat} {σ : rf_S} {p1 : Int32} {p2 : Int32} {post : Int32 → rf_S → Prop} (h : wp_X12_event post σ p1 p2) : Met l yX12_event [Cond.code yX12_event cX12_event 4 (some .int)] rm_X12_event (rf_Pc P o ad σ [.ref o, .int p1, .int p2]) (rf_Qi P o ad post) 0 0 (rf_A o ad) := by
  refine rf_met (by decide) rfl (Nat.le_of_ble_eq_true rfl) ?_
  intro p e s m below meth c ls hC hT hl
  obtain ⟨hx, hb, hml, hown, hK, -, -⟩ := id hC
  have hl : lv_has ls 4 [(0, .ref o), (1, .int p1), (2, .int p2)] := hl
  refine lv_aload_n hx hb dX12_event_0 rfl (lv_at hl 0 rfl) ?_
  refine lv_aload_n hx hb dX12_event_1 rfl (lv_at hl 0 rfl) ?_
  refine lv_iload_n hx hb dX12_event_2 rfl (lv_at hl 1 rfl) ?_
  refine rf_calli (rf_runV hx hb hml hown hK hT (c_X12_isLate h) rfl rfl klX12_517 ki_X12_isLate ks_X12_isLate kn_X12 kc_X12_isLate 1 ⟨rfl, by decide, by decide, by decide +kernel⟩ ⟨by decide, by decide⟩ rfl hl.1 rfl (Nat.le_of_ble_eq_true rfl) ⟨Nat.le_refl _, Nat.le_refl _⟩ dX12_event_3) hT (fun r6 σ6 H locs h hT => ?_)
  refine lv_if_eq (tgt := 18) hx hb dX12_event_6 (by decide) (fun hc => ?_) (fun hc => ?_)
  · have h := h.1 hc
    exact t_X12_event_18 hC σ6 p1 p2 _ _ _ h hT (lv_sub hl [0, 1, 2] rfl)
  · have h := h.2 hc
    refine lv_iload_n hx hb dX12_event_9 rfl (lv_at hl 2 rfl) ?_
    refine lv_if_lt (tgt := 18) hx hb dX12_event_10 (by decide) (fun hc => ?_) (fun hc => ?_)
    · have h := h.1 hc
      exact t_X12_event_18 hC σ6 p1 p2 _ _ _ h hT (lv_sub hl [0, 1, 2] rfl)
    · have h := h.2 hc
      refine lv_iload_n hx hb dX12_event_13 rfl (lv_at hl 2 rfl) ?_
      refine lv_iconst (v := 3) hx hb dX12_event_14 (by decide) ?_
      refine lv_icmp_le (tgt := 22) hx hb dX12_event_15 (by decide) (fun hc => ?_) (fun hc => ?_)
      · have h := h.1 hc
        refine lv_iconst (v := 0) hx hb dX12_event_22 (by decide) ?_
        exact t_X12_event_23 hC σ6 p1 p2 0 _ _ _ h hT (lv_sub hl [0, 1, 2] rfl)
      · have h := h.2 hc
        exact t_X12_event_18 hC σ6 p1 p2 _ _ _ h hT (lv_sub hl [0, 1, 2] rfl)
/-! X12_put -/
abbrev rm_X12_put : Room := { frames := 0, cells := 0, slots := 0, locals := 0 }
def wp_X12_put (post : rf_S → Prop) (σ : rf_S) (p1 : Int32) : Prop := vp_in (σ.1 85) (rf_n 84) ∧ post (rf_ui (rf_ua σ 84 (σ.1 85).toNatClampNeg (vp_nar .byte p1.toInt8.toInt32)) 85 ((σ.1 85) + 1))
set_option maxRecDepth 100000 in
set_option maxHeartbeats 4000000 in
theorem c_X12_put {l : Launch} {P : hw_G} {o : Nat} {ad : Nat → Nat} {σ : rf_S} {p1 : Int32} {post : rf_S → Prop} (h : wp_X12_put post σ p1) : Met l yX12_put [Cond.code yX12_put cX12_put 2 none] rm_X12_put (rf_Pc P o ad σ [.ref o, .int p1]) (rf_Qv P o ad post) 0 0 (rf_A o ad) := by
  refine rf_met (by decide) rfl (Nat.le_of_ble_eq_true rfl) ?_
  intro p e s m below meth c ls hC hT hl
  obtain ⟨hx, hb, hml, hown, hK, -, -⟩ := id hC
  have hl : lv_has ls 2 [(0, .ref o), (1, .int p1)] := hl
  refine lv_aload_n hx hb dX12_put_0 rfl (lv_at hl 0 rfl) ?_
  refine rf_get hx hb hK hT hown 84 (by decide) kfX12_296 (v := .ref (ad 84)) rfl dX12_put_1 ?_
  refine lv_aload_n hx hb dX12_put_4 rfl (lv_at hl 0 rfl) ?_
  refine rf_get hx hb hK hT hown 85 (by decide) kfX12_504 (v := .int (σ.1 85)) rfl dX12_put_5 ?_
  refine lv_iload_n hx hb dX12_put_8 rfl (lv_at hl 1 rfl) ?_
  refine lv_i2b (v := p1.toInt8.toInt32) hx hb dX12_put_9 rfl ?_
  obtain ⟨hi, h⟩ := h
  refine rf_bast hx hb hK hT 84 (by decide) rfl hi dX12_put_10 (fun H locs hT => ?_)
  refine lv_aload_n hx hb dX12_put_11 rfl (lv_at hl 0 rfl) ?_
  refine lv_dup hx hb dX12_put_12 rfl ?_
  refine rf_get hx hb hK hT hown 85 (by decide) kfX12_504 (v := .int (σ.1 85)) rfl dX12_put_13 ?_
  refine lv_iconst (v := 1) hx hb dX12_put_16 (by decide) ?_
  refine lv_iadd hx hb dX12_put_17 ?_
  refine rf_puti hx hb hK hT hown 85 (by decide) kfX12_504 rfl rfl dX12_put_18 (fun H locs hT => ?_)
  exact rf_vret hC hT h dX12_put_21
/-! X12_putUnsigned -/
abbrev rm_X12_putUnsigned : Room := { frames := 1, cells := 0, slots := 0, locals := 21 }
def w_X12_putUnsigned_2 (post : rf_S → Prop) : Nat → rf_S → Int64 → Prop
  | 0, _, _ => False
  | n + 1, σ, x3 => ((lg_cmp x3 127) ≤ 0 → wp_X12_put (fun σ3 => post σ3) σ x3.toInt32) ∧ (¬ (lg_cmp x3 127) ≤ 0 → wp_X12_put (fun σ4 => w_X12_putUnsigned_2 post n σ4 (x3 >>> ((7 : Int32).toInt64 &&& 63))) σ (((x3 &&& 127) ||| 128).toInt32))
section
variable {p : Program} {l : Launch} {e : Env} {s : State} {m : MethodId} {args : Array Value} {below : List Frame} {meth : Method} {c : Code} {P : hw_G} {o : Nat} {ad : Nat → Nat}
set_option maxRecDepth 100000 in
set_option maxHeartbeats 4000000 in
theorem t_X12_putUnsigned_2 {post : rf_S → Prop} (hC : rf_C P RX12 p s m meth c cX12_putUnsigned 5 none) : ∀ (n : Nat) (σ : rf_S) (x3 : Int64) (H : Heap) (locs : List Loc) (ls : Array Slot), w_X12_putUnsigned_2 post n σ x3 → rf_T P s (rf_A o ad) o ad σ H locs → lv_has ls 5 [(0, .ref o), (3, .long x3)] → W p l e rm_X12_putUnsigned s m args below meth c H locs 0 0 (MQ below (rf_Qv P o ad post) args s 0 0 (rf_A o ad)) (F0 m 2 ls []) := by
  obtain ⟨hx, hb, hml, hown, hK, -, -⟩ := id hC
  intro n
  induction n with
  | zero => intro σ x3 H locs ls h; exact False.elim h
  | succ n ih =>
    intro σ x3 H locs ls h hT hl
    refine lv_lload_n hx hb dX12_putUnsigned_2 rfl (lv_at hl 1 rfl) ?_
    refine lv_ldc2 (v := 127) hx hb hown (hK.word kkX12_525 rfl) dX12_putUnsigned_3 ?_
    refine W.lcmp hx hb dX12_putUnsigned_6 ?_
    refine lv_if_le (tgt := 32) hx hb dX12_putUnsigned_7 (by decide) (fun hc => ?_) (fun hc => ?_)
    · have h := h.1 hc
      refine lv_aload_n hx hb dX12_putUnsigned_32 rfl (lv_at hl 0 rfl) ?_
      refine lv_lload_n hx hb dX12_putUnsigned_33 rfl (lv_at hl 1 rfl) ?_
      refine lv_l2i (v := x3.toInt32) hx hb dX12_putUnsigned_34 rfl ?_
      refine rf_callv (rf_runV hx hb hml hown hK hT (c_X12_put h) rfl rfl klX12_529 ki_X12_put ks_X12_put kn_X12 kc_X12_put 1 ⟨rfl, by decide, by decide, by decide +kernel⟩ ⟨by decide, by decide⟩ rfl hl.1 rfl (Nat.le_of_ble_eq_true rfl) ⟨Nat.le_refl _, Nat.le_refl _⟩ dX12_putUnsigned_35) hT (fun σ3 H locs h hT => ?_)
      exact rf_vret hC hT h dX12_putUnsigned_38
    · have h := h.2 hc
      refine lv_aload_n hx hb dX12_putUnsigned_10 rfl (lv_at hl 0 rfl) ?_
      refine lv_lload_n hx hb dX12_putUnsigned_11 rfl (lv_at hl 1 rfl) ?_
      refine lv_ldc2 (v := 127) hx hb hown (hK.word kkX12_525 rfl) dX12_putUnsigned_12 ?_
      refine lv_land hx hb dX12_putUnsigned_15 ?_
      refine lv_ldc2 (v := 128) hx hb hown (hK.word kkX12_527 rfl) dX12_putUnsigned_16 ?_
      refine lv_lor hx hb dX12_putUnsigned_19 ?_
      refine lv_l2i (v := ((x3 &&& 127) ||| 128).toInt32) hx hb dX12_putUnsigned_20 rfl ?_
      refine rf_callv (rf_runV hx hb hml hown hK hT (c_X12_put h) rfl rfl klX12_529 ki_X12_put ks_X12_put kn_X12 kc_X12_put 1 ⟨rfl, by decide, by decide, by decide +kernel⟩ ⟨by decide, by decide⟩ rfl hl.1 rfl (Nat.le_of_ble_eq_true rfl) ⟨Nat.le_refl _, Nat.le_refl _⟩ dX12_putUnsigned_21) hT (fun σ4 H locs h hT => ?_)
      refine lv_lload_n hx hb dX12_putUnsigned_24 rfl (lv_at hl 1 rfl) ?_
      refine lv_bipush (v := 7) hx hb dX12_putUnsigned_25 (by decide) ?_
      refine lv_lshr (v := x3 >>> ((7 : Int32).toInt64 &&& 63)) hx hb dX12_putUnsigned_27 rfl ?_
      refine lv_lstore_n (lv' := [(3, _), (0, _)]) hx hb dX12_putUnsigned_28 rfl hl (by decide) rfl (fun ls hl => ?_)
      refine lv_goto (tgt := 2) hx hb dX12_putUnsigned_29 (by decide) ?_
      exact ih σ4 (x3 >>> ((7 : Int32).toInt64 &&& 63)) _ _ _ h hT (lv_sub hl [1, 0] rfl)
end
def wp_X12_putUnsigned (post : rf_S → Prop) (σ : rf_S) (p1 : Int64) : Prop := ∃ n9, w_X12_putUnsigned_2 post n9 σ p1
set_option maxRecDepth 100000 in
set_option maxHeartbeats 4000000 in
theorem c_X12_putUnsigned {l : Launch} {P : hw_G} {o : Nat} {ad : Nat → Nat} {σ : rf_S} {p1 : Int64} {post : rf_S → Prop} (h : wp_X12_putUnsigned post σ p1) : Met l yX12_putUnsigned [Cond.code yX12_putUnsigned cX12_putUnsigned 5 none] rm_X12_putUnsigned (rf_Pc P o ad σ [.ref o, .long p1]) (rf_Qv P o ad post) 0 0 (rf_A o ad) := by
  refine rf_met (by decide) rfl (Nat.le_of_ble_eq_true rfl) ?_
  intro p e s m below meth c ls hC hT hl
  obtain ⟨hx, hb, hml, hown, hK, -, -⟩ := id hC
  have hl : lv_has ls 5 [(0, .ref o), (1, .long p1)] := hl
  refine lv_lload_n hx hb dX12_putUnsigned_0 rfl (lv_at hl 1 rfl) ?_
  refine lv_lstore_n (lv' := [(3, _), (0, _), (1, _)]) hx hb dX12_putUnsigned_1 rfl hl (by decide) rfl (fun ls hl => ?_)
  obtain ⟨n9, h⟩ := h
  exact t_X12_putUnsigned_2 hC n9 σ p1 _ _ _ h hT (lv_sub hl [1, 0] rfl)
/-! X12_putField -/
abbrev rm_X12_putField : Room := { frames := 2, cells := 0, slots := 0, locals := 45 }
def w_X12_putField_221 (post : rf_S → Prop) (σ : rf_S)  : Prop := post σ
section
variable {p : Program} {l : Launch} {e : Env} {s : State} {m : MethodId} {args : Array Value} {below : List Frame} {meth : Method} {c : Code} {P : hw_G} {o : Nat} {ad : Nat → Nat}
set_option maxRecDepth 100000 in
set_option maxHeartbeats 4000000 in
theorem t_X12_putField_221 {post : rf_S → Prop} (hC : rf_C P RX12 p s m meth c cX12_putField 4 none) (σ : rf_S)  (H : Heap) (locs : List Loc) (ls : Array Slot) (h : w_X12_putField_221 post σ ) (hT : rf_T P s (rf_A o ad) o ad σ H locs) (hl : lv_has ls 4 []) : W p l e rm_X12_putField s m args below meth c H locs 0 0 (MQ below (rf_Qv P o ad post) args s 0 0 (rf_A o ad)) (F0 m 221 ls []) := by
  obtain ⟨hx, hb, hml, hown, hK, -, -⟩ := id hC
  exact rf_vret hC hT h dX12_putField_221
end
def w_X12_putField_199 (post : rf_S → Prop) : Nat → rf_S → Int32 → Int32 → Prop
  | 0, _, _, _ => False
  | n + 1, σ, x1, x3 => (x3 < 0 → w_X12_putField_221 post σ) ∧ (¬ x3 < 0 → vp_in x1 (rf_n 15) ∧ wp_X12_put (fun σ8 => w_X12_putField_199 post n σ8 x1 (x3 + (-8))) σ ((σ.2.2.1 15 x1.toNatClampNeg) >>> (x3 &&& 31)))
section
variable {p : Program} {l : Launch} {e : Env} {s : State} {m : MethodId} {args : Array Value} {below : List Frame} {meth : Method} {c : Code} {P : hw_G} {o : Nat} {ad : Nat → Nat}
set_option maxRecDepth 100000 in
set_option maxHeartbeats 4000000 in
theorem t_X12_putField_199 {post : rf_S → Prop} (hC : rf_C P RX12 p s m meth c cX12_putField 4 none) : ∀ (n : Nat) (σ : rf_S) (x1 : Int32) (x3 : Int32) (H : Heap) (locs : List Loc) (ls : Array Slot), w_X12_putField_199 post n σ x1 x3 → rf_T P s (rf_A o ad) o ad σ H locs → lv_has ls 4 [(0, .ref o), (1, .int x1), (3, .int x3)] → W p l e rm_X12_putField s m args below meth c H locs 0 0 (MQ below (rf_Qv P o ad post) args s 0 0 (rf_A o ad)) (F0 m 199 ls []) := by
  obtain ⟨hx, hb, hml, hown, hK, -, -⟩ := id hC
  intro n
  induction n with
  | zero => intro σ x1 x3 H locs ls h; exact False.elim h
  | succ n ih =>
    intro σ x1 x3 H locs ls h hT hl
    refine lv_iload_n hx hb dX12_putField_199 rfl (lv_at hl 2 rfl) ?_
    refine lv_if_lt (tgt := 221) hx hb dX12_putField_200 (by decide) (fun hc => ?_) (fun hc => ?_)
    · have h := h.1 hc
      exact t_X12_putField_221 hC σ _ _ _ h hT (lv_sub hl [] rfl)
    · have h := h.2 hc
      refine lv_aload_n hx hb dX12_putField_203 rfl (lv_at hl 0 rfl) ?_
      refine lv_aload_n hx hb dX12_putField_204 rfl (lv_at hl 0 rfl) ?_
      refine rf_get hx hb hK hT hown 15 (by decide) kfX12_30 (v := .ref (ad 15)) rfl dX12_putField_205 ?_
      refine lv_iload_n hx hb dX12_putField_208 rfl (lv_at hl 1 rfl) ?_
      obtain ⟨hi, h⟩ := h
      refine rf_iald hx hb hK hT 15 (by decide) rfl hi (v := σ.2.2.1 15 x1.toNatClampNeg) rfl dX12_putField_209 ?_
      refine lv_iload_n hx hb dX12_putField_210 rfl (lv_at hl 2 rfl) ?_
      refine lv_ishr hx hb dX12_putField_211 ?_
      refine rf_callv (rf_runV hx hb hml hown hK hT (c_X12_put h) rfl rfl klX12_529 ki_X12_put ks_X12_put kn_X12 kc_X12_put 1 ⟨rfl, by decide, by decide, by decide +kernel⟩ ⟨by decide, by decide⟩ rfl hl.1 rfl (Nat.le_of_ble_eq_true rfl) ⟨Nat.le_refl _, Nat.le_refl _⟩ dX12_putField_212) hT (fun σ8 H locs h hT => ?_)
      refine lv_iinc (v := x3 + (-8)) (lv' := [(3, _), (0, _), (1, _)]) hx hb dX12_putField_215 hl (k := 2) rfl rfl (by decide) rfl (fun ls hl => ?_)
      refine lv_goto (tgt := 199) hx hb dX12_putField_218 (by decide) ?_
      exact ih σ8 x1 (x3 + (-8)) _ _ _ h hT (lv_sub hl [1, 2, 0] rfl)
end
def w_X12_putField_186 (post : rf_S → Prop) (σ : rf_S) (x1 : Int32) : Prop := vp_in x1 (rf_n 14) ∧ (¬ (σ.2.2.1 14 x1.toNatClampNeg) = 2 → w_X12_putField_221 post σ) ∧ ((σ.2.2.1 14 x1.toNatClampNeg) = 2 → ∃ n9, w_X12_putField_199 post n9 σ x1 24)
section
variable {p : Program} {l : Launch} {e : Env} {s : State} {m : MethodId} {args : Array Value} {below : List Frame} {meth : Method} {c : Code} {P : hw_G} {o : Nat} {ad : Nat → Nat}
set_option maxRecDepth 100000 in
set_option maxHeartbeats 4000000 in
theorem t_X12_putField_186 {post : rf_S → Prop} (hC : rf_C P RX12 p s m meth c cX12_putField 4 none) (σ : rf_S) (x1 : Int32) (H : Heap) (locs : List Loc) (ls : Array Slot) (h : w_X12_putField_186 post σ x1) (hT : rf_T P s (rf_A o ad) o ad σ H locs) (hl : lv_has ls 4 [(0, .ref o), (1, .int x1)]) : W p l e rm_X12_putField s m args below meth c H locs 0 0 (MQ below (rf_Qv P o ad post) args s 0 0 (rf_A o ad)) (F0 m 186 ls []) := by
  obtain ⟨hx, hb, hml, hown, hK, -, -⟩ := id hC
  refine lv_aload_n hx hb dX12_putField_186 rfl (lv_at hl 0 rfl) ?_
  refine rf_get hx hb hK hT hown 14 (by decide) kfX12_27 (v := .ref (ad 14)) rfl dX12_putField_187 ?_
  refine lv_iload_n hx hb dX12_putField_190 rfl (lv_at hl 1 rfl) ?_
  obtain ⟨hi, h⟩ := h
  refine rf_bald hx hb hK hT 14 (by decide) rfl hi (v := σ.2.2.1 14 x1.toNatClampNeg) rfl dX12_putField_191 ?_
  refine lv_iconst (v := 2) hx hb dX12_putField_192 (by decide) ?_
  refine lv_icmp_ne (tgt := 221) hx hb dX12_putField_193 (by decide) (fun hc => ?_) (fun hc => ?_)
  · have h := h.1 hc
    exact t_X12_putField_221 hC σ _ _ _ h hT (lv_sub hl [] rfl)
  · have h := h.2 hc
    refine lv_bipush (v := 24) hx hb dX12_putField_196 (by decide) ?_
    refine lv_istore_n (lv' := [(3, _), (0, _), (1, _)]) hx hb dX12_putField_198 rfl hl (by decide) rfl (fun ls hl => ?_)
    obtain ⟨n9, h⟩ := h
    exact t_X12_putField_199 hC n9 σ x1 24 _ _ _ h hT (lv_sub hl [1, 2, 0] rfl)
end
def w_X12_putField_153 (post : rf_S → Prop) : Nat → rf_S → Int32 → Int32 → Prop
  | 0, _, _, _ => False
  | n + 1, σ, x1, x3 => vp_in x1 (rf_n 15) ∧ ((σ.2.2.1 15 x1.toNatClampNeg) ≤ x3 → w_X12_putField_186 post σ x1) ∧ (¬ (σ.2.2.1 15 x1.toNatClampNeg) ≤ x3 → vp_in x1 (rf_n 16) ∧ vp_in ((σ.2.2.1 16 x1.toNatClampNeg) + x3) (rf_n 18) ∧ wp_X12_put (fun σ9 => w_X12_putField_153 post n σ9 x1 (x3 + 1)) σ (σ.2.2.1 18 ((σ.2.2.1 16 x1.toNatClampNeg) + x3).toNatClampNeg))
section
variable {p : Program} {l : Launch} {e : Env} {s : State} {m : MethodId} {args : Array Value} {below : List Frame} {meth : Method} {c : Code} {P : hw_G} {o : Nat} {ad : Nat → Nat}
set_option maxRecDepth 100000 in
set_option maxHeartbeats 4000000 in
theorem t_X12_putField_153 {post : rf_S → Prop} (hC : rf_C P RX12 p s m meth c cX12_putField 4 none) : ∀ (n : Nat) (σ : rf_S) (x1 : Int32) (x3 : Int32) (H : Heap) (locs : List Loc) (ls : Array Slot), w_X12_putField_153 post n σ x1 x3 → rf_T P s (rf_A o ad) o ad σ H locs → lv_has ls 4 [(0, .ref o), (1, .int x1), (3, .int x3)] → W p l e rm_X12_putField s m args below meth c H locs 0 0 (MQ below (rf_Qv P o ad post) args s 0 0 (rf_A o ad)) (F0 m 153 ls []) := by
  obtain ⟨hx, hb, hml, hown, hK, -, -⟩ := id hC
  intro n
  induction n with
  | zero => intro σ x1 x3 H locs ls h; exact False.elim h
  | succ n ih =>
    intro σ x1 x3 H locs ls h hT hl
    refine lv_iload_n hx hb dX12_putField_153 rfl (lv_at hl 2 rfl) ?_
    refine lv_aload_n hx hb dX12_putField_154 rfl (lv_at hl 0 rfl) ?_
    refine rf_get hx hb hK hT hown 15 (by decide) kfX12_30 (v := .ref (ad 15)) rfl dX12_putField_155 ?_
    refine lv_iload_n hx hb dX12_putField_158 rfl (lv_at hl 1 rfl) ?_
    obtain ⟨hi, h⟩ := h
    refine rf_iald hx hb hK hT 15 (by decide) rfl hi (v := σ.2.2.1 15 x1.toNatClampNeg) rfl dX12_putField_159 ?_
    refine lv_icmp_ge (tgt := 186) hx hb dX12_putField_160 (by decide) (fun hc => ?_) (fun hc => ?_)
    · have h := h.1 hc
      exact t_X12_putField_186 hC σ x1 _ _ _ h hT (lv_sub hl [0, 1] rfl)
    · have h := h.2 hc
      refine lv_aload_n hx hb dX12_putField_163 rfl (lv_at hl 0 rfl) ?_
      refine lv_aload_n hx hb dX12_putField_164 rfl (lv_at hl 0 rfl) ?_
      refine rf_get hx hb hK hT hown 18 (by decide) kfX12_34 (v := .ref (ad 18)) rfl dX12_putField_165 ?_
      refine lv_aload_n hx hb dX12_putField_168 rfl (lv_at hl 0 rfl) ?_
      refine rf_get hx hb hK hT hown 16 (by decide) kfX12_37 (v := .ref (ad 16)) rfl dX12_putField_169 ?_
      refine lv_iload_n hx hb dX12_putField_172 rfl (lv_at hl 1 rfl) ?_
      obtain ⟨hi, h⟩ := h
      refine rf_iald hx hb hK hT 16 (by decide) rfl hi (v := σ.2.2.1 16 x1.toNatClampNeg) rfl dX12_putField_173 ?_
      refine lv_iload_n hx hb dX12_putField_174 rfl (lv_at hl 2 rfl) ?_
      refine lv_iadd hx hb dX12_putField_175 ?_
      obtain ⟨hi, h⟩ := h
      refine rf_bald hx hb hK hT 18 (by decide) rfl hi (v := σ.2.2.1 18 ((σ.2.2.1 16 x1.toNatClampNeg) + x3).toNatClampNeg) rfl dX12_putField_176 ?_
      refine rf_callv (rf_runV hx hb hml hown hK hT (c_X12_put h) rfl rfl klX12_529 ki_X12_put ks_X12_put kn_X12 kc_X12_put 1 ⟨rfl, by decide, by decide, by decide +kernel⟩ ⟨by decide, by decide⟩ rfl hl.1 rfl (Nat.le_of_ble_eq_true rfl) ⟨Nat.le_refl _, Nat.le_refl _⟩ dX12_putField_177) hT (fun σ9 H locs h hT => ?_)
      refine lv_iinc (v := x3 + 1) (lv' := [(3, _), (0, _), (1, _)]) hx hb dX12_putField_180 hl (k := 2) rfl rfl (by decide) rfl (fun ls hl => ?_)
      refine lv_goto (tgt := 153) hx hb dX12_putField_183 (by decide) ?_
      exact ih σ9 x1 (x3 + 1) _ _ _ h hT (lv_sub hl [1, 2, 0] rfl)
end
def w_X12_putField_131 (post : rf_S → Prop) (σ : rf_S) (x1 : Int32) : Prop := vp_in x1 (rf_n 14) ∧ (¬ (σ.2.2.1 14 x1.toNatClampNeg) = 1 → w_X12_putField_186 post σ x1) ∧ ((σ.2.2.1 14 x1.toNatClampNeg) = 1 → vp_in x1 (rf_n 15) ∧ wp_X12_put (fun σ10 => ∃ n9, w_X12_putField_153 post n9 σ10 x1 0) σ (σ.2.2.1 15 x1.toNatClampNeg))
section
variable {p : Program} {l : Launch} {e : Env} {s : State} {m : MethodId} {args : Array Value} {below : List Frame} {meth : Method} {c : Code} {P : hw_G} {o : Nat} {ad : Nat → Nat}
set_option maxRecDepth 100000 in
set_option maxHeartbeats 4000000 in
theorem t_X12_putField_131 {post : rf_S → Prop} (hC : rf_C P RX12 p s m meth c cX12_putField 4 none) (σ : rf_S) (x1 : Int32) (H : Heap) (locs : List Loc) (ls : Array Slot) (h : w_X12_putField_131 post σ x1) (hT : rf_T P s (rf_A o ad) o ad σ H locs) (hl : lv_has ls 4 [(0, .ref o), (1, .int x1)]) : W p l e rm_X12_putField s m args below meth c H locs 0 0 (MQ below (rf_Qv P o ad post) args s 0 0 (rf_A o ad)) (F0 m 131 ls []) := by
  obtain ⟨hx, hb, hml, hown, hK, -, -⟩ := id hC
  refine lv_aload_n hx hb dX12_putField_131 rfl (lv_at hl 0 rfl) ?_
  refine rf_get hx hb hK hT hown 14 (by decide) kfX12_27 (v := .ref (ad 14)) rfl dX12_putField_132 ?_
  refine lv_iload_n hx hb dX12_putField_135 rfl (lv_at hl 1 rfl) ?_
  obtain ⟨hi, h⟩ := h
  refine rf_bald hx hb hK hT 14 (by decide) rfl hi (v := σ.2.2.1 14 x1.toNatClampNeg) rfl dX12_putField_136 ?_
  refine lv_iconst (v := 1) hx hb dX12_putField_137 (by decide) ?_
  refine lv_icmp_ne (tgt := 186) hx hb dX12_putField_138 (by decide) (fun hc => ?_) (fun hc => ?_)
  · have h := h.1 hc
    exact t_X12_putField_186 hC σ x1 _ _ _ h hT (lv_sub hl [0, 1] rfl)
  · have h := h.2 hc
    refine lv_aload_n hx hb dX12_putField_141 rfl (lv_at hl 0 rfl) ?_
    refine lv_aload_n hx hb dX12_putField_142 rfl (lv_at hl 0 rfl) ?_
    refine rf_get hx hb hK hT hown 15 (by decide) kfX12_30 (v := .ref (ad 15)) rfl dX12_putField_143 ?_
    refine lv_iload_n hx hb dX12_putField_146 rfl (lv_at hl 1 rfl) ?_
    obtain ⟨hi, h⟩ := h
    refine rf_iald hx hb hK hT 15 (by decide) rfl hi (v := σ.2.2.1 15 x1.toNatClampNeg) rfl dX12_putField_147 ?_
    refine rf_callv (rf_runV hx hb hml hown hK hT (c_X12_put h) rfl rfl klX12_529 ki_X12_put ks_X12_put kn_X12 kc_X12_put 1 ⟨rfl, by decide, by decide, by decide +kernel⟩ ⟨by decide, by decide⟩ rfl hl.1 rfl (Nat.le_of_ble_eq_true rfl) ⟨Nat.le_refl _, Nat.le_refl _⟩ dX12_putField_148) hT (fun σ10 H locs h hT => ?_)
    refine lv_iconst (v := 0) hx hb dX12_putField_151 (by decide) ?_
    refine lv_istore_n (lv' := [(3, _), (0, _), (1, _)]) hx hb dX12_putField_152 rfl hl (by decide) rfl (fun ls hl => ?_)
    obtain ⟨n9, h⟩ := h
    exact t_X12_putField_153 hC n9 σ10 x1 0 _ _ _ h hT (lv_sub hl [1, 2, 0] rfl)
end
def w_X12_putField_127 (post : rf_S → Prop) (σ : rf_S) (x1 : Int32) (y1 : Int64) (y2 : Int64) : Prop := wp_X12_putUnsigned (fun σ11 => w_X12_putField_131 post σ11 x1) σ (y1 ^^^ y2)
section
variable {p : Program} {l : Launch} {e : Env} {s : State} {m : MethodId} {args : Array Value} {below : List Frame} {meth : Method} {c : Code} {P : hw_G} {o : Nat} {ad : Nat → Nat}
set_option maxRecDepth 100000 in
set_option maxHeartbeats 4000000 in
theorem t_X12_putField_127 {post : rf_S → Prop} (hC : rf_C P RX12 p s m meth c cX12_putField 4 none) (σ : rf_S) (x1 : Int32) (y1 : Int64) (y2 : Int64) (H : Heap) (locs : List Loc) (ls : Array Slot) (h : w_X12_putField_127 post σ x1 y1 y2) (hT : rf_T P s (rf_A o ad) o ad σ H locs) (hl : lv_has ls 4 [(0, .ref o), (1, .int x1)]) : W p l e rm_X12_putField s m args below meth c H locs 0 0 (MQ below (rf_Qv P o ad post) args s 0 0 (rf_A o ad)) (F0 m 127 ls [.long y2, .long y1, .ref o]) := by
  obtain ⟨hx, hb, hml, hown, hK, -, -⟩ := id hC
  refine lv_lxor hx hb dX12_putField_127 ?_
  refine rf_callv (rf_runV hx hb hml hown hK hT (c_X12_putUnsigned h) rfl rfl klX12_532 ki_X12_putUnsigned ks_X12_putUnsigned kn_X12 kc_X12_putUnsigned 1 ⟨rfl, by decide, by decide, by decide +kernel⟩ ⟨by decide, by decide⟩ rfl hl.1 rfl (Nat.le_of_ble_eq_true rfl) ⟨Nat.le_refl _, Nat.le_refl _⟩ dX12_putField_128) hT (fun σ11 H locs h hT => ?_)
  exact t_X12_putField_131 hC σ11 x1 _ _ _ h hT (lv_sub hl [0, 1] rfl)
end
def w_X12_putField_44 (post : rf_S → Prop) : Nat → rf_S → Int32 → Int32 → Int32 → Prop
  | 0, _, _, _, _ => False
  | n + 1, σ, x1, x2, x3 => (x2 ≤ x3 → vp_in x1 (rf_n 14) ∧ wp_X12_put (fun σ12 => vp_in x1 (rf_n 14) ∧ (¬ (σ12.2.2.1 14 x1.toNatClampNeg) = 0 → w_X12_putField_131 post σ12 x1) ∧ ((σ12.2.2.1 14 x1.toNatClampNeg) = 0 → vp_in x1 (rf_n 15) ∧ vp_in x1 (rf_n 15) ∧ (0 ≤ (σ12.2.2.1 15 x1.toNatClampNeg) → w_X12_putField_127 post σ12 x1 ((((σ12.2.2.1 15 x1.toNatClampNeg).toInt64) <<< ((1 : Int32).toInt64 &&& 63)) &&& 4294967295) 0) ∧ (¬ 0 ≤ (σ12.2.2.1 15 x1.toNatClampNeg) → w_X12_putField_127 post σ12 x1 ((((σ12.2.2.1 15 x1.toNatClampNeg).toInt64) <<< ((1 : Int32).toInt64 &&& 63)) &&& 4294967295) 4294967295))) σ (σ.2.2.1 14 x1.toNatClampNeg)) ∧ (¬ x2 ≤ x3 → vp_in x1 (rf_n 13) ∧ wp_X12_put (fun σ13 => w_X12_putField_44 post n σ13 x1 x2 (x3 + 1)) σ ((((σ.2.2.2 13 x1.toNatClampNeg) >>> ((56 - (8 * x3)).toInt64 &&& 63)) &&& 255).toInt32))
section
variable {p : Program} {l : Launch} {e : Env} {s : State} {m : MethodId} {args : Array Value} {below : List Frame} {meth : Method} {c : Code} {P : hw_G} {o : Nat} {ad : Nat → Nat}
set_option maxRecDepth 100000 in
set_option maxHeartbeats 4000000 in
theorem t_X12_putField_44 {post : rf_S → Prop} (hC : rf_C P RX12 p s m meth c cX12_putField 4 none) : ∀ (n : Nat) (σ : rf_S) (x1 : Int32) (x2 : Int32) (x3 : Int32) (H : Heap) (locs : List Loc) (ls : Array Slot), w_X12_putField_44 post n σ x1 x2 x3 → rf_T P s (rf_A o ad) o ad σ H locs → lv_has ls 4 [(0, .ref o), (1, .int x1), (2, .int x2), (3, .int x3)] → W p l e rm_X12_putField s m args below meth c H locs 0 0 (MQ below (rf_Qv P o ad post) args s 0 0 (rf_A o ad)) (F0 m 44 ls []) := by
  obtain ⟨hx, hb, hml, hown, hK, -, -⟩ := id hC
  intro n
  induction n with
  | zero => intro σ x1 x2 x3 H locs ls h; exact False.elim h
  | succ n ih =>
    intro σ x1 x2 x3 H locs ls h hT hl
    refine lv_iload_n hx hb dX12_putField_44 rfl (lv_at hl 3 rfl) ?_
    refine lv_iload_n hx hb dX12_putField_45 rfl (lv_at hl 2 rfl) ?_
    refine lv_icmp_ge (tgt := 78) hx hb dX12_putField_46 (by decide) (fun hc => ?_) (fun hc => ?_)
    · have h := h.1 hc
      refine lv_aload_n hx hb dX12_putField_78 rfl (lv_at hl 0 rfl) ?_
      refine lv_aload_n hx hb dX12_putField_79 rfl (lv_at hl 0 rfl) ?_
      refine rf_get hx hb hK hT hown 14 (by decide) kfX12_27 (v := .ref (ad 14)) rfl dX12_putField_80 ?_
      refine lv_iload_n hx hb dX12_putField_83 rfl (lv_at hl 1 rfl) ?_
      obtain ⟨hi, h⟩ := h
      refine rf_bald hx hb hK hT 14 (by decide) rfl hi (v := σ.2.2.1 14 x1.toNatClampNeg) rfl dX12_putField_84 ?_
      refine rf_callv (rf_runV hx hb hml hown hK hT (c_X12_put h) rfl rfl klX12_529 ki_X12_put ks_X12_put kn_X12 kc_X12_put 1 ⟨rfl, by decide, by decide, by decide +kernel⟩ ⟨by decide, by decide⟩ rfl hl.1 rfl (Nat.le_of_ble_eq_true rfl) ⟨Nat.le_refl _, Nat.le_refl _⟩ dX12_putField_85) hT (fun σ12 H locs h hT => ?_)
      refine lv_aload_n hx hb dX12_putField_88 rfl (lv_at hl 0 rfl) ?_
      refine rf_get hx hb hK hT hown 14 (by decide) kfX12_27 (v := .ref (ad 14)) rfl dX12_putField_89 ?_
      refine lv_iload_n hx hb dX12_putField_92 rfl (lv_at hl 1 rfl) ?_
      obtain ⟨hi, h⟩ := h
      refine rf_bald hx hb hK hT 14 (by decide) rfl hi (v := σ12.2.2.1 14 x1.toNatClampNeg) rfl dX12_putField_93 ?_
      refine lv_if_ne (tgt := 131) hx hb dX12_putField_94 (by decide) (fun hc => ?_) (fun hc => ?_)
      · have h := h.1 hc
        exact t_X12_putField_131 hC σ12 x1 _ _ _ h hT (lv_sub hl [0, 1] rfl)
      · have h := h.2 hc
        refine lv_aload_n hx hb dX12_putField_97 rfl (lv_at hl 0 rfl) ?_
        refine lv_aload_n hx hb dX12_putField_98 rfl (lv_at hl 0 rfl) ?_
        refine rf_get hx hb hK hT hown 15 (by decide) kfX12_30 (v := .ref (ad 15)) rfl dX12_putField_99 ?_
        refine lv_iload_n hx hb dX12_putField_102 rfl (lv_at hl 1 rfl) ?_
        obtain ⟨hi, h⟩ := h
        refine rf_iald hx hb hK hT 15 (by decide) rfl hi (v := σ12.2.2.1 15 x1.toNatClampNeg) rfl dX12_putField_103 ?_
        refine lv_i2l (v := (σ12.2.2.1 15 x1.toNatClampNeg).toInt64) hx hb dX12_putField_104 rfl ?_
        refine lv_iconst (v := 1) hx hb dX12_putField_105 (by decide) ?_
        refine lv_lshl (v := ((σ12.2.2.1 15 x1.toNatClampNeg).toInt64) <<< ((1 : Int32).toInt64 &&& 63)) hx hb dX12_putField_106 rfl ?_
        refine lv_ldc2 (v := 4294967295) hx hb hown (hK.word kkX12_118 rfl) dX12_putField_107 ?_
        refine lv_land hx hb dX12_putField_110 ?_
        refine lv_aload_n hx hb dX12_putField_111 rfl (lv_at hl 0 rfl) ?_
        refine rf_get hx hb hK hT hown 15 (by decide) kfX12_30 (v := .ref (ad 15)) rfl dX12_putField_112 ?_
        refine lv_iload_n hx hb dX12_putField_115 rfl (lv_at hl 1 rfl) ?_
        obtain ⟨hi, h⟩ := h
        refine rf_iald hx hb hK hT 15 (by decide) rfl hi (v := σ12.2.2.1 15 x1.toNatClampNeg) rfl dX12_putField_116 ?_
        refine lv_if_ge (tgt := 126) hx hb dX12_putField_117 (by decide) (fun hc => ?_) (fun hc => ?_)
        · have h := h.1 hc
          refine lv_lconst (v := 0) hx hb dX12_putField_126 (by decide) ?_
          exact t_X12_putField_127 hC σ12 x1 ((((σ12.2.2.1 15 x1.toNatClampNeg).toInt64) <<< ((1 : Int32).toInt64 &&& 63)) &&& 4294967295) 0 _ _ _ h hT (lv_sub hl [0, 1] rfl)
        · have h := h.2 hc
          refine lv_ldc2 (v := 4294967295) hx hb hown (hK.word kkX12_118 rfl) dX12_putField_120 ?_
          refine lv_goto (tgt := 127) hx hb dX12_putField_123 (by decide) ?_
          exact t_X12_putField_127 hC σ12 x1 ((((σ12.2.2.1 15 x1.toNatClampNeg).toInt64) <<< ((1 : Int32).toInt64 &&& 63)) &&& 4294967295) 4294967295 _ _ _ h hT (lv_sub hl [0, 1] rfl)
    · have h := h.2 hc
      refine lv_aload_n hx hb dX12_putField_49 rfl (lv_at hl 0 rfl) ?_
      refine lv_aload_n hx hb dX12_putField_50 rfl (lv_at hl 0 rfl) ?_
      refine rf_get hx hb hK hT hown 13 (by decide) kfX12_100 (v := .ref (ad 13)) rfl dX12_putField_51 ?_
      refine lv_iload_n hx hb dX12_putField_54 rfl (lv_at hl 1 rfl) ?_
      obtain ⟨hi, h⟩ := h
      refine rf_lald hx hb hK hT 13 (by decide) rfl hi (v := σ.2.2.2 13 x1.toNatClampNeg) rfl dX12_putField_55 ?_
      refine lv_bipush (v := 56) hx hb dX12_putField_56 (by decide) ?_
      refine lv_bipush (v := 8) hx hb dX12_putField_58 (by decide) ?_
      refine lv_iload_n hx hb dX12_putField_60 rfl (lv_at hl 3 rfl) ?_
      refine lv_imul hx hb dX12_putField_61 ?_
      refine lv_isub hx hb dX12_putField_62 ?_
      refine lv_lshr (v := (σ.2.2.2 13 x1.toNatClampNeg) >>> ((56 - (8 * x3)).toInt64 &&& 63)) hx hb dX12_putField_63 rfl ?_
      refine lv_ldc2 (v := 255) hx hb hown (hK.word kkX12_523 rfl) dX12_putField_64 ?_
      refine lv_land hx hb dX12_putField_67 ?_
      refine lv_l2i (v := (((σ.2.2.2 13 x1.toNatClampNeg) >>> ((56 - (8 * x3)).toInt64 &&& 63)) &&& 255).toInt32) hx hb dX12_putField_68 rfl ?_
      refine rf_callv (rf_runV hx hb hml hown hK hT (c_X12_put h) rfl rfl klX12_529 ki_X12_put ks_X12_put kn_X12 kc_X12_put 1 ⟨rfl, by decide, by decide, by decide +kernel⟩ ⟨by decide, by decide⟩ rfl hl.1 rfl (Nat.le_of_ble_eq_true rfl) ⟨Nat.le_refl _, Nat.le_refl _⟩ dX12_putField_69) hT (fun σ13 H locs h hT => ?_)
      refine lv_iinc (v := x3 + 1) (lv' := [(3, _), (0, _), (1, _), (2, _)]) hx hb dX12_putField_72 hl (k := 3) rfl rfl (by decide) rfl (fun ls hl => ?_)
      refine lv_goto (tgt := 44) hx hb dX12_putField_75 (by decide) ?_
      exact ih σ13 x1 x2 (x3 + 1) _ _ _ h hT (lv_sub hl [1, 2, 3, 0] rfl)
end
def w_X12_putField_37 (post : rf_S → Prop) (σ : rf_S) (x1 : Int32) (x2 : Int32) : Prop := wp_X12_put (fun σ14 => ∃ n9, w_X12_putField_44 post n9 σ14 x1 x2 0) σ x2
section
variable {p : Program} {l : Launch} {e : Env} {s : State} {m : MethodId} {args : Array Value} {below : List Frame} {meth : Method} {c : Code} {P : hw_G} {o : Nat} {ad : Nat → Nat}
set_option maxRecDepth 100000 in
set_option maxHeartbeats 4000000 in
theorem t_X12_putField_37 {post : rf_S → Prop} (hC : rf_C P RX12 p s m meth c cX12_putField 4 none) (σ : rf_S) (x1 : Int32) (x2 : Int32) (H : Heap) (locs : List Loc) (ls : Array Slot) (h : w_X12_putField_37 post σ x1 x2) (hT : rf_T P s (rf_A o ad) o ad σ H locs) (hl : lv_has ls 4 [(0, .ref o), (1, .int x1), (2, .int x2)]) : W p l e rm_X12_putField s m args below meth c H locs 0 0 (MQ below (rf_Qv P o ad post) args s 0 0 (rf_A o ad)) (F0 m 37 ls []) := by
  obtain ⟨hx, hb, hml, hown, hK, -, -⟩ := id hC
  refine lv_aload_n hx hb dX12_putField_37 rfl (lv_at hl 0 rfl) ?_
  refine lv_iload_n hx hb dX12_putField_38 rfl (lv_at hl 2 rfl) ?_
  refine rf_callv (rf_runV hx hb hml hown hK hT (c_X12_put h) rfl rfl klX12_529 ki_X12_put ks_X12_put kn_X12 kc_X12_put 1 ⟨rfl, by decide, by decide, by decide +kernel⟩ ⟨by decide, by decide⟩ rfl hl.1 rfl (Nat.le_of_ble_eq_true rfl) ⟨Nat.le_refl _, Nat.le_refl _⟩ dX12_putField_39) hT (fun σ14 H locs h hT => ?_)
  refine lv_iconst (v := 0) hx hb dX12_putField_42 (by decide) ?_
  refine lv_istore_n (lv' := [(3, _), (0, _), (1, _), (2, _)]) hx hb dX12_putField_43 rfl hl (by decide) rfl (fun ls hl => ?_)
  obtain ⟨n9, h⟩ := h
  exact t_X12_putField_44 hC n9 σ14 x1 x2 0 _ _ _ h hT (lv_sub hl [1, 2, 3, 0] rfl)
end
def w_X12_putField_2 (post : rf_S → Prop) : Nat → rf_S → Int32 → Int32 → Prop
  | 0, _, _, _ => False
  | n + 1, σ, x1, x2 => (8 ≤ x2 → w_X12_putField_37 post σ x1 x2) ∧ (¬ 8 ≤ x2 → vp_in x1 (rf_n 13) ∧ ((lg_cmp (((σ.2.2.2 13 x1.toNatClampNeg) >>> ((56 - (8 * x2)).toInt64 &&& 63)) &&& 255) 0) ≤ 0 → w_X12_putField_37 post σ x1 x2) ∧ (¬ (lg_cmp (((σ.2.2.2 13 x1.toNatClampNeg) >>> ((56 - (8 * x2)).toInt64 &&& 63)) &&& 255) 0) ≤ 0 → w_X12_putField_2 post n σ x1 (x2 + 1)))
section
variable {p : Program} {l : Launch} {e : Env} {s : State} {m : MethodId} {args : Array Value} {below : List Frame} {meth : Method} {c : Code} {P : hw_G} {o : Nat} {ad : Nat → Nat}
set_option maxRecDepth 100000 in
set_option maxHeartbeats 4000000 in
theorem t_X12_putField_2 {post : rf_S → Prop} (hC : rf_C P RX12 p s m meth c cX12_putField 4 none) : ∀ (n : Nat) (σ : rf_S) (x1 : Int32) (x2 : Int32) (H : Heap) (locs : List Loc) (ls : Array Slot), w_X12_putField_2 post n σ x1 x2 → rf_T P s (rf_A o ad) o ad σ H locs → lv_has ls 4 [(0, .ref o), (1, .int x1), (2, .int x2)] → W p l e rm_X12_putField s m args below meth c H locs 0 0 (MQ below (rf_Qv P o ad post) args s 0 0 (rf_A o ad)) (F0 m 2 ls []) := by
  obtain ⟨hx, hb, hml, hown, hK, -, -⟩ := id hC
  intro n
  induction n with
  | zero => intro σ x1 x2 H locs ls h; exact False.elim h
  | succ n ih =>
    intro σ x1 x2 H locs ls h hT hl
    refine lv_iload_n hx hb dX12_putField_2 rfl (lv_at hl 2 rfl) ?_
    refine lv_bipush (v := 8) hx hb dX12_putField_3 (by decide) ?_
    refine lv_icmp_ge (tgt := 37) hx hb dX12_putField_5 (by decide) (fun hc => ?_) (fun hc => ?_)
    · have h := h.1 hc
      exact t_X12_putField_37 hC σ x1 x2 _ _ _ h hT (lv_sub hl [0, 1, 2] rfl)
    · have h := h.2 hc
      refine lv_aload_n hx hb dX12_putField_8 rfl (lv_at hl 0 rfl) ?_
      refine rf_get hx hb hK hT hown 13 (by decide) kfX12_100 (v := .ref (ad 13)) rfl dX12_putField_9 ?_
      refine lv_iload_n hx hb dX12_putField_12 rfl (lv_at hl 1 rfl) ?_
      obtain ⟨hi, h⟩ := h
      refine rf_lald hx hb hK hT 13 (by decide) rfl hi (v := σ.2.2.2 13 x1.toNatClampNeg) rfl dX12_putField_13 ?_
      refine lv_bipush (v := 56) hx hb dX12_putField_14 (by decide) ?_
      refine lv_bipush (v := 8) hx hb dX12_putField_16 (by decide) ?_
      refine lv_iload_n hx hb dX12_putField_18 rfl (lv_at hl 2 rfl) ?_
      refine lv_imul hx hb dX12_putField_19 ?_
      refine lv_isub hx hb dX12_putField_20 ?_
      refine lv_lshr (v := (σ.2.2.2 13 x1.toNatClampNeg) >>> ((56 - (8 * x2)).toInt64 &&& 63)) hx hb dX12_putField_21 rfl ?_
      refine lv_ldc2 (v := 255) hx hb hown (hK.word kkX12_523 rfl) dX12_putField_22 ?_
      refine lv_land hx hb dX12_putField_25 ?_
      refine lv_lconst (v := 0) hx hb dX12_putField_26 (by decide) ?_
      refine W.lcmp hx hb dX12_putField_27 ?_
      refine lv_if_le (tgt := 37) hx hb dX12_putField_28 (by decide) (fun hc => ?_) (fun hc => ?_)
      · have h := h.1 hc
        exact t_X12_putField_37 hC σ x1 x2 _ _ _ h hT (lv_sub hl [0, 1, 2] rfl)
      · have h := h.2 hc
        refine lv_iinc (v := x2 + 1) (lv' := [(2, _), (0, _), (1, _)]) hx hb dX12_putField_31 hl (k := 2) rfl rfl (by decide) rfl (fun ls hl => ?_)
        refine lv_goto (tgt := 2) hx hb dX12_putField_34 (by decide) ?_
        exact ih σ x1 (x2 + 1) _ _ _ h hT (lv_sub hl [1, 2, 0] rfl)
end
def wp_X12_putField (post : rf_S → Prop) (σ : rf_S) (p1 : Int32) : Prop := ∃ n9, w_X12_putField_2 post n9 σ p1 0
set_option maxRecDepth 100000 in
set_option maxHeartbeats 4000000 in
theorem c_X12_putField {l : Launch} {P : hw_G} {o : Nat} {ad : Nat → Nat} {σ : rf_S} {p1 : Int32} {post : rf_S → Prop} (h : wp_X12_putField post σ p1) : Met l yX12_putField [Cond.code yX12_putField cX12_putField 4 none] rm_X12_putField (rf_Pc P o ad σ [.ref o, .int p1]) (rf_Qv P o ad post) 0 0 (rf_A o ad) := by
  refine rf_met (by decide) rfl (Nat.le_of_ble_eq_true rfl) ?_
  intro p e s m below meth c ls hC hT hl
  obtain ⟨hx, hb, hml, hown, hK, -, -⟩ := id hC
  have hl : lv_has ls 4 [(0, .ref o), (1, .int p1)] := hl
  refine lv_iconst (v := 0) hx hb dX12_putField_0 (by decide) ?_
  refine lv_istore_n (lv' := [(2, _), (0, _), (1, _)]) hx hb dX12_putField_1 rfl hl (by decide) rfl (fun ls hl => ?_)
  obtain ⟨n9, h⟩ := h
  exact t_X12_putField_2 hC n9 σ p1 0 _ _ _ h hT (lv_sub hl [1, 2, 0] rfl)
/-! X12_pack -/
abbrev rm_X12_pack : Room := { frames := 3, cells := 0, slots := 0, locals := 68 }
def w_X12_pack_176 (post : Int32 → rf_S → Prop) : Nat → rf_S → Int32 → Int32 → Prop
  | 0, _, _, _ => False
  | n + 1, σ, x3, x4 => ((σ.1 85) ≤ x4 → wp_X12_put (fun σ14 => post (σ14.1 85) σ14) σ x3) ∧ (¬ (σ.1 85) ≤ x4 → vp_in x4 (rf_n 84) ∧ wp_X12_mixed (fun r15 σ15 => w_X12_pack_176 post n σ15 r15 (x4 + 1)) σ x3 ((σ.2.2.1 84 x4.toNatClampNeg) &&& 255))
section
variable {p : Program} {l : Launch} {e : Env} {s : State} {m : MethodId} {args : Array Value} {below : List Frame} {meth : Method} {c : Code} {P : hw_G} {o : Nat} {ad : Nat → Nat}
set_option maxRecDepth 100000 in
set_option maxHeartbeats 4000000 in
theorem t_X12_pack_176 {post : Int32 → rf_S → Prop} (hC : rf_C P RX12 p s m meth c cX12_pack 5 (some .int)) : ∀ (n : Nat) (σ : rf_S) (x3 : Int32) (x4 : Int32) (H : Heap) (locs : List Loc) (ls : Array Slot), w_X12_pack_176 post n σ x3 x4 → rf_T P s (rf_A o ad) o ad σ H locs → lv_has ls 5 [(0, .ref o), (3, .int x3), (4, .int x4)] → W p l e rm_X12_pack s m args below meth c H locs 0 0 (MQ below (rf_Qi P o ad post) args s 0 0 (rf_A o ad)) (F0 m 176 ls []) := by
  obtain ⟨hx, hb, hml, hown, hK, -, -⟩ := id hC
  intro n
  induction n with
  | zero => intro σ x3 x4 H locs ls h; exact False.elim h
  | succ n ih =>
    intro σ x3 x4 H locs ls h hT hl
    refine lv_iload hx hb dX12_pack_176 (lv_at hl 2 rfl) ?_
    refine lv_aload_n hx hb dX12_pack_178 rfl (lv_at hl 0 rfl) ?_
    refine rf_get hx hb hK hT hown 85 (by decide) kfX12_504 (v := .int (σ.1 85)) rfl dX12_pack_179 ?_
    refine lv_icmp_ge (tgt := 207) hx hb dX12_pack_182 (by decide) (fun hc => ?_) (fun hc => ?_)
    · have h := h.1 hc
      refine lv_aload_n hx hb dX12_pack_207 rfl (lv_at hl 0 rfl) ?_
      refine lv_iload_n hx hb dX12_pack_208 rfl (lv_at hl 1 rfl) ?_
      refine rf_callv (rf_runV hx hb hml hown hK hT (c_X12_put h) rfl rfl klX12_529 ki_X12_put ks_X12_put kn_X12 kc_X12_put 1 ⟨rfl, by decide, by decide, by decide +kernel⟩ ⟨by decide, by decide⟩ rfl hl.1 rfl (Nat.le_of_ble_eq_true rfl) ⟨Nat.le_refl _, Nat.le_refl _⟩ dX12_pack_209) hT (fun σ14 H locs h hT => ?_)
      refine lv_aload_n hx hb dX12_pack_212 rfl (lv_at hl 0 rfl) ?_
      refine rf_get hx hb hK hT hown 85 (by decide) kfX12_504 (v := .int (σ14.1 85)) rfl dX12_pack_213 ?_
      exact rf_iret hC hT h dX12_pack_216
    · have h := h.2 hc
      refine lv_iload_n hx hb dX12_pack_185 rfl (lv_at hl 1 rfl) ?_
      refine lv_aload_n hx hb dX12_pack_186 rfl (lv_at hl 0 rfl) ?_
      refine rf_get hx hb hK hT hown 84 (by decide) kfX12_296 (v := .ref (ad 84)) rfl dX12_pack_187 ?_
      refine lv_iload hx hb dX12_pack_190 (lv_at hl 2 rfl) ?_
      obtain ⟨hi, h⟩ := h
      refine rf_bald hx hb hK hT 84 (by decide) rfl hi (v := σ.2.2.1 84 x4.toNatClampNeg) rfl dX12_pack_192 ?_
      refine lv_sipush (v := 255) hx hb dX12_pack_193 (by decide) ?_
      refine lv_iand hx hb dX12_pack_196 ?_
      refine rf_calli (rf_runS hx hb hml hown hK hT (c_X12_mixed h) rfl rfl klX12_158 ki_X12_mixed kn_X12 kc_X12_mixed 2 ⟨by decide, by decide, by decide +kernel⟩ ⟨by decide, by decide⟩ rfl hl.1 rfl (Nat.le_of_ble_eq_true rfl) ⟨Nat.le_refl _, Nat.le_refl _⟩ dX12_pack_197) hT (fun r15 σ15 H locs h hT => ?_)
      refine lv_istore_n (lv' := [(3, _), (0, _), (4, _)]) hx hb dX12_pack_200 rfl hl (by decide) rfl (fun ls hl => ?_)
      refine lv_iinc (v := x4 + 1) (lv' := [(4, _), (3, _), (0, _)]) hx hb dX12_pack_201 hl (k := 2) rfl rfl (by decide) rfl (fun ls hl => ?_)
      refine lv_goto (tgt := 176) hx hb dX12_pack_204 (by decide) ?_
      exact ih σ15 r15 (x4 + 1) _ _ _ h hT (lv_sub hl [2, 1, 0] rfl)
end
def w_X12_pack_145 (post : Int32 → rf_S → Prop) : Nat → rf_S → Int32 → Int32 → Prop
  | 0, _, _, _ => False
  | n + 1, σ, x1, x3 => vp_in x1 (rf_n 9) ∧ ((σ.2.2.1 9 x1.toNatClampNeg) ≤ x3 → ∃ n9, w_X12_pack_176 post n9 σ 0 0) ∧ (¬ (σ.2.2.1 9 x1.toNatClampNeg) ≤ x3 → wp_X12_putField (fun σ16 => w_X12_pack_145 post n σ16 x1 (x3 + 1)) σ ((8 * x1) + x3))
section
variable {p : Program} {l : Launch} {e : Env} {s : State} {m : MethodId} {args : Array Value} {below : List Frame} {meth : Method} {c : Code} {P : hw_G} {o : Nat} {ad : Nat → Nat}
set_option maxRecDepth 100000 in
set_option maxHeartbeats 4000000 in
theorem t_X12_pack_145 {post : Int32 → rf_S → Prop} (hC : rf_C P RX12 p s m meth c cX12_pack 5 (some .int)) : ∀ (n : Nat) (σ : rf_S) (x1 : Int32) (x3 : Int32) (H : Heap) (locs : List Loc) (ls : Array Slot), w_X12_pack_145 post n σ x1 x3 → rf_T P s (rf_A o ad) o ad σ H locs → lv_has ls 5 [(0, .ref o), (1, .int x1), (3, .int x3)] → W p l e rm_X12_pack s m args below meth c H locs 0 0 (MQ below (rf_Qi P o ad post) args s 0 0 (rf_A o ad)) (F0 m 145 ls []) := by
  obtain ⟨hx, hb, hml, hown, hK, -, -⟩ := id hC
  intro n
  induction n with
  | zero => intro σ x1 x3 H locs ls h; exact False.elim h
  | succ n ih =>
    intro σ x1 x3 H locs ls h hT hl
    refine lv_iload_n hx hb dX12_pack_145 rfl (lv_at hl 2 rfl) ?_
    refine lv_aload_n hx hb dX12_pack_146 rfl (lv_at hl 0 rfl) ?_
    refine rf_get hx hb hK hT hown 9 (by decide) kfX12_97 (v := .ref (ad 9)) rfl dX12_pack_147 ?_
    refine lv_iload_n hx hb dX12_pack_150 rfl (lv_at hl 1 rfl) ?_
    obtain ⟨hi, h⟩ := h
    refine rf_iald hx hb hK hT 9 (by decide) rfl hi (v := σ.2.2.1 9 x1.toNatClampNeg) rfl dX12_pack_151 ?_
    refine lv_icmp_ge (tgt := 171) hx hb dX12_pack_152 (by decide) (fun hc => ?_) (fun hc => ?_)
    · have h := h.1 hc
      refine lv_iconst (v := 0) hx hb dX12_pack_171 (by decide) ?_
      refine lv_istore_n (lv' := [(3, _), (0, _), (1, _)]) hx hb dX12_pack_172 rfl hl (by decide) rfl (fun ls hl => ?_)
      refine lv_iconst (v := 0) hx hb dX12_pack_173 (by decide) ?_
      refine lv_istore (lv' := [(4, _), (3, _), (0, _), (1, _)]) hx hb dX12_pack_174 hl (by decide) rfl (fun ls hl => ?_)
      obtain ⟨n9, h⟩ := h
      exact t_X12_pack_176 hC n9 σ 0 0 _ _ _ h hT (lv_sub hl [2, 1, 0] rfl)
    · have h := h.2 hc
      refine lv_aload_n hx hb dX12_pack_155 rfl (lv_at hl 0 rfl) ?_
      refine lv_bipush (v := 8) hx hb dX12_pack_156 (by decide) ?_
      refine lv_iload_n hx hb dX12_pack_158 rfl (lv_at hl 1 rfl) ?_
      refine lv_imul hx hb dX12_pack_159 ?_
      refine lv_iload_n hx hb dX12_pack_160 rfl (lv_at hl 2 rfl) ?_
      refine lv_iadd hx hb dX12_pack_161 ?_
      refine rf_callv (rf_runV hx hb hml hown hK hT (c_X12_putField h) rfl rfl klX12_536 ki_X12_putField ks_X12_putField kn_X12 kc_X12_putField 1 ⟨rfl, by decide, by decide, by decide +kernel⟩ ⟨by decide, by decide⟩ rfl hl.1 rfl (Nat.le_of_ble_eq_true rfl) ⟨Nat.le_refl _, Nat.le_refl _⟩ dX12_pack_162) hT (fun σ16 H locs h hT => ?_)
      refine lv_iinc (v := x3 + 1) (lv' := [(3, _), (0, _), (1, _)]) hx hb dX12_pack_165 hl (k := 2) rfl rfl (by decide) rfl (fun ls hl => ?_)
      refine lv_goto (tgt := 145) hx hb dX12_pack_168 (by decide) ?_
      exact ih σ16 x1 (x3 + 1) _ _ _ h hT (lv_sub hl [1, 2, 0] rfl)
end
def w_X12_pack_112 (post : Int32 → rf_S → Prop) : Nat → rf_S → Int32 → Int32 → Int32 → Prop
  | 0, _, _, _, _ => False
  | n + 1, σ, x1, x2, x3 => (x2 ≤ x3 → vp_in x1 (rf_n 9) ∧ wp_X12_put (fun σ17 => ∃ n9, w_X12_pack_145 post n9 σ17 x1 0) σ (σ.2.2.1 9 x1.toNatClampNeg)) ∧ (¬ x2 ≤ x3 → wp_X12_letter (fun r18 σ18 => wp_X12_put (fun σ19 => w_X12_pack_112 post n σ19 x1 x2 (x3 + 1)) σ18 r18) σ x1 x3)
section
variable {p : Program} {l : Launch} {e : Env} {s : State} {m : MethodId} {args : Array Value} {below : List Frame} {meth : Method} {c : Code} {P : hw_G} {o : Nat} {ad : Nat → Nat}
set_option maxRecDepth 100000 in
set_option maxHeartbeats 4000000 in
theorem t_X12_pack_112 {post : Int32 → rf_S → Prop} (hC : rf_C P RX12 p s m meth c cX12_pack 5 (some .int)) : ∀ (n : Nat) (σ : rf_S) (x1 : Int32) (x2 : Int32) (x3 : Int32) (H : Heap) (locs : List Loc) (ls : Array Slot), w_X12_pack_112 post n σ x1 x2 x3 → rf_T P s (rf_A o ad) o ad σ H locs → lv_has ls 5 [(0, .ref o), (1, .int x1), (2, .int x2), (3, .int x3)] → W p l e rm_X12_pack s m args below meth c H locs 0 0 (MQ below (rf_Qi P o ad post) args s 0 0 (rf_A o ad)) (F0 m 112 ls []) := by
  obtain ⟨hx, hb, hml, hown, hK, -, -⟩ := id hC
  intro n
  induction n with
  | zero => intro σ x1 x2 x3 H locs ls h; exact False.elim h
  | succ n ih =>
    intro σ x1 x2 x3 H locs ls h hT hl
    refine lv_iload_n hx hb dX12_pack_112 rfl (lv_at hl 3 rfl) ?_
    refine lv_iload_n hx hb dX12_pack_113 rfl (lv_at hl 2 rfl) ?_
    refine lv_icmp_ge (tgt := 133) hx hb dX12_pack_114 (by decide) (fun hc => ?_) (fun hc => ?_)
    · have h := h.1 hc
      refine lv_aload_n hx hb dX12_pack_133 rfl (lv_at hl 0 rfl) ?_
      refine lv_aload_n hx hb dX12_pack_134 rfl (lv_at hl 0 rfl) ?_
      refine rf_get hx hb hK hT hown 9 (by decide) kfX12_97 (v := .ref (ad 9)) rfl dX12_pack_135 ?_
      refine lv_iload_n hx hb dX12_pack_138 rfl (lv_at hl 1 rfl) ?_
      obtain ⟨hi, h⟩ := h
      refine rf_iald hx hb hK hT 9 (by decide) rfl hi (v := σ.2.2.1 9 x1.toNatClampNeg) rfl dX12_pack_139 ?_
      refine rf_callv (rf_runV hx hb hml hown hK hT (c_X12_put h) rfl rfl klX12_529 ki_X12_put ks_X12_put kn_X12 kc_X12_put 1 ⟨rfl, by decide, by decide, by decide +kernel⟩ ⟨by decide, by decide⟩ rfl hl.1 rfl (Nat.le_of_ble_eq_true rfl) ⟨Nat.le_refl _, Nat.le_refl _⟩ dX12_pack_140) hT (fun σ17 H locs h hT => ?_)
      refine lv_iconst (v := 0) hx hb dX12_pack_143 (by decide) ?_
      refine lv_istore_n (lv' := [(3, _), (0, _), (1, _), (2, _)]) hx hb dX12_pack_144 rfl hl (by decide) rfl (fun ls hl => ?_)
      obtain ⟨n9, h⟩ := h
      exact t_X12_pack_145 hC n9 σ17 x1 0 _ _ _ h hT (lv_sub hl [1, 2, 0] rfl)
    · have h := h.2 hc
      refine lv_aload_n hx hb dX12_pack_117 rfl (lv_at hl 0 rfl) ?_
      refine lv_aload_n hx hb dX12_pack_118 rfl (lv_at hl 0 rfl) ?_
      refine lv_iload_n hx hb dX12_pack_119 rfl (lv_at hl 1 rfl) ?_
      refine lv_iload_n hx hb dX12_pack_120 rfl (lv_at hl 3 rfl) ?_
      refine rf_calli (rf_runV hx hb hml hown hK hT (c_X12_letter h) rfl rfl klX12_520 ki_X12_letter ks_X12_letter kn_X12 kc_X12_letter 2 ⟨rfl, by decide, by decide, by decide +kernel⟩ ⟨by decide, by decide⟩ rfl hl.1 rfl (Nat.le_of_ble_eq_true rfl) ⟨Nat.le_refl _, Nat.le_refl _⟩ dX12_pack_121) hT (fun r18 σ18 H locs h hT => ?_)
      refine rf_callv (rf_runV hx hb hml hown hK hT (c_X12_put h) rfl rfl klX12_529 ki_X12_put ks_X12_put kn_X12 kc_X12_put 1 ⟨rfl, by decide, by decide, by decide +kernel⟩ ⟨by decide, by decide⟩ rfl hl.1 rfl (Nat.le_of_ble_eq_true rfl) ⟨Nat.le_refl _, Nat.le_refl _⟩ dX12_pack_124) hT (fun σ19 H locs h hT => ?_)
      refine lv_iinc (v := x3 + 1) (lv' := [(3, _), (0, _), (1, _), (2, _)]) hx hb dX12_pack_127 hl (k := 3) rfl rfl (by decide) rfl (fun ls hl => ?_)
      refine lv_goto (tgt := 112) hx hb dX12_pack_130 (by decide) ?_
      exact ih σ19 x1 x2 (x3 + 1) _ _ _ h hT (lv_sub hl [1, 2, 3, 0] rfl)
end
def w_X12_pack_105 (post : Int32 → rf_S → Prop) (σ : rf_S) (x1 : Int32) (x2 : Int32) : Prop := wp_X12_put (fun σ20 => ∃ n9, w_X12_pack_112 post n9 σ20 x1 x2 0) σ x2
section
variable {p : Program} {l : Launch} {e : Env} {s : State} {m : MethodId} {args : Array Value} {below : List Frame} {meth : Method} {c : Code} {P : hw_G} {o : Nat} {ad : Nat → Nat}
set_option maxRecDepth 100000 in
set_option maxHeartbeats 4000000 in
theorem t_X12_pack_105 {post : Int32 → rf_S → Prop} (hC : rf_C P RX12 p s m meth c cX12_pack 5 (some .int)) (σ : rf_S) (x1 : Int32) (x2 : Int32) (H : Heap) (locs : List Loc) (ls : Array Slot) (h : w_X12_pack_105 post σ x1 x2) (hT : rf_T P s (rf_A o ad) o ad σ H locs) (hl : lv_has ls 5 [(0, .ref o), (1, .int x1), (2, .int x2)]) : W p l e rm_X12_pack s m args below meth c H locs 0 0 (MQ below (rf_Qi P o ad post) args s 0 0 (rf_A o ad)) (F0 m 105 ls []) := by
  obtain ⟨hx, hb, hml, hown, hK, -, -⟩ := id hC
  refine lv_aload_n hx hb dX12_pack_105 rfl (lv_at hl 0 rfl) ?_
  refine lv_iload_n hx hb dX12_pack_106 rfl (lv_at hl 2 rfl) ?_
  refine rf_callv (rf_runV hx hb hml hown hK hT (c_X12_put h) rfl rfl klX12_529 ki_X12_put ks_X12_put kn_X12 kc_X12_put 1 ⟨rfl, by decide, by decide, by decide +kernel⟩ ⟨by decide, by decide⟩ rfl hl.1 rfl (Nat.le_of_ble_eq_true rfl) ⟨Nat.le_refl _, Nat.le_refl _⟩ dX12_pack_107) hT (fun σ20 H locs h hT => ?_)
  refine lv_iconst (v := 0) hx hb dX12_pack_110 (by decide) ?_
  refine lv_istore_n (lv' := [(3, _), (0, _), (1, _), (2, _)]) hx hb dX12_pack_111 rfl hl (by decide) rfl (fun ls hl => ?_)
  obtain ⟨n9, h⟩ := h
  exact t_X12_pack_112 hC n9 σ20 x1 x2 0 _ _ _ h hT (lv_sub hl [1, 2, 3, 0] rfl)
end
def w_X12_pack_84 (post : Int32 → rf_S → Prop) : Nat → rf_S → Int32 → Int32 → Prop
  | 0, _, _, _ => False
  | n + 1, σ, x1, x2 => (12 ≤ x2 → w_X12_pack_105 post σ x1 x2) ∧ (¬ 12 ≤ x2 → wp_X12_letter (fun r21 σ21 => (r21 ≤ 0 → w_X12_pack_105 post σ21 x1 x2) ∧ (¬ r21 ≤ 0 → w_X12_pack_84 post n σ21 x1 (x2 + 1))) σ x1 x2)
section
variable {p : Program} {l : Launch} {e : Env} {s : State} {m : MethodId} {args : Array Value} {below : List Frame} {meth : Method} {c : Code} {P : hw_G} {o : Nat} {ad : Nat → Nat}
set_option maxRecDepth 100000 in
set_option maxHeartbeats 4000000 in
theorem t_X12_pack_84 {post : Int32 → rf_S → Prop} (hC : rf_C P RX12 p s m meth c cX12_pack 5 (some .int)) : ∀ (n : Nat) (σ : rf_S) (x1 : Int32) (x2 : Int32) (H : Heap) (locs : List Loc) (ls : Array Slot), w_X12_pack_84 post n σ x1 x2 → rf_T P s (rf_A o ad) o ad σ H locs → lv_has ls 5 [(0, .ref o), (1, .int x1), (2, .int x2)] → W p l e rm_X12_pack s m args below meth c H locs 0 0 (MQ below (rf_Qi P o ad post) args s 0 0 (rf_A o ad)) (F0 m 84 ls []) := by
  obtain ⟨hx, hb, hml, hown, hK, -, -⟩ := id hC
  intro n
  induction n with
  | zero => intro σ x1 x2 H locs ls h; exact False.elim h
  | succ n ih =>
    intro σ x1 x2 H locs ls h hT hl
    refine lv_iload_n hx hb dX12_pack_84 rfl (lv_at hl 2 rfl) ?_
    refine lv_bipush (v := 12) hx hb dX12_pack_85 (by decide) ?_
    refine lv_icmp_ge (tgt := 105) hx hb dX12_pack_87 (by decide) (fun hc => ?_) (fun hc => ?_)
    · have h := h.1 hc
      exact t_X12_pack_105 hC σ x1 x2 _ _ _ h hT (lv_sub hl [0, 1, 2] rfl)
    · have h := h.2 hc
      refine lv_aload_n hx hb dX12_pack_90 rfl (lv_at hl 0 rfl) ?_
      refine lv_iload_n hx hb dX12_pack_91 rfl (lv_at hl 1 rfl) ?_
      refine lv_iload_n hx hb dX12_pack_92 rfl (lv_at hl 2 rfl) ?_
      refine rf_calli (rf_runV hx hb hml hown hK hT (c_X12_letter h) rfl rfl klX12_520 ki_X12_letter ks_X12_letter kn_X12 kc_X12_letter 2 ⟨rfl, by decide, by decide, by decide +kernel⟩ ⟨by decide, by decide⟩ rfl hl.1 rfl (Nat.le_of_ble_eq_true rfl) ⟨Nat.le_refl _, Nat.le_refl _⟩ dX12_pack_93) hT (fun r21 σ21 H locs h hT => ?_)
      refine lv_if_le (tgt := 105) hx hb dX12_pack_96 (by decide) (fun hc => ?_) (fun hc => ?_)
      · have h := h.1 hc
        exact t_X12_pack_105 hC σ21 x1 x2 _ _ _ h hT (lv_sub hl [0, 1, 2] rfl)
      · have h := h.2 hc
        refine lv_iinc (v := x2 + 1) (lv' := [(2, _), (0, _), (1, _)]) hx hb dX12_pack_99 hl (k := 2) rfl rfl (by decide) rfl (fun ls hl => ?_)
        refine lv_goto (tgt := 84) hx hb dX12_pack_102 (by decide) ?_
        exact ih σ21 x1 (x2 + 1) _ _ _ h hT (lv_sub hl [1, 2, 0] rfl)
end
def w_X12_pack_79 (post : Int32 → rf_S → Prop) (σ : rf_S) (x1 : Int32) (y1 : Int64) : Prop := wp_X12_putUnsigned (fun σ22 => ∃ n9, w_X12_pack_84 post n9 σ22 x1 0) σ y1
section
variable {p : Program} {l : Launch} {e : Env} {s : State} {m : MethodId} {args : Array Value} {below : List Frame} {meth : Method} {c : Code} {P : hw_G} {o : Nat} {ad : Nat → Nat}
set_option maxRecDepth 100000 in
set_option maxHeartbeats 4000000 in
theorem t_X12_pack_79 {post : Int32 → rf_S → Prop} (hC : rf_C P RX12 p s m meth c cX12_pack 5 (some .int)) (σ : rf_S) (x1 : Int32) (y1 : Int64) (H : Heap) (locs : List Loc) (ls : Array Slot) (h : w_X12_pack_79 post σ x1 y1) (hT : rf_T P s (rf_A o ad) o ad σ H locs) (hl : lv_has ls 5 [(0, .ref o), (1, .int x1)]) : W p l e rm_X12_pack s m args below meth c H locs 0 0 (MQ below (rf_Qi P o ad post) args s 0 0 (rf_A o ad)) (F0 m 79 ls [.long y1, .ref o]) := by
  obtain ⟨hx, hb, hml, hown, hK, -, -⟩ := id hC
  refine rf_callv (rf_runV hx hb hml hown hK hT (c_X12_putUnsigned h) rfl rfl klX12_532 ki_X12_putUnsigned ks_X12_putUnsigned kn_X12 kc_X12_putUnsigned 1 ⟨rfl, by decide, by decide, by decide +kernel⟩ ⟨by decide, by decide⟩ rfl hl.1 rfl (Nat.le_of_ble_eq_true rfl) ⟨Nat.le_refl _, Nat.le_refl _⟩ dX12_pack_79) hT (fun σ22 H locs h hT => ?_)
  refine lv_iconst (v := 0) hx hb dX12_pack_82 (by decide) ?_
  refine lv_istore_n (lv' := [(2, _), (0, _), (1, _)]) hx hb dX12_pack_83 rfl hl (by decide) rfl (fun ls hl => ?_)
  obtain ⟨n9, h⟩ := h
  exact t_X12_pack_84 hC n9 σ22 x1 0 _ _ _ h hT (lv_sub hl [1, 2, 0] rfl)
end
def w_X12_pack_28 (post : Int32 → rf_S → Prop) (σ : rf_S) (x1 : Int32) (y1 : Int32) : Prop := wp_X12_throwsIf (fun r23 σ23 => (r23 = 0 → wp_X12_put (fun σ24 => (¬ x1 = 0 → vp_in x1 (rf_n 8) ∧ vp_in (x1 - 1) (rf_n 8) ∧ w_X12_pack_79 post σ24 x1 (((σ24.2.2.1 8 x1.toNatClampNeg) - (σ24.2.2.1 8 (x1 - 1).toNatClampNeg)).toInt64)) ∧ (x1 = 0 → vp_in x1 (rf_n 8) ∧ w_X12_pack_79 post σ24 x1 ((σ24.2.2.1 8 x1.toNatClampNeg).toInt64))) (rf_ui σ23 85 0) 229) ∧ (¬ r23 = 0 → post 0 σ23)) σ y1
section
variable {p : Program} {l : Launch} {e : Env} {s : State} {m : MethodId} {args : Array Value} {below : List Frame} {meth : Method} {c : Code} {P : hw_G} {o : Nat} {ad : Nat → Nat}
set_option maxRecDepth 100000 in
set_option maxHeartbeats 4000000 in
theorem t_X12_pack_28 {post : Int32 → rf_S → Prop} (hC : rf_C P RX12 p s m meth c cX12_pack 5 (some .int)) (σ : rf_S) (x1 : Int32) (y1 : Int32) (H : Heap) (locs : List Loc) (ls : Array Slot) (h : w_X12_pack_28 post σ x1 y1) (hT : rf_T P s (rf_A o ad) o ad σ H locs) (hl : lv_has ls 5 [(0, .ref o), (1, .int x1)]) : W p l e rm_X12_pack s m args below meth c H locs 0 0 (MQ below (rf_Qi P o ad post) args s 0 0 (rf_A o ad)) (F0 m 28 ls [.int y1, .ref o]) := by
  obtain ⟨hx, hb, hml, hown, hK, -, -⟩ := id hC
  refine rf_calli (rf_runV hx hb hml hown hK hT (c_X12_throwsIf h) rfl rfl klX12_507 ki_X12_throwsIf ks_X12_throwsIf kn_X12 kc_X12_throwsIf 1 ⟨rfl, by decide, by decide, by decide +kernel⟩ ⟨by decide, by decide⟩ rfl hl.1 rfl (Nat.le_of_ble_eq_true rfl) ⟨Nat.le_refl _, Nat.le_refl _⟩ dX12_pack_28) hT (fun r23 σ23 H locs h hT => ?_)
  refine lv_if_eq (tgt := 36) hx hb dX12_pack_31 (by decide) (fun hc => ?_) (fun hc => ?_)
  · have h := h.1 hc
    refine lv_aload_n hx hb dX12_pack_36 rfl (lv_at hl 0 rfl) ?_
    refine lv_iconst (v := 0) hx hb dX12_pack_37 (by decide) ?_
    refine rf_puti hx hb hK hT hown 85 (by decide) kfX12_504 rfl rfl dX12_pack_38 (fun H locs hT => ?_)
    refine lv_aload_n hx hb dX12_pack_41 rfl (lv_at hl 0 rfl) ?_
    refine lv_sipush (v := 229) hx hb dX12_pack_42 (by decide) ?_
    refine rf_callv (rf_runV hx hb hml hown hK hT (c_X12_put h) rfl rfl klX12_529 ki_X12_put ks_X12_put kn_X12 kc_X12_put 1 ⟨rfl, by decide, by decide, by decide +kernel⟩ ⟨by decide, by decide⟩ rfl hl.1 rfl (Nat.le_of_ble_eq_true rfl) ⟨Nat.le_refl _, Nat.le_refl _⟩ dX12_pack_45) hT (fun σ24 H locs h hT => ?_)
    refine lv_aload_n hx hb dX12_pack_48 rfl (lv_at hl 0 rfl) ?_
    refine lv_iload_n hx hb dX12_pack_49 rfl (lv_at hl 1 rfl) ?_
    refine lv_if_ne (tgt := 63) hx hb dX12_pack_50 (by decide) (fun hc => ?_) (fun hc => ?_)
    · have h := h.1 hc
      refine lv_aload_n hx hb dX12_pack_63 rfl (lv_at hl 0 rfl) ?_
      refine rf_get hx hb hK hT hown 8 (by decide) kfX12_170 (v := .ref (ad 8)) rfl dX12_pack_64 ?_
      refine lv_iload_n hx hb dX12_pack_67 rfl (lv_at hl 1 rfl) ?_
      obtain ⟨hi, h⟩ := h
      refine rf_iald hx hb hK hT 8 (by decide) rfl hi (v := σ24.2.2.1 8 x1.toNatClampNeg) rfl dX12_pack_68 ?_
      refine lv_aload_n hx hb dX12_pack_69 rfl (lv_at hl 0 rfl) ?_
      refine rf_get hx hb hK hT hown 8 (by decide) kfX12_170 (v := .ref (ad 8)) rfl dX12_pack_70 ?_
      refine lv_iload_n hx hb dX12_pack_73 rfl (lv_at hl 1 rfl) ?_
      refine lv_iconst (v := 1) hx hb dX12_pack_74 (by decide) ?_
      refine lv_isub hx hb dX12_pack_75 ?_
      obtain ⟨hi, h⟩ := h
      refine rf_iald hx hb hK hT 8 (by decide) rfl hi (v := σ24.2.2.1 8 (x1 - 1).toNatClampNeg) rfl dX12_pack_76 ?_
      refine lv_isub hx hb dX12_pack_77 ?_
      refine lv_i2l (v := ((σ24.2.2.1 8 x1.toNatClampNeg) - (σ24.2.2.1 8 (x1 - 1).toNatClampNeg)).toInt64) hx hb dX12_pack_78 rfl ?_
      exact t_X12_pack_79 hC σ24 x1 (((σ24.2.2.1 8 x1.toNatClampNeg) - (σ24.2.2.1 8 (x1 - 1).toNatClampNeg)).toInt64) _ _ _ h hT (lv_sub hl [0, 1] rfl)
    · have h := h.2 hc
      refine lv_aload_n hx hb dX12_pack_53 rfl (lv_at hl 0 rfl) ?_
      refine rf_get hx hb hK hT hown 8 (by decide) kfX12_170 (v := .ref (ad 8)) rfl dX12_pack_54 ?_
      refine lv_iload_n hx hb dX12_pack_57 rfl (lv_at hl 1 rfl) ?_
      obtain ⟨hi, h⟩ := h
      refine rf_iald hx hb hK hT 8 (by decide) rfl hi (v := σ24.2.2.1 8 x1.toNatClampNeg) rfl dX12_pack_58 ?_
      refine lv_i2l (v := (σ24.2.2.1 8 x1.toNatClampNeg).toInt64) hx hb dX12_pack_59 rfl ?_
      refine lv_goto (tgt := 79) hx hb dX12_pack_60 (by decide) ?_
      exact t_X12_pack_79 hC σ24 x1 ((σ24.2.2.1 8 x1.toNatClampNeg).toInt64) _ _ _ h hT (lv_sub hl [0, 1] rfl)
  · have h := h.2 hc
    refine lv_iconst (v := 0) hx hb dX12_pack_34 (by decide) ?_
    exact rf_iret hC hT h dX12_pack_35
end
def w_X12_pack_23 (post : Int32 → rf_S → Prop) (σ : rf_S) (x1 : Int32) : Prop := w_X12_pack_28 post σ x1 1
section
variable {p : Program} {l : Launch} {e : Env} {s : State} {m : MethodId} {args : Array Value} {below : List Frame} {meth : Method} {c : Code} {P : hw_G} {o : Nat} {ad : Nat → Nat}
set_option maxRecDepth 100000 in
set_option maxHeartbeats 4000000 in
theorem t_X12_pack_23 {post : Int32 → rf_S → Prop} (hC : rf_C P RX12 p s m meth c cX12_pack 5 (some .int)) (σ : rf_S) (x1 : Int32) (H : Heap) (locs : List Loc) (ls : Array Slot) (h : w_X12_pack_23 post σ x1) (hT : rf_T P s (rf_A o ad) o ad σ H locs) (hl : lv_has ls 5 [(0, .ref o), (1, .int x1)]) : W p l e rm_X12_pack s m args below meth c H locs 0 0 (MQ below (rf_Qi P o ad post) args s 0 0 (rf_A o ad)) (F0 m 23 ls [.ref o]) := by
  obtain ⟨hx, hb, hml, hown, hK, -, -⟩ := id hC
  refine lv_iconst (v := 1) hx hb dX12_pack_23 (by decide) ?_
  refine lv_goto (tgt := 28) hx hb dX12_pack_24 (by decide) ?_
  exact t_X12_pack_28 hC σ x1 1 _ _ _ h hT (lv_sub hl [0, 1] rfl)
end
def w_X12_pack_27 (post : Int32 → rf_S → Prop) (σ : rf_S) (x1 : Int32) : Prop := w_X12_pack_28 post σ x1 0
section
variable {p : Program} {l : Launch} {e : Env} {s : State} {m : MethodId} {args : Array Value} {below : List Frame} {meth : Method} {c : Code} {P : hw_G} {o : Nat} {ad : Nat → Nat}
set_option maxRecDepth 100000 in
set_option maxHeartbeats 4000000 in
theorem t_X12_pack_27 {post : Int32 → rf_S → Prop} (hC : rf_C P RX12 p s m meth c cX12_pack 5 (some .int)) (σ : rf_S) (x1 : Int32) (H : Heap) (locs : List Loc) (ls : Array Slot) (h : w_X12_pack_27 post σ x1) (hT : rf_T P s (rf_A o ad) o ad σ H locs) (hl : lv_has ls 5 [(0, .ref o), (1, .int x1)]) : W p l e rm_X12_pack s m args below meth c H locs 0 0 (MQ below (rf_Qi P o ad post) args s 0 0 (rf_A o ad)) (F0 m 27 ls [.ref o]) := by
  obtain ⟨hx, hb, hml, hown, hK, -, -⟩ := id hC
  refine lv_iconst (v := 0) hx hb dX12_pack_27 (by decide) ?_
  exact t_X12_pack_28 hC σ x1 0 _ _ _ h hT (lv_sub hl [0, 1] rfl)
end
def wp_X12_pack (post : Int32 → rf_S → Prop) (σ : rf_S) (p1 : Int32) : Prop := wp_X12_isLate (fun r25 σ25 => (r25 = 0 → w_X12_pack_23 post σ25 p1) ∧ (¬ r25 = 0 → (p1 ≤ 0 → w_X12_pack_27 post σ25 p1) ∧ (¬ p1 ≤ 0 → wp_X12_isLate (fun r26 σ26 => (¬ r26 = 0 → w_X12_pack_27 post σ26 p1) ∧ (r26 = 0 → w_X12_pack_23 post σ26 p1)) σ25 (p1 - 1)))) σ p1
set_option maxRecDepth 100000 in
set_option maxHeartbeats 4000000 in
theorem c_X12_pack {l : Launch} {P : hw_G} {o : Nat} {ad : Nat → Nat} {σ : rf_S} {p1 : Int32} {post : Int32 → rf_S → Prop} (h : wp_X12_pack post σ p1) : Met l yX12_pack [Cond.code yX12_pack cX12_pack 5 (some .int)] rm_X12_pack (rf_Pc P o ad σ [.ref o, .int p1]) (rf_Qi P o ad post) 0 0 (rf_A o ad) := by
  refine rf_met (by decide) rfl (Nat.le_of_ble_eq_true rfl) ?_
  intro p e s m below meth c ls hC hT hl
  obtain ⟨hx, hb, hml, hown, hK, -, -⟩ := id hC
  have hl : lv_has ls 5 [(0, .ref o), (1, .int p1)] := hl
  refine lv_aload_n hx hb dX12_pack_0 rfl (lv_at hl 0 rfl) ?_
  refine lv_aload_n hx hb dX12_pack_1 rfl (lv_at hl 0 rfl) ?_
  refine lv_iload_n hx hb dX12_pack_2 rfl (lv_at hl 1 rfl) ?_
  refine rf_calli (rf_runV hx hb hml hown hK hT (c_X12_isLate h) rfl rfl klX12_517 ki_X12_isLate ks_X12_isLate kn_X12 kc_X12_isLate 1 ⟨rfl, by decide, by decide, by decide +kernel⟩ ⟨by decide, by decide⟩ rfl hl.1 rfl (Nat.le_of_ble_eq_true rfl) ⟨Nat.le_refl _, Nat.le_refl _⟩ dX12_pack_3) hT (fun r25 σ25 H locs h hT => ?_)
  refine lv_if_eq (tgt := 23) hx hb dX12_pack_6 (by decide) (fun hc => ?_) (fun hc => ?_)
  · have h := h.1 hc
    exact t_X12_pack_23 hC σ25 p1 _ _ _ h hT (lv_sub hl [0, 1] rfl)
  · have h := h.2 hc
    refine lv_iload_n hx hb dX12_pack_9 rfl (lv_at hl 1 rfl) ?_
    refine lv_if_le (tgt := 27) hx hb dX12_pack_10 (by decide) (fun hc => ?_) (fun hc => ?_)
    · have h := h.1 hc
      exact t_X12_pack_27 hC σ25 p1 _ _ _ h hT (lv_sub hl [0, 1] rfl)
    · have h := h.2 hc
      refine lv_aload_n hx hb dX12_pack_13 rfl (lv_at hl 0 rfl) ?_
      refine lv_iload_n hx hb dX12_pack_14 rfl (lv_at hl 1 rfl) ?_
      refine lv_iconst (v := 1) hx hb dX12_pack_15 (by decide) ?_
      refine lv_isub hx hb dX12_pack_16 ?_
      refine rf_calli (rf_runV hx hb hml hown hK hT (c_X12_isLate h) rfl rfl klX12_517 ki_X12_isLate ks_X12_isLate kn_X12 kc_X12_isLate 1 ⟨rfl, by decide, by decide, by decide +kernel⟩ ⟨by decide, by decide⟩ rfl hl.1 rfl (Nat.le_of_ble_eq_true rfl) ⟨Nat.le_refl _, Nat.le_refl _⟩ dX12_pack_17) hT (fun r26 σ26 H locs h hT => ?_)
      refine lv_if_ne (tgt := 27) hx hb dX12_pack_20 (by decide) (fun hc => ?_) (fun hc => ?_)
      · have h := h.1 hc
        exact t_X12_pack_27 hC σ26 p1 _ _ _ h hT (lv_sub hl [0, 1] rfl)
      · have h := h.2 hc
        exact t_X12_pack_23 hC σ26 p1 _ _ _ h hT (lv_sub hl [0, 1] rfl)
