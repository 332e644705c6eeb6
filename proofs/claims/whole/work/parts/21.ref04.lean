/-! X12_makes -/
abbrev rm_X12_makes : Room := { frames := 64, cells := 0, slots := 0, locals := 2500 }
def w_X12_makes_187 (post : rf_S → Prop) (k89 : rf_S → Int32 → Int32 → Int32 → Int32 → Int32 → Prop) (k106 : rf_S → Int32 → Int32 → Int32 → Int32 → Int32 → Int32 → Int32 → Prop) (σ : rf_S) (x1 : Int32) (x2 : Int32) (x3 : Int32) (x4 : Int32) (x5 : Int32) (x6 : Int32) (x7 : Int32) : Prop := k106 σ x1 x2 x3 x4 x5 x6 (x7 + 1)
section
variable {p : Program} {l : Launch} {e : Env} {s : State} {m : MethodId} {args : Array Value} {below : List Frame} {meth : Method} {c : Code} {P : hw_G} {o : Nat} {ad : Nat → Nat}
set_option maxRecDepth 100000 in
set_option maxHeartbeats 4000000 in
theorem t_X12_makes_187 {post : rf_S → Prop} {k89 : rf_S → Int32 → Int32 → Int32 → Int32 → Int32 → Prop} {k106 : rf_S → Int32 → Int32 → Int32 → Int32 → Int32 → Int32 → Int32 → Prop} (hC : rf_C P RX12 p s m meth c cX12_makes 8 none) (hk89 : ∀ (σ : rf_S) (x1 : Int32) (x2 : Int32) (x3 : Int32) (x4 : Int32) (x5 : Int32) (H : Heap) (locs : List Loc) (ls : Array Slot), k89 σ x1 x2 x3 x4 x5 → rf_T P s (rf_A o ad) o ad σ H locs → lv_has ls 8 [(0, .ref o), (1, .int x1), (2, .int x2), (3, .int x3), (4, .int x4), (5, .int x5)] → W p l e rm_X12_makes s m args below meth c H locs 0 0 (MQ below (rf_Qv P o ad post) args s 0 0 (rf_A o ad)) (F0 m 89 ls [])) (hk106 : ∀ (σ : rf_S) (x1 : Int32) (x2 : Int32) (x3 : Int32) (x4 : Int32) (x5 : Int32) (x6 : Int32) (x7 : Int32) (H : Heap) (locs : List Loc) (ls : Array Slot), k106 σ x1 x2 x3 x4 x5 x6 x7 → rf_T P s (rf_A o ad) o ad σ H locs → lv_has ls 8 [(0, .ref o), (1, .int x1), (2, .int x2), (3, .int x3), (4, .int x4), (5, .int x5), (6, .int x6), (7, .int x7)] → W p l e rm_X12_makes s m args below meth c H locs 0 0 (MQ below (rf_Qv P o ad post) args s 0 0 (rf_A o ad)) (F0 m 106 ls [])) (σ : rf_S) (x1 : Int32) (x2 : Int32) (x3 : Int32) (x4 : Int32) (x5 : Int32) (x6 : Int32) (x7 : Int32) (H : Heap) (locs : List Loc) (ls : Array Slot) (h : w_X12_makes_187 post k89 k106 σ x1 x2 x3 x4 x5 x6 x7) (hT : rf_T P s (rf_A o ad) o ad σ H locs) (hl : lv_has ls 8 [(0, .ref o), (1, .int x1), (2, .int x2), (3, .int x3), (4, .int x4), (5, .int x5), (6, .int x6), (7, .int x7)]) : W p l e rm_X12_makes s m args below meth c H locs 0 0 (MQ below (rf_Qv P o ad post) args s 0 0 (rf_A o ad)) (F0 m 187 ls []) := by
  obtain ⟨hx, hb, hml, hown, hK, -, -⟩ := id hC
  refine lv_iinc (v := x7 + 1) (lv' := [(7, _), (0, _), (1, _), (2, _), (3, _), (4, _), (5, _), (6, _)]) hx hb dX12_makes_187 hl (k := 7) rfl rfl (by decide) rfl (fun ls hl => ?_)
  refine lv_goto (tgt := 106) hx hb dX12_makes_190 (by decide) ?_
  exact hk106 σ x1 x2 x3 x4 x5 x6 (x7 + 1) _ _ _ h hT (lv_sub hl [1, 2, 3, 4, 5, 6, 7, 0] rfl)
end
def w_X12_makes_183 (post : rf_S → Prop) (k89 : rf_S → Int32 → Int32 → Int32 → Int32 → Int32 → Prop) (k106 : rf_S → Int32 → Int32 → Int32 → Int32 → Int32 → Int32 → Int32 → Prop) (σ : rf_S) (x1 : Int32) (x2 : Int32) (x3 : Int32) (x4 : Int32) (x5 : Int32) (x7 : Int32) : Prop := w_X12_makes_187 post k89 k106 σ x1 x2 x3 x4 x5 x7 x7
section
variable {p : Program} {l : Launch} {e : Env} {s : State} {m : MethodId} {args : Array Value} {below : List Frame} {meth : Method} {c : Code} {P : hw_G} {o : Nat} {ad : Nat → Nat}
set_option maxRecDepth 100000 in
set_option maxHeartbeats 4000000 in
theorem t_X12_makes_183 {post : rf_S → Prop} {k89 : rf_S → Int32 → Int32 → Int32 → Int32 → Int32 → Prop} {k106 : rf_S → Int32 → Int32 → Int32 → Int32 → Int32 → Int32 → Int32 → Prop} (hC : rf_C P RX12 p s m meth c cX12_makes 8 none) (hk89 : ∀ (σ : rf_S) (x1 : Int32) (x2 : Int32) (x3 : Int32) (x4 : Int32) (x5 : Int32) (H : Heap) (locs : List Loc) (ls : Array Slot), k89 σ x1 x2 x3 x4 x5 → rf_T P s (rf_A o ad) o ad σ H locs → lv_has ls 8 [(0, .ref o), (1, .int x1), (2, .int x2), (3, .int x3), (4, .int x4), (5, .int x5)] → W p l e rm_X12_makes s m args below meth c H locs 0 0 (MQ below (rf_Qv P o ad post) args s 0 0 (rf_A o ad)) (F0 m 89 ls [])) (hk106 : ∀ (σ : rf_S) (x1 : Int32) (x2 : Int32) (x3 : Int32) (x4 : Int32) (x5 : Int32) (x6 : Int32) (x7 : Int32) (H : Heap) (locs : List Loc) (ls : Array Slot), k106 σ x1 x2 x3 x4 x5 x6 x7 → rf_T P s (rf_A o ad) o ad σ H locs → lv_has ls 8 [(0, .ref o), (1, .int x1), (2, .int x2), (3, .int x3), (4, .int x4), (5, .int x5), (6, .int x6), (7, .int x7)] → W p l e rm_X12_makes s m args below meth c H locs 0 0 (MQ below (rf_Qv P o ad post) args s 0 0 (rf_A o ad)) (F0 m 106 ls [])) (σ : rf_S) (x1 : Int32) (x2 : Int32) (x3 : Int32) (x4 : Int32) (x5 : Int32) (x7 : Int32) (H : Heap) (locs : List Loc) (ls : Array Slot) (h : w_X12_makes_183 post k89 k106 σ x1 x2 x3 x4 x5 x7) (hT : rf_T P s (rf_A o ad) o ad σ H locs) (hl : lv_has ls 8 [(0, .ref o), (1, .int x1), (2, .int x2), (3, .int x3), (4, .int x4), (5, .int x5), (7, .int x7)]) : W p l e rm_X12_makes s m args below meth c H locs 0 0 (MQ below (rf_Qv P o ad post) args s 0 0 (rf_A o ad)) (F0 m 183 ls []) := by
  obtain ⟨hx, hb, hml, hown, hK, -, -⟩ := id hC
  refine lv_iload hx hb dX12_makes_183 (lv_at hl 6 rfl) ?_
  refine lv_istore (lv' := [(6, _), (0, _), (1, _), (2, _), (3, _), (4, _), (5, _), (7, _)]) hx hb dX12_makes_185 hl (by decide) rfl (fun ls hl => ?_)
  exact t_X12_makes_187 hC hk89 hk106 σ x1 x2 x3 x4 x5 x7 x7 _ _ _ h hT (lv_sub hl [1, 2, 3, 4, 5, 6, 0, 7] rfl)
end
def w_X12_makes_152 (post : rf_S → Prop) (k89 : rf_S → Int32 → Int32 → Int32 → Int32 → Int32 → Prop) (k106 : rf_S → Int32 → Int32 → Int32 → Int32 → Int32 → Int32 → Int32 → Prop) (σ : rf_S) (x1 : Int32) (x2 : Int32) (x3 : Int32) (x4 : Int32) (x5 : Int32) (x6 : Int32) (x7 : Int32) : Prop := (x6 < 0 → w_X12_makes_183 post k89 k106 σ x1 x2 x3 x4 x5 x7) ∧ (¬ x6 < 0 → vp_in ((3 * x3) + x7) (rf_n 37) ∧ vp_in ((3 * x3) + x6) (rf_n 37) ∧ (0 ≤ (lg_cmp (σ.2.2.2 37 ((3 * x3) + x7).toNatClampNeg) (σ.2.2.2 37 ((3 * x3) + x6).toNatClampNeg)) → w_X12_makes_187 post k89 k106 σ x1 x2 x3 x4 x5 x6 x7) ∧ (¬ 0 ≤ (lg_cmp (σ.2.2.2 37 ((3 * x3) + x7).toNatClampNeg) (σ.2.2.2 37 ((3 * x3) + x6).toNatClampNeg)) → w_X12_makes_183 post k89 k106 σ x1 x2 x3 x4 x5 x7))
section
variable {p : Program} {l : Launch} {e : Env} {s : State} {m : MethodId} {args : Array Value} {below : List Frame} {meth : Method} {c : Code} {P : hw_G} {o : Nat} {ad : Nat → Nat}
set_option maxRecDepth 100000 in
set_option maxHeartbeats 4000000 in
theorem t_X12_makes_152 {post : rf_S → Prop} {k89 : rf_S → Int32 → Int32 → Int32 → Int32 → Int32 → Prop} {k106 : rf_S → Int32 → Int32 → Int32 → Int32 → Int32 → Int32 → Int32 → Prop} (hC : rf_C P RX12 p s m meth c cX12_makes 8 none) (hk89 : ∀ (σ : rf_S) (x1 : Int32) (x2 : Int32) (x3 : Int32) (x4 : Int32) (x5 : Int32) (H : Heap) (locs : List Loc) (ls : Array Slot), k89 σ x1 x2 x3 x4 x5 → rf_T P s (rf_A o ad) o ad σ H locs → lv_has ls 8 [(0, .ref o), (1, .int x1), (2, .int x2), (3, .int x3), (4, .int x4), (5, .int x5)] → W p l e rm_X12_makes s m args below meth c H locs 0 0 (MQ below (rf_Qv P o ad post) args s 0 0 (rf_A o ad)) (F0 m 89 ls [])) (hk106 : ∀ (σ : rf_S) (x1 : Int32) (x2 : Int32) (x3 : Int32) (x4 : Int32) (x5 : Int32) (x6 : Int32) (x7 : Int32) (H : Heap) (locs : List Loc) (ls : Array Slot), k106 σ x1 x2 x3 x4 x5 x6 x7 → rf_T P s (rf_A o ad) o ad σ H locs → lv_has ls 8 [(0, .ref o), (1, .int x1), (2, .int x2), (3, .int x3), (4, .int x4), (5, .int x5), (6, .int x6), (7, .int x7)] → W p l e rm_X12_makes s m args below meth c H locs 0 0 (MQ below (rf_Qv P o ad post) args s 0 0 (rf_A o ad)) (F0 m 106 ls [])) (σ : rf_S) (x1 : Int32) (x2 : Int32) (x3 : Int32) (x4 : Int32) (x5 : Int32) (x6 : Int32) (x7 : Int32) (H : Heap) (locs : List Loc) (ls : Array Slot) (h : w_X12_makes_152 post k89 k106 σ x1 x2 x3 x4 x5 x6 x7) (hT : rf_T P s (rf_A o ad) o ad σ H locs) (hl : lv_has ls 8 [(0, .ref o), (1, .int x1), (2, .int x2), (3, .int x3), (4, .int x4), (5, .int x5), (6, .int x6), (7, .int x7)]) : W p l e rm_X12_makes s m args below meth c H locs 0 0 (MQ below (rf_Qv P o ad post) args s 0 0 (rf_A o ad)) (F0 m 152 ls []) := by
  obtain ⟨hx, hb, hml, hown, hK, -, -⟩ := id hC
  refine lv_iload hx hb dX12_makes_152 (lv_at hl 6 rfl) ?_
  refine lv_if_lt (tgt := 183) hx hb dX12_makes_154 (by decide) (fun hc => ?_) (fun hc => ?_)
  · have h := h.1 hc
    exact t_X12_makes_183 hC hk89 hk106 σ x1 x2 x3 x4 x5 x7 _ _ _ h hT (lv_sub hl [0, 1, 2, 3, 4, 5, 7] rfl)
  · have h := h.2 hc
    refine lv_aload_n hx hb dX12_makes_157 rfl (lv_at hl 0 rfl) ?_
    refine rf_get hx hb hK hT hown 37 (by decide) kfX12_205 (v := .ref (ad 37)) rfl dX12_makes_158 ?_
    refine lv_iconst (v := 3) hx hb dX12_makes_161 (by decide) ?_
    refine lv_iload_n hx hb dX12_makes_162 rfl (lv_at hl 3 rfl) ?_
    refine lv_imul hx hb dX12_makes_163 ?_
    refine lv_iload hx hb dX12_makes_164 (lv_at hl 7 rfl) ?_
    refine lv_iadd hx hb dX12_makes_166 ?_
    obtain ⟨hi, h⟩ := h
    refine rf_lald hx hb hK hT 37 (by decide) rfl hi (v := σ.2.2.2 37 ((3 * x3) + x7).toNatClampNeg) rfl dX12_makes_167 ?_
    refine lv_aload_n hx hb dX12_makes_168 rfl (lv_at hl 0 rfl) ?_
    refine rf_get hx hb hK hT hown 37 (by decide) kfX12_205 (v := .ref (ad 37)) rfl dX12_makes_169 ?_
    refine lv_iconst (v := 3) hx hb dX12_makes_172 (by decide) ?_
    refine lv_iload_n hx hb dX12_makes_173 rfl (lv_at hl 3 rfl) ?_
    refine lv_imul hx hb dX12_makes_174 ?_
    refine lv_iload hx hb dX12_makes_175 (lv_at hl 6 rfl) ?_
    refine lv_iadd hx hb dX12_makes_177 ?_
    obtain ⟨hi, h⟩ := h
    refine rf_lald hx hb hK hT 37 (by decide) rfl hi (v := σ.2.2.2 37 ((3 * x3) + x6).toNatClampNeg) rfl dX12_makes_178 ?_
    refine W.lcmp hx hb dX12_makes_179 ?_
    refine lv_if_ge (tgt := 187) hx hb dX12_makes_180 (by decide) (fun hc => ?_) (fun hc => ?_)
    · have h := h.1 hc
      exact t_X12_makes_187 hC hk89 hk106 σ x1 x2 x3 x4 x5 x6 x7 _ _ _ h hT (lv_sub hl [0, 1, 2, 3, 4, 5, 6, 7] rfl)
    · have h := h.2 hc
      exact t_X12_makes_183 hC hk89 hk106 σ x1 x2 x3 x4 x5 x7 _ _ _ h hT (lv_sub hl [0, 1, 2, 3, 4, 5, 7] rfl)
end
def w_X12_makes_106 (post : rf_S → Prop) (k89 : rf_S → Int32 → Int32 → Int32 → Int32 → Int32 → Prop) : Nat → rf_S → Int32 → Int32 → Int32 → Int32 → Int32 → Int32 → Int32 → Prop
  | 0, _, _, _, _, _, _, _, _ => False
  | n + 1, σ, x1, x2, x3, x4, x5, x6, x7 => vp_in x3 (rf_n 43) ∧ ((σ.2.2.1 43 x3.toNatClampNeg) ≤ x7 → vp_in ((3 * x3) + x6) (rf_n 37) ∧ wp_X12_fieldOf (fun r4 σ4 => wp_X12_moved (fun σ5 => k89 σ5 x1 x2 x3 x4 (x5 + 1)) σ4 r4 ((8 * x4) + x5)) σ x2 (σ.2.2.2 37 ((3 * x3) + x6).toNatClampNeg)) ∧ (¬ (σ.2.2.1 43 x3.toNatClampNeg) ≤ x7 → (x5 = 0 → w_X12_makes_152 post k89 (w_X12_makes_106 post k89 n) σ x1 x2 x3 x4 x5 x6 x7) ∧ (¬ x5 = 0 → vp_in ((3 * x3) + x7) (rf_n 37) ∧ vp_in (((8 * x4) + x5) - 1) (rf_n 13) ∧ ((lg_cmp (σ.2.2.2 37 ((3 * x3) + x7).toNatClampNeg) (σ.2.2.2 13 (((8 * x4) + x5) - 1).toNatClampNeg)) ≤ 0 → w_X12_makes_187 post k89 (w_X12_makes_106 post k89 n) σ x1 x2 x3 x4 x5 x6 x7) ∧ (¬ (lg_cmp (σ.2.2.2 37 ((3 * x3) + x7).toNatClampNeg) (σ.2.2.2 13 (((8 * x4) + x5) - 1).toNatClampNeg)) ≤ 0 → w_X12_makes_152 post k89 (w_X12_makes_106 post k89 n) σ x1 x2 x3 x4 x5 x6 x7)))
section
variable {p : Program} {l : Launch} {e : Env} {s : State} {m : MethodId} {args : Array Value} {below : List Frame} {meth : Method} {c : Code} {P : hw_G} {o : Nat} {ad : Nat → Nat}
set_option maxRecDepth 100000 in
set_option maxHeartbeats 4000000 in
theorem t_X12_makes_106 {post : rf_S → Prop} {k89 : rf_S → Int32 → Int32 → Int32 → Int32 → Int32 → Prop} (hC : rf_C P RX12 p s m meth c cX12_makes 8 none) (hk89 : ∀ (σ : rf_S) (x1 : Int32) (x2 : Int32) (x3 : Int32) (x4 : Int32) (x5 : Int32) (H : Heap) (locs : List Loc) (ls : Array Slot), k89 σ x1 x2 x3 x4 x5 → rf_T P s (rf_A o ad) o ad σ H locs → lv_has ls 8 [(0, .ref o), (1, .int x1), (2, .int x2), (3, .int x3), (4, .int x4), (5, .int x5)] → W p l e rm_X12_makes s m args below meth c H locs 0 0 (MQ below (rf_Qv P o ad post) args s 0 0 (rf_A o ad)) (F0 m 89 ls [])) : ∀ (n : Nat) (σ : rf_S) (x1 : Int32) (x2 : Int32) (x3 : Int32) (x4 : Int32) (x5 : Int32) (x6 : Int32) (x7 : Int32) (H : Heap) (locs : List Loc) (ls : Array Slot), w_X12_makes_106 post k89 n σ x1 x2 x3 x4 x5 x6 x7 → rf_T P s (rf_A o ad) o ad σ H locs → lv_has ls 8 [(0, .ref o), (1, .int x1), (2, .int x2), (3, .int x3), (4, .int x4), (5, .int x5), (6, .int x6), (7, .int x7)] → W p l e rm_X12_makes s m args below meth c H locs 0 0 (MQ below (rf_Qv P o ad post) args s 0 0 (rf_A o ad)) (F0 m 106 ls []) := by
  obtain ⟨hx, hb, hml, hown, hK, -, -⟩ := id hC
  intro n
  induction n with
  | zero => intro σ x1 x2 x3 x4 x5 x6 x7 H locs ls h; exact False.elim h
  | succ n ih =>
    intro σ x1 x2 x3 x4 x5 x6 x7 H locs ls h hT hl
    refine lv_iload hx hb dX12_makes_106 (lv_at hl 7 rfl) ?_
    refine lv_aload_n hx hb dX12_makes_108 rfl (lv_at hl 0 rfl) ?_
    refine rf_get hx hb hK hT hown 43 (by decide) kfX12_223 (v := .ref (ad 43)) rfl dX12_makes_109 ?_
    refine lv_iload_n hx hb dX12_makes_112 rfl (lv_at hl 3 rfl) ?_
    obtain ⟨hi, h⟩ := h
    refine rf_iald hx hb hK hT 43 (by decide) rfl hi (v := σ.2.2.1 43 x3.toNatClampNeg) rfl dX12_makes_113 ?_
    refine lv_icmp_ge (tgt := 193) hx hb dX12_makes_114 (by decide) (fun hc => ?_) (fun hc => ?_)
    · have h := h.1 hc
      refine lv_aload_n hx hb dX12_makes_193 rfl (lv_at hl 0 rfl) ?_
      refine lv_aload_n hx hb dX12_makes_194 rfl (lv_at hl 0 rfl) ?_
      refine lv_iload_n hx hb dX12_makes_195 rfl (lv_at hl 2 rfl) ?_
      refine lv_aload_n hx hb dX12_makes_196 rfl (lv_at hl 0 rfl) ?_
      refine rf_get hx hb hK hT hown 37 (by decide) kfX12_205 (v := .ref (ad 37)) rfl dX12_makes_197 ?_
      refine lv_iconst (v := 3) hx hb dX12_makes_200 (by decide) ?_
      refine lv_iload_n hx hb dX12_makes_201 rfl (lv_at hl 3 rfl) ?_
      refine lv_imul hx hb dX12_makes_202 ?_
      refine lv_iload hx hb dX12_makes_203 (lv_at hl 6 rfl) ?_
      refine lv_iadd hx hb dX12_makes_205 ?_
      obtain ⟨hi, h⟩ := h
      refine rf_lald hx hb hK hT 37 (by decide) rfl hi (v := σ.2.2.2 37 ((3 * x3) + x6).toNatClampNeg) rfl dX12_makes_206 ?_
      refine rf_calli (rf_runV hx hb hml hown hK hT (c_X12_fieldOf h) rfl rfl klX12_438 ki_X12_fieldOf ks_X12_fieldOf kn_X12 kc_X12_fieldOf 2 ⟨rfl, by decide, by decide, by decide +kernel⟩ ⟨by decide, by decide⟩ rfl hl.1 rfl (Nat.le_of_ble_eq_true rfl) ⟨Nat.le_refl _, Nat.le_refl _⟩ dX12_makes_207) hT (fun r4 σ4 H locs h hT => ?_)
      refine lv_bipush (v := 8) hx hb dX12_makes_210 (by decide) ?_
      refine lv_iload hx hb dX12_makes_212 (lv_at hl 4 rfl) ?_
      refine lv_imul hx hb dX12_makes_214 ?_
      refine lv_iload hx hb dX12_makes_215 (lv_at hl 5 rfl) ?_
      refine lv_iadd hx hb dX12_makes_217 ?_
      refine rf_callv (rf_runV hx hb hml hown hK hT (c_X12_moved h) rfl rfl klX12_176 ki_X12_moved ks_X12_moved kn_X12 kc_X12_moved 2 ⟨rfl, by decide, by decide, by decide +kernel⟩ ⟨by decide, by decide⟩ rfl hl.1 rfl (Nat.le_of_ble_eq_true rfl) ⟨Nat.le_refl _, Nat.le_refl _⟩ dX12_makes_218) hT (fun σ5 H locs h hT => ?_)
      refine lv_iinc (v := x5 + 1) (lv' := [(5, _), (0, _), (1, _), (2, _), (3, _), (4, _), (6, _), (7, _)]) hx hb dX12_makes_221 hl (k := 5) rfl rfl (by decide) rfl (fun ls hl => ?_)
      refine lv_goto (tgt := 89) hx hb dX12_makes_224 (by decide) ?_
      exact hk89 σ5 x1 x2 x3 x4 (x5 + 1) _ _ _ h hT (lv_sub hl [1, 2, 3, 4, 5, 0] rfl)
    · have h := h.2 hc
      refine lv_iload hx hb dX12_makes_117 (lv_at hl 5 rfl) ?_
      refine lv_if_eq (tgt := 152) hx hb dX12_makes_119 (by decide) (fun hc => ?_) (fun hc => ?_)
      · have h := h.1 hc
        exact t_X12_makes_152 hC hk89 ih σ x1 x2 x3 x4 x5 x6 x7 _ _ _ h hT (lv_sub hl [0, 1, 2, 3, 4, 5, 6, 7] rfl)
      · have h := h.2 hc
        refine lv_aload_n hx hb dX12_makes_122 rfl (lv_at hl 0 rfl) ?_
        refine rf_get hx hb hK hT hown 37 (by decide) kfX12_205 (v := .ref (ad 37)) rfl dX12_makes_123 ?_
        refine lv_iconst (v := 3) hx hb dX12_makes_126 (by decide) ?_
        refine lv_iload_n hx hb dX12_makes_127 rfl (lv_at hl 3 rfl) ?_
        refine lv_imul hx hb dX12_makes_128 ?_
        refine lv_iload hx hb dX12_makes_129 (lv_at hl 7 rfl) ?_
        refine lv_iadd hx hb dX12_makes_131 ?_
        obtain ⟨hi, h⟩ := h
        refine rf_lald hx hb hK hT 37 (by decide) rfl hi (v := σ.2.2.2 37 ((3 * x3) + x7).toNatClampNeg) rfl dX12_makes_132 ?_
        refine lv_aload_n hx hb dX12_makes_133 rfl (lv_at hl 0 rfl) ?_
        refine rf_get hx hb hK hT hown 13 (by decide) kfX12_100 (v := .ref (ad 13)) rfl dX12_makes_134 ?_
        refine lv_bipush (v := 8) hx hb dX12_makes_137 (by decide) ?_
        refine lv_iload hx hb dX12_makes_139 (lv_at hl 4 rfl) ?_
        refine lv_imul hx hb dX12_makes_141 ?_
        refine lv_iload hx hb dX12_makes_142 (lv_at hl 5 rfl) ?_
        refine lv_iadd hx hb dX12_makes_144 ?_
        refine lv_iconst (v := 1) hx hb dX12_makes_145 (by decide) ?_
        refine lv_isub hx hb dX12_makes_146 ?_
        obtain ⟨hi, h⟩ := h
        refine rf_lald hx hb hK hT 13 (by decide) rfl hi (v := σ.2.2.2 13 (((8 * x4) + x5) - 1).toNatClampNeg) rfl dX12_makes_147 ?_
        refine W.lcmp hx hb dX12_makes_148 ?_
        refine lv_if_le (tgt := 187) hx hb dX12_makes_149 (by decide) (fun hc => ?_) (fun hc => ?_)
        · have h := h.1 hc
          exact t_X12_makes_187 hC hk89 ih σ x1 x2 x3 x4 x5 x6 x7 _ _ _ h hT (lv_sub hl [0, 1, 2, 3, 4, 5, 6, 7] rfl)
        · have h := h.2 hc
          exact t_X12_makes_152 hC hk89 ih σ x1 x2 x3 x4 x5 x6 x7 _ _ _ h hT (lv_sub hl [0, 1, 2, 3, 4, 5, 6, 7] rfl)
end
def w_X12_makes_89 (post : rf_S → Prop) : Nat → rf_S → Int32 → Int32 → Int32 → Int32 → Int32 → Prop
  | 0, _, _, _, _, _, _ => False
  | n + 1, σ, x1, x2, x3, x4, x5 => vp_in x3 (rf_n 43) ∧ ((σ.2.2.1 43 x3.toNatClampNeg) ≤ x5 → wp_X12_looked (fun σ6 => post σ6) σ x4 (x1 + 1)) ∧ (¬ (σ.2.2.1 43 x3.toNatClampNeg) ≤ x5 → ∃ n9, w_X12_makes_106 post (w_X12_makes_89 post n) n9 σ x1 x2 x3 x4 x5 ((-1)) 0)
section
variable {p : Program} {l : Launch} {e : Env} {s : State} {m : MethodId} {args : Array Value} {below : List Frame} {meth : Method} {c : Code} {P : hw_G} {o : Nat} {ad : Nat → Nat}
set_option maxRecDepth 100000 in
set_option maxHeartbeats 4000000 in
theorem t_X12_makes_89 {post : rf_S → Prop} (hC : rf_C P RX12 p s m meth c cX12_makes 8 none) : ∀ (n : Nat) (σ : rf_S) (x1 : Int32) (x2 : Int32) (x3 : Int32) (x4 : Int32) (x5 : Int32) (H : Heap) (locs : List Loc) (ls : Array Slot), w_X12_makes_89 post n σ x1 x2 x3 x4 x5 → rf_T P s (rf_A o ad) o ad σ H locs → lv_has ls 8 [(0, .ref o), (1, .int x1), (2, .int x2), (3, .int x3), (4, .int x4), (5, .int x5)] → W p l e rm_X12_makes s m args below meth c H locs 0 0 (MQ below (rf_Qv P o ad post) args s 0 0 (rf_A o ad)) (F0 m 89 ls []) := by
  obtain ⟨hx, hb, hml, hown, hK, -, -⟩ := id hC
  intro n
  induction n with
  | zero => intro σ x1 x2 x3 x4 x5 H locs ls h; exact False.elim h
  | succ n ih =>
    intro σ x1 x2 x3 x4 x5 H locs ls h hT hl
    refine lv_iload hx hb dX12_makes_89 (lv_at hl 5 rfl) ?_
    refine lv_aload_n hx hb dX12_makes_91 rfl (lv_at hl 0 rfl) ?_
    refine rf_get hx hb hK hT hown 43 (by decide) kfX12_223 (v := .ref (ad 43)) rfl dX12_makes_92 ?_
    refine lv_iload_n hx hb dX12_makes_95 rfl (lv_at hl 3 rfl) ?_
    obtain ⟨hi, h⟩ := h
    refine rf_iald hx hb hK hT 43 (by decide) rfl hi (v := σ.2.2.1 43 x3.toNatClampNeg) rfl dX12_makes_96 ?_
    refine lv_icmp_ge (tgt := 227) hx hb dX12_makes_97 (by decide) (fun hc => ?_) (fun hc => ?_)
    · have h := h.1 hc
      refine lv_aload_n hx hb dX12_makes_227 rfl (lv_at hl 0 rfl) ?_
      refine lv_iload hx hb dX12_makes_228 (lv_at hl 4 rfl) ?_
      refine lv_iload_n hx hb dX12_makes_230 rfl (lv_at hl 1 rfl) ?_
      refine lv_iconst (v := 1) hx hb dX12_makes_231 (by decide) ?_
      refine lv_iadd hx hb dX12_makes_232 ?_
      refine rf_callv (rf_runV hx hb hml hown hK hT (c_X12_looked h) rfl rfl klX12_183 ki_X12_looked ks_X12_looked kn_X12 kc_X12_looked 2 ⟨rfl, by decide, by decide, by decide +kernel⟩ ⟨by decide, by decide⟩ rfl hl.1 rfl (Nat.le_of_ble_eq_true rfl) ⟨Nat.le_refl _, Nat.le_refl _⟩ dX12_makes_233) hT (fun σ6 H locs h hT => ?_)
      exact rf_vret hC hT h dX12_makes_236
    · have h := h.2 hc
      refine lv_iconst (v := (-1)) hx hb dX12_makes_100 (by decide) ?_
      refine lv_istore (lv' := [(6, _), (0, _), (1, _), (2, _), (3, _), (4, _), (5, _)]) hx hb dX12_makes_101 hl (by decide) rfl (fun ls hl => ?_)
      refine lv_iconst (v := 0) hx hb dX12_makes_103 (by decide) ?_
      refine lv_istore (lv' := [(7, _), (6, _), (0, _), (1, _), (2, _), (3, _), (4, _), (5, _)]) hx hb dX12_makes_104 hl (by decide) rfl (fun ls hl => ?_)
      obtain ⟨n9, h⟩ := h
      exact t_X12_makes_106 hC ih n9 σ x1 x2 x3 x4 x5 ((-1)) 0 _ _ _ h hT (lv_sub hl [2, 3, 4, 5, 6, 7, 1, 0] rfl)
end
def wp_X12_makes (post : rf_S → Prop) (σ : rf_S) (p1 : Int32) (p2 : Int32) : Prop := vp_in (σ.1 19) (rf_n 8) ∧ vp_in (σ.1 19) (rf_n 10) ∧ vp_in (σ.1 19) (rf_n 11) ∧ vp_in (σ.1 19) (rf_n 12) ∧ vp_in ((12 * (σ.1 32)) + p1) (rf_n 43) ∧ vp_in (σ.1 19) (rf_n 9) ∧ ∃ n9, w_X12_makes_89 post n9 (rf_ua (rf_ub (rf_ub (rf_ua (rf_ua (rf_ui (rf_ui σ 19 ((σ.1 19) + 1)) 23 ((σ.1 23) + 1)) 8 (σ.1 19).toNatClampNeg (σ.1 21)) 10 (σ.1 19).toNatClampNeg p1) 11 (σ.1 19).toNatClampNeg 7020097461410594816) 12 (σ.1 19).toNatClampNeg 0) 9 (σ.1 19).toNatClampNeg (σ.2.2.1 43 ((12 * (σ.1 32)) + p1).toNatClampNeg)) p1 p2 ((12 * (σ.1 32)) + p1) (σ.1 19) 0
set_option maxRecDepth 100000 in
set_option maxHeartbeats 4000000 in
theorem c_X12_makes {l : Launch} {P : hw_G} {o : Nat} {ad : Nat → Nat} {σ : rf_S} {p1 : Int32} {p2 : Int32} {post : rf_S → Prop} (h : wp_X12_makes post σ p1 p2) : Met l yX12_makes [Cond.code yX12_makes cX12_makes 8 none] rm_X12_makes (rf_Pc P o ad σ [.ref o, .int p1, .int p2]) (rf_Qv P o ad post) 0 0 (rf_A o ad) := by
  refine rf_met (by decide) rfl (Nat.le_of_ble_eq_true rfl) ?_
  intro p e s m below meth c ls hC hT hl
  obtain ⟨hx, hb, hml, hown, hK, -, -⟩ := id hC
  have hl : lv_has ls 8 [(0, .ref o), (1, .int p1), (2, .int p2)] := hl
  refine lv_bipush (v := 12) hx hb dX12_makes_0 (by decide) ?_
  refine lv_aload_n hx hb dX12_makes_2 rfl (lv_at hl 0 rfl) ?_
  refine rf_get hx hb hK hT hown 32 (by decide) kfX12_368 (v := .int (σ.1 32)) rfl dX12_makes_3 ?_
  refine lv_imul hx hb dX12_makes_6 ?_
  refine lv_iload_n hx hb dX12_makes_7 rfl (lv_at hl 1 rfl) ?_
  refine lv_iadd hx hb dX12_makes_8 ?_
  refine lv_istore_n (lv' := [(3, _), (0, _), (1, _), (2, _)]) hx hb dX12_makes_9 rfl hl (by decide) rfl (fun ls hl => ?_)
  refine lv_aload_n hx hb dX12_makes_10 rfl (lv_at hl 1 rfl) ?_
  refine rf_get hx hb hK hT hown 19 (by decide) kfX12_58 (v := .int (σ.1 19)) rfl dX12_makes_11 ?_
  refine lv_istore (lv' := [(4, _), (3, _), (0, _), (1, _), (2, _)]) hx hb dX12_makes_14 hl (by decide) rfl (fun ls hl => ?_)
  refine lv_aload_n hx hb dX12_makes_16 rfl (lv_at hl 2 rfl) ?_
  refine lv_dup hx hb dX12_makes_17 rfl ?_
  refine rf_get hx hb hK hT hown 19 (by decide) kfX12_58 (v := .int (σ.1 19)) rfl dX12_makes_18 ?_
  refine lv_iconst (v := 1) hx hb dX12_makes_21 (by decide) ?_
  refine lv_iadd hx hb dX12_makes_22 ?_
  refine rf_puti hx hb hK hT hown 19 (by decide) kfX12_58 rfl rfl dX12_makes_23 (fun H locs hT => ?_)
  refine lv_aload_n hx hb dX12_makes_26 rfl (lv_at hl 2 rfl) ?_
  refine lv_dup hx hb dX12_makes_27 rfl ?_
  refine rf_get hx hb hK hT hown 23 (by decide) kfX12_70 (v := .int (σ.1 23)) rfl dX12_makes_28 ?_
  refine lv_iconst (v := 1) hx hb dX12_makes_31 (by decide) ?_
  refine lv_iadd hx hb dX12_makes_32 ?_
  refine rf_puti hx hb hK hT hown 23 (by decide) kfX12_70 rfl rfl dX12_makes_33 (fun H locs hT => ?_)
  refine lv_aload_n hx hb dX12_makes_36 rfl (lv_at hl 2 rfl) ?_
  refine rf_get hx hb hK hT hown 8 (by decide) kfX12_170 (v := .ref (ad 8)) rfl dX12_makes_37 ?_
  refine lv_iload hx hb dX12_makes_40 (lv_at hl 0 rfl) ?_
  refine lv_aload_n hx hb dX12_makes_42 rfl (lv_at hl 2 rfl) ?_
  refine rf_get hx hb hK hT hown 21 (by decide) kfX12_64 (v := .int (σ.1 21)) rfl dX12_makes_43 ?_
  obtain ⟨hi, h⟩ := h
  refine rf_iast hx hb hK hT 8 (by decide) rfl hi dX12_makes_46 (fun H locs hT => ?_)
  refine lv_aload_n hx hb dX12_makes_47 rfl (lv_at hl 2 rfl) ?_
  refine rf_get hx hb hK hT hown 10 (by decide) kfX12_173 (v := .ref (ad 10)) rfl dX12_makes_48 ?_
  refine lv_iload hx hb dX12_makes_51 (lv_at hl 0 rfl) ?_
  refine lv_iload_n hx hb dX12_makes_53 rfl (lv_at hl 3 rfl) ?_
  obtain ⟨hi, h⟩ := h
  refine rf_iast hx hb hK hT 10 (by decide) rfl hi dX12_makes_54 (fun H locs hT => ?_)
  refine lv_aload_n hx hb dX12_makes_55 rfl (lv_at hl 2 rfl) ?_
  refine rf_get hx hb hK hT hown 11 (by decide) kfX12_145 (v := .ref (ad 11)) rfl dX12_makes_56 ?_
  refine lv_iload hx hb dX12_makes_59 (lv_at hl 0 rfl) ?_
  refine lv_ldc2 (v := 7020097461410594816) hx hb hown (hK.word kkX12_502 rfl) dX12_makes_61 ?_
  obtain ⟨hi, h⟩ := h
  refine rf_last hx hb hK hT 11 (by decide) rfl hi dX12_makes_64 (fun H locs hT => ?_)
  refine lv_aload_n hx hb dX12_makes_65 rfl (lv_at hl 2 rfl) ?_
  refine rf_get hx hb hK hT hown 12 (by decide) kfX12_148 (v := .ref (ad 12)) rfl dX12_makes_66 ?_
  refine lv_iload hx hb dX12_makes_69 (lv_at hl 0 rfl) ?_
  refine lv_lconst (v := 0) hx hb dX12_makes_71 (by decide) ?_
  obtain ⟨hi, h⟩ := h
  refine rf_last hx hb hK hT 12 (by decide) rfl hi dX12_makes_72 (fun H locs hT => ?_)
  refine lv_aload_n hx hb dX12_makes_73 rfl (lv_at hl 2 rfl) ?_
  refine rf_get hx hb hK hT hown 9 (by decide) kfX12_97 (v := .ref (ad 9)) rfl dX12_makes_74 ?_
  refine lv_iload hx hb dX12_makes_77 (lv_at hl 0 rfl) ?_
  refine lv_aload_n hx hb dX12_makes_79 rfl (lv_at hl 2 rfl) ?_
  refine rf_get hx hb hK hT hown 43 (by decide) kfX12_223 (v := .ref (ad 43)) rfl dX12_makes_80 ?_
  refine lv_iload_n hx hb dX12_makes_83 rfl (lv_at hl 1 rfl) ?_
  obtain ⟨hi, h⟩ := h
  refine rf_iald hx hb hK hT 43 (by decide) rfl hi (v := σ.2.2.1 43 ((12 * (σ.1 32)) + p1).toNatClampNeg) rfl dX12_makes_84 ?_
  obtain ⟨hi, h⟩ := h
  refine rf_iast hx hb hK hT 9 (by decide) rfl hi dX12_makes_85 (fun H locs hT => ?_)
  refine lv_iconst (v := 0) hx hb dX12_makes_86 (by decide) ?_
  refine lv_istore (lv' := [(5, _), (4, _), (3, _), (0, _), (1, _), (2, _)]) hx hb dX12_makes_87 hl (by decide) rfl (fun ls hl => ?_)
  obtain ⟨n9, h⟩ := h
  exact t_X12_makes_89 hC n9 (rf_ua (rf_ub (rf_ub (rf_ua (rf_ua (rf_ui (rf_ui σ 19 ((σ.1 19) + 1)) 23 ((σ.1 23) + 1)) 8 (σ.1 19).toNatClampNeg (σ.1 21)) 10 (σ.1 19).toNatClampNeg p1) 11 (σ.1 19).toNatClampNeg 7020097461410594816) 12 (σ.1 19).toNatClampNeg 0) 9 (σ.1 19).toNatClampNeg (σ.2.2.1 43 ((12 * (σ.1 32)) + p1).toNatClampNeg)) p1 p2 ((12 * (σ.1 32)) + p1) (σ.1 19) 0 _ _ _ h hT (lv_sub hl [3, 4, 5, 2, 1, 0] rfl)
/-! X12_follow -/
abbrev rm_X12_follow : Room := { frames := 65, cells := 0, slots := 0, locals := 2527 }
def w_X12_follow_49 (post : rf_S → Prop) (k7 : rf_S → Int32 → Int32 → Prop) (σ : rf_S) (x1 : Int32) (x2 : Int32) : Prop := k7 σ x1 (x2 + 1)
section
variable {p : Program} {l : Launch} {e : Env} {s : State} {m : MethodId} {args : Array Value} {below : List Frame} {meth : Method} {c : Code} {P : hw_G} {o : Nat} {ad : Nat → Nat}
set_option maxRecDepth 100000 in
set_option maxHeartbeats 4000000 in
theorem t_X12_follow_49 {post : rf_S → Prop} {k7 : rf_S → Int32 → Int32 → Prop} (hC : rf_C P RX12 p s m meth c cX12_follow 4 none) (hk7 : ∀ (σ : rf_S) (x1 : Int32) (x2 : Int32) (H : Heap) (locs : List Loc) (ls : Array Slot), k7 σ x1 x2 → rf_T P s (rf_A o ad) o ad σ H locs → lv_has ls 4 [(0, .ref o), (1, .int x1), (2, .int x2)] → W p l e rm_X12_follow s m args below meth c H locs 0 0 (MQ below (rf_Qv P o ad post) args s 0 0 (rf_A o ad)) (F0 m 7 ls [])) (σ : rf_S) (x1 : Int32) (x2 : Int32) (H : Heap) (locs : List Loc) (ls : Array Slot) (h : w_X12_follow_49 post k7 σ x1 x2) (hT : rf_T P s (rf_A o ad) o ad σ H locs) (hl : lv_has ls 4 [(0, .ref o), (1, .int x1), (2, .int x2)]) : W p l e rm_X12_follow s m args below meth c H locs 0 0 (MQ below (rf_Qv P o ad post) args s 0 0 (rf_A o ad)) (F0 m 49 ls []) := by
  obtain ⟨hx, hb, hml, hown, hK, -, -⟩ := id hC
  refine lv_iinc (v := x2 + 1) (lv' := [(2, _), (0, _), (1, _)]) hx hb dX12_follow_49 hl (k := 2) rfl rfl (by decide) rfl (fun ls hl => ?_)
  refine lv_goto (tgt := 7) hx hb dX12_follow_52 (by decide) ?_
  exact hk7 σ x1 (x2 + 1) _ _ _ h hT (lv_sub hl [1, 2, 0] rfl)
end
def w_X12_follow_7 (post : rf_S → Prop) : Nat → rf_S → Int32 → Int32 → Prop
  | 0, _, _, _ => False
  | n + 1, σ, x1, x2 => (x1 ≤ x2 → post (rf_ui σ 83 0)) ∧ (¬ x1 ≤ x2 → vp_in x2 (rf_n 82) ∧ vp_in (σ.2.2.1 82 x2.toNatClampNeg) (rf_n 10) ∧ (0 ≤ (σ.2.2.1 10 (σ.2.2.1 82 x2.toNatClampNeg).toNatClampNeg) → w_X12_follow_49 post (w_X12_follow_7 post n) σ x1 x2) ∧ (¬ 0 ≤ (σ.2.2.1 10 (σ.2.2.1 82 x2.toNatClampNeg).toNatClampNeg) → (4000 ≤ (σ.1 19) → w_X12_follow_49 post (w_X12_follow_7 post n) σ x1 x2) ∧ (¬ 4000 ≤ (σ.1 19) → vp_in x2 (rf_n 81) ∧ wp_X12_makes (fun σ2 => w_X12_follow_49 post (w_X12_follow_7 post n) σ2 x1 x2) σ (σ.2.2.1 81 x2.toNatClampNeg) (σ.2.2.1 82 x2.toNatClampNeg))))
section
variable {p : Program} {l : Launch} {e : Env} {s : State} {m : MethodId} {args : Array Value} {below : List Frame} {meth : Method} {c : Code} {P : hw_G} {o : Nat} {ad : Nat → Nat}
set_option maxRecDepth 100000 in
set_option maxHeartbeats 4000000 in
theorem t_X12_follow_7 {post : rf_S → Prop} (hC : rf_C P RX12 p s m meth c cX12_follow 4 none) : ∀ (n : Nat) (σ : rf_S) (x1 : Int32) (x2 : Int32) (H : Heap) (locs : List Loc) (ls : Array Slot), w_X12_follow_7 post n σ x1 x2 → rf_T P s (rf_A o ad) o ad σ H locs → lv_has ls 4 [(0, .ref o), (1, .int x1), (2, .int x2)] → W p l e rm_X12_follow s m args below meth c H locs 0 0 (MQ below (rf_Qv P o ad post) args s 0 0 (rf_A o ad)) (F0 m 7 ls []) := by
  obtain ⟨hx, hb, hml, hown, hK, -, -⟩ := id hC
  intro n
  induction n with
  | zero => intro σ x1 x2 H locs ls h; exact False.elim h
  | succ n ih =>
    intro σ x1 x2 H locs ls h hT hl
    refine lv_iload_n hx hb dX12_follow_7 rfl (lv_at hl 2 rfl) ?_
    refine lv_iload_n hx hb dX12_follow_8 rfl (lv_at hl 1 rfl) ?_
    refine lv_icmp_ge (tgt := 55) hx hb dX12_follow_9 (by decide) (fun hc => ?_) (fun hc => ?_)
    · have h := h.1 hc
      refine lv_aload_n hx hb dX12_follow_55 rfl (lv_at hl 0 rfl) ?_
      refine lv_iconst (v := 0) hx hb dX12_follow_56 (by decide) ?_
      refine rf_puti hx hb hK hT hown 83 (by decide) kfX12_496 rfl rfl dX12_follow_57 (fun H locs hT => ?_)
      exact rf_vret hC hT h dX12_follow_60
    · have h := h.2 hc
      refine lv_aload_n hx hb dX12_follow_12 rfl (lv_at hl 0 rfl) ?_
      refine rf_get hx hb hK hT hown 82 (by decide) kfX12_293 (v := .ref (ad 82)) rfl dX12_follow_13 ?_
      refine lv_iload_n hx hb dX12_follow_16 rfl (lv_at hl 2 rfl) ?_
      obtain ⟨hi, h⟩ := h
      refine rf_sald hx hb hK hT 82 (by decide) rfl hi (v := σ.2.2.1 82 x2.toNatClampNeg) rfl dX12_follow_17 ?_
      refine lv_istore_n (lv' := [(3, _), (0, _), (1, _), (2, _)]) hx hb dX12_follow_18 rfl hl (by decide) rfl (fun ls hl => ?_)
      refine lv_aload_n hx hb dX12_follow_19 rfl (lv_at hl 1 rfl) ?_
      refine rf_get hx hb hK hT hown 10 (by decide) kfX12_173 (v := .ref (ad 10)) rfl dX12_follow_20 ?_
      refine lv_iload_n hx hb dX12_follow_23 rfl (lv_at hl 0 rfl) ?_
      obtain ⟨hi, h⟩ := h
      refine rf_iald hx hb hK hT 10 (by decide) rfl hi (v := σ.2.2.1 10 (σ.2.2.1 82 x2.toNatClampNeg).toNatClampNeg) rfl dX12_follow_24 ?_
      refine lv_if_ge (tgt := 49) hx hb dX12_follow_25 (by decide) (fun hc => ?_) (fun hc => ?_)
      · have h := h.1 hc
        exact t_X12_follow_49 hC ih σ x1 x2 _ _ _ h hT (lv_sub hl [1, 2, 3] rfl)
      · have h := h.2 hc
        refine lv_aload_n hx hb dX12_follow_28 rfl (lv_at hl 1 rfl) ?_
        refine rf_get hx hb hK hT hown 19 (by decide) kfX12_58 (v := .int (σ.1 19)) rfl dX12_follow_29 ?_
        refine lv_sipush (v := 4000) hx hb dX12_follow_32 (by decide) ?_
        refine lv_icmp_ge (tgt := 49) hx hb dX12_follow_35 (by decide) (fun hc => ?_) (fun hc => ?_)
        · have h := h.1 hc
          exact t_X12_follow_49 hC ih σ x1 x2 _ _ _ h hT (lv_sub hl [1, 2, 3] rfl)
        · have h := h.2 hc
          refine lv_aload_n hx hb dX12_follow_38 rfl (lv_at hl 1 rfl) ?_
          refine lv_aload_n hx hb dX12_follow_39 rfl (lv_at hl 1 rfl) ?_
          refine rf_get hx hb hK hT hown 81 (by decide) kfX12_290 (v := .ref (ad 81)) rfl dX12_follow_40 ?_
          refine lv_iload_n hx hb dX12_follow_43 rfl (lv_at hl 3 rfl) ?_
          obtain ⟨hi, h⟩ := h
          refine rf_sald hx hb hK hT 81 (by decide) rfl hi (v := σ.2.2.1 81 x2.toNatClampNeg) rfl dX12_follow_44 ?_
          refine lv_iload_n hx hb dX12_follow_45 rfl (lv_at hl 0 rfl) ?_
          refine rf_callv (rf_runV hx hb hml hown hK hT (c_X12_makes h) rfl rfl klX12_499 ki_X12_makes ks_X12_makes kn_X12 kc_X12_makes 2 ⟨rfl, by decide, by decide, by decide +kernel⟩ ⟨by decide, by decide⟩ rfl hl.1 rfl (Nat.le_of_ble_eq_true rfl) ⟨Nat.le_refl _, Nat.le_refl _⟩ dX12_follow_46) hT (fun σ2 H locs h hT => ?_)
          exact t_X12_follow_49 hC ih σ2 x1 x2 _ _ _ h hT (lv_sub hl [1, 2, 3] rfl)
end
def wp_X12_follow (post : rf_S → Prop) (σ : rf_S)  : Prop := ∃ n9, w_X12_follow_7 post n9 σ (σ.1 83) 0
set_option maxRecDepth 100000 in
set_option maxHeartbeats 4000000 in
theorem c_X12_follow {l : Launch} {P : hw_G} {o : Nat} {ad : Nat → Nat} {σ : rf_S}  {post : rf_S → Prop} (h : wp_X12_follow post σ ) : Met l yX12_follow [Cond.code yX12_follow cX12_follow 4 none] rm_X12_follow (rf_Pc P o ad σ [.ref o]) (rf_Qv P o ad post) 0 0 (rf_A o ad) := by
  refine rf_met (by decide) rfl (Nat.le_of_ble_eq_true rfl) ?_
  intro p e s m below meth c ls hC hT hl
  obtain ⟨hx, hb, hml, hown, hK, -, -⟩ := id hC
  have hl : lv_has ls 4 [(0, .ref o)] := hl
  refine lv_aload_n hx hb dX12_follow_0 rfl (lv_at hl 0 rfl) ?_
  refine rf_get hx hb hK hT hown 83 (by decide) kfX12_496 (v := .int (σ.1 83)) rfl dX12_follow_1 ?_
  refine lv_istore_n (lv' := [(1, _), (0, _)]) hx hb dX12_follow_4 rfl hl (by decide) rfl (fun ls hl => ?_)
  refine lv_iconst (v := 0) hx hb dX12_follow_5 (by decide) ?_
  refine lv_istore_n (lv' := [(2, _), (1, _), (0, _)]) hx hb dX12_follow_6 rfl hl (by decide) rfl (fun ls hl => ?_)
  obtain ⟨n9, h⟩ := h
  exact t_X12_follow_7 hC n9 σ (σ.1 83) 0 _ _ _ h hT (lv_sub hl [2, 1, 0] rfl)
/-! X12_become -/
abbrev rm_X12_become : Room := { frames := 66, cells := 0, slots := 0, locals := 2550 }
def w_X12_become_174 (post : rf_S → Prop) (k2 : rf_S → Int32 → Int32 → Prop) (k85 : rf_S → Int32 → Int32 → Int64 → Int32 → Prop) (k97 : rf_S → Int32 → Int32 → Int64 → Int32 → Int32 → Prop) (σ : rf_S) (x1 : Int32) (x2 : Int32) (x3 : Int64) (x5 : Int32) (x6 : Int32) : Prop := k97 σ x1 x2 x3 x5 (x6 + 1)
section
variable {p : Program} {l : Launch} {e : Env} {s : State} {m : MethodId} {args : Array Value} {below : List Frame} {meth : Method} {c : Code} {P : hw_G} {o : Nat} {ad : Nat → Nat}
set_option maxRecDepth 100000 in
set_option maxHeartbeats 4000000 in
theorem t_X12_become_174 {post : rf_S → Prop} {k2 : rf_S → Int32 → Int32 → Prop} {k85 : rf_S → Int32 → Int32 → Int64 → Int32 → Prop} {k97 : rf_S → Int32 → Int32 → Int64 → Int32 → Int32 → Prop} (hC : rf_C P RX12 p s m meth c cX12_become 7 none) (hk2 : ∀ (σ : rf_S) (x1 : Int32) (x2 : Int32) (H : Heap) (locs : List Loc) (ls : Array Slot), k2 σ x1 x2 → rf_T P s (rf_A o ad) o ad σ H locs → lv_has ls 7 [(0, .ref o), (1, .int x1), (2, .int x2)] → W p l e rm_X12_become s m args below meth c H locs 0 0 (MQ below (rf_Qv P o ad post) args s 0 0 (rf_A o ad)) (F0 m 2 ls [])) (hk85 : ∀ (σ : rf_S) (x1 : Int32) (x2 : Int32) (x3 : Int64) (x5 : Int32) (H : Heap) (locs : List Loc) (ls : Array Slot), k85 σ x1 x2 x3 x5 → rf_T P s (rf_A o ad) o ad σ H locs → lv_has ls 7 [(0, .ref o), (1, .int x1), (2, .int x2), (3, .long x3), (5, .int x5)] → W p l e rm_X12_become s m args below meth c H locs 0 0 (MQ below (rf_Qv P o ad post) args s 0 0 (rf_A o ad)) (F0 m 85 ls [])) (hk97 : ∀ (σ : rf_S) (x1 : Int32) (x2 : Int32) (x3 : Int64) (x5 : Int32) (x6 : Int32) (H : Heap) (locs : List Loc) (ls : Array Slot), k97 σ x1 x2 x3 x5 x6 → rf_T P s (rf_A o ad) o ad σ H locs → lv_has ls 7 [(0, .ref o), (1, .int x1), (2, .int x2), (3, .long x3), (5, .int x5), (6, .int x6)] → W p l e rm_X12_become s m args below meth c H locs 0 0 (MQ below (rf_Qv P o ad post) args s 0 0 (rf_A o ad)) (F0 m 97 ls [])) (σ : rf_S) (x1 : Int32) (x2 : Int32) (x3 : Int64) (x5 : Int32) (x6 : Int32) (H : Heap) (locs : List Loc) (ls : Array Slot) (h : w_X12_become_174 post k2 k85 k97 σ x1 x2 x3 x5 x6) (hT : rf_T P s (rf_A o ad) o ad σ H locs) (hl : lv_has ls 7 [(0, .ref o), (1, .int x1), (2, .int x2), (3, .long x3), (5, .int x5), (6, .int x6)]) : W p l e rm_X12_become s m args below meth c H locs 0 0 (MQ below (rf_Qv P o ad post) args s 0 0 (rf_A o ad)) (F0 m 174 ls []) := by
  obtain ⟨hx, hb, hml, hown, hK, -, -⟩ := id hC
  refine lv_iinc (v := x6 + 1) (lv' := [(6, _), (0, _), (1, _), (2, _), (3, _), (5, _)]) hx hb dX12_become_174 hl (k := 5) rfl rfl (by decide) rfl (fun ls hl => ?_)
  refine lv_goto (tgt := 97) hx hb dX12_become_177 (by decide) ?_
  exact hk97 σ x1 x2 x3 x5 (x6 + 1) _ _ _ h hT (lv_sub hl [1, 2, 3, 4, 5, 0] rfl)
end
def w_X12_become_97 (post : rf_S → Prop) (k2 : rf_S → Int32 → Int32 → Prop) (k85 : rf_S → Int32 → Int32 → Int64 → Int32 → Prop) : Nat → rf_S → Int32 → Int32 → Int64 → Int32 → Int32 → Prop
  | 0, _, _, _, _, _, _ => False
  | n + 1, σ, x1, x2, x3, x5, x6 => ((σ.1 72) ≤ x6 → k85 σ x1 x2 x3 (x5 + 1)) ∧ (¬ (σ.1 72) ≤ x6 → vp_in x6 (rf_n 71) ∧ (¬ (σ.2.2.1 71 x6.toNatClampNeg) = 0 → w_X12_become_174 post k2 k85 (w_X12_become_97 post k2 k85 n) σ x1 x2 x3 x5 x6) ∧ ((σ.2.2.1 71 x6.toNatClampNeg) = 0 → vp_in x6 (rf_n 69) ∧ (¬ (σ.2.2.1 69 x6.toNatClampNeg) = x5 → w_X12_become_174 post k2 k85 (w_X12_become_97 post k2 k85 n) σ x1 x2 x3 x5 x6) ∧ ((σ.2.2.1 69 x6.toNatClampNeg) = x5 → wp_X12_due (fun r5 σ5 => ((lg_cmp r5 x3) = 0 → vp_in x6 (rf_n 71) ∧ vp_in x6 (rf_n 70) ∧ vp_in x6 (rf_n 70) ∧ wp_X12_finds (fun σ6 => w_X12_become_174 post k2 k85 (w_X12_become_97 post k2 k85 n) σ6 x1 x2 x3 x5 x6) (rf_ua σ5 71 x6.toNatClampNeg (vp_nar .boolean 1)) x5 (σ5.2.2.1 70 x6.toNatClampNeg) (σ5.1 21) (σ5.2.2.1 70 x6.toNatClampNeg)) ∧ (¬ (lg_cmp r5 x3) = 0 → w_X12_become_174 post k2 k85 (w_X12_become_97 post k2 k85 n) σ5 x1 x2 x3 x5 x6)) σ x6)))
section
variable {p : Program} {l : Launch} {e : Env} {s : State} {m : MethodId} {args : Array Value} {below : List Frame} {meth : Method} {c : Code} {P : hw_G} {o : Nat} {ad : Nat → Nat}
set_option maxRecDepth 100000 in
set_option maxHeartbeats 4000000 in
theorem t_X12_become_97 {post : rf_S → Prop} {k2 : rf_S → Int32 → Int32 → Prop} {k85 : rf_S → Int32 → Int32 → Int64 → Int32 → Prop} (hC : rf_C P RX12 p s m meth c cX12_become 7 none) (hk2 : ∀ (σ : rf_S) (x1 : Int32) (x2 : Int32) (H : Heap) (locs : List Loc) (ls : Array Slot), k2 σ x1 x2 → rf_T P s (rf_A o ad) o ad σ H locs → lv_has ls 7 [(0, .ref o), (1, .int x1), (2, .int x2)] → W p l e rm_X12_become s m args below meth c H locs 0 0 (MQ below (rf_Qv P o ad post) args s 0 0 (rf_A o ad)) (F0 m 2 ls [])) (hk85 : ∀ (σ : rf_S) (x1 : Int32) (x2 : Int32) (x3 : Int64) (x5 : Int32) (H : Heap) (locs : List Loc) (ls : Array Slot), k85 σ x1 x2 x3 x5 → rf_T P s (rf_A o ad) o ad σ H locs → lv_has ls 7 [(0, .ref o), (1, .int x1), (2, .int x2), (3, .long x3), (5, .int x5)] → W p l e rm_X12_become s m args below meth c H locs 0 0 (MQ below (rf_Qv P o ad post) args s 0 0 (rf_A o ad)) (F0 m 85 ls [])) : ∀ (n : Nat) (σ : rf_S) (x1 : Int32) (x2 : Int32) (x3 : Int64) (x5 : Int32) (x6 : Int32) (H : Heap) (locs : List Loc) (ls : Array Slot), w_X12_become_97 post k2 k85 n σ x1 x2 x3 x5 x6 → rf_T P s (rf_A o ad) o ad σ H locs → lv_has ls 7 [(0, .ref o), (1, .int x1), (2, .int x2), (3, .long x3), (5, .int x5), (6, .int x6)] → W p l e rm_X12_become s m args below meth c H locs 0 0 (MQ below (rf_Qv P o ad post) args s 0 0 (rf_A o ad)) (F0 m 97 ls []) := by
  obtain ⟨hx, hb, hml, hown, hK, -, -⟩ := id hC
  intro n
  induction n with
  | zero => intro σ x1 x2 x3 x5 x6 H locs ls h; exact False.elim h
  | succ n ih =>
    intro σ x1 x2 x3 x5 x6 H locs ls h hT hl
    refine lv_iload hx hb dX12_become_97 (lv_at hl 5 rfl) ?_
    refine lv_aload_n hx hb dX12_become_99 rfl (lv_at hl 0 rfl) ?_
    refine rf_get hx hb hK hT hown 72 (by decide) kfX12_80 (v := .int (σ.1 72)) rfl dX12_become_100 ?_
    refine lv_icmp_ge (tgt := 180) hx hb dX12_become_103 (by decide) (fun hc => ?_) (fun hc => ?_)
    · have h := h.1 hc
      refine lv_iinc (v := x5 + 1) (lv' := [(5, _), (0, _), (1, _), (2, _), (3, _), (6, _)]) hx hb dX12_become_180 hl (k := 4) rfl rfl (by decide) rfl (fun ls hl => ?_)
      refine lv_goto (tgt := 85) hx hb dX12_become_183 (by decide) ?_
      exact hk85 σ x1 x2 x3 (x5 + 1) _ _ _ h hT (lv_sub hl [1, 2, 3, 4, 0] rfl)
    · have h := h.2 hc
      refine lv_aload_n hx hb dX12_become_106 rfl (lv_at hl 0 rfl) ?_
      refine rf_get hx hb hK hT hown 71 (by decide) kfX12_272 (v := .ref (ad 71)) rfl dX12_become_107 ?_
      refine lv_iload hx hb dX12_become_110 (lv_at hl 5 rfl) ?_
      obtain ⟨hi, h⟩ := h
      refine rf_zald hx hb hK hT 71 (by decide) rfl hi (v := σ.2.2.1 71 x6.toNatClampNeg) rfl dX12_become_112 ?_
      refine lv_if_ne (tgt := 174) hx hb dX12_become_113 (by decide) (fun hc => ?_) (fun hc => ?_)
      · have h := h.1 hc
        exact t_X12_become_174 hC hk2 hk85 ih σ x1 x2 x3 x5 x6 _ _ _ h hT (lv_sub hl [0, 1, 2, 3, 4, 5] rfl)
      · have h := h.2 hc
        refine lv_aload_n hx hb dX12_become_116 rfl (lv_at hl 0 rfl) ?_
        refine rf_get hx hb hK hT hown 69 (by decide) kfX12_266 (v := .ref (ad 69)) rfl dX12_become_117 ?_
        refine lv_iload hx hb dX12_become_120 (lv_at hl 5 rfl) ?_
        obtain ⟨hi, h⟩ := h
        refine rf_bald hx hb hK hT 69 (by decide) rfl hi (v := σ.2.2.1 69 x6.toNatClampNeg) rfl dX12_become_122 ?_
        refine lv_iload hx hb dX12_become_123 (lv_at hl 4 rfl) ?_
        refine lv_icmp_ne (tgt := 174) hx hb dX12_become_125 (by decide) (fun hc => ?_) (fun hc => ?_)
        · have h := h.1 hc
          exact t_X12_become_174 hC hk2 hk85 ih σ x1 x2 x3 x5 x6 _ _ _ h hT (lv_sub hl [0, 1, 2, 3, 4, 5] rfl)
        · have h := h.2 hc
          refine lv_aload_n hx hb dX12_become_128 rfl (lv_at hl 0 rfl) ?_
          refine lv_iload hx hb dX12_become_129 (lv_at hl 5 rfl) ?_
          refine rf_calll (rf_runV hx hb hml hown hK hT (c_X12_due h) rfl rfl klX12_486 ki_X12_due ks_X12_due kn_X12 kc_X12_due 1 ⟨rfl, by decide, by decide, by decide +kernel⟩ ⟨by decide, by decide⟩ rfl hl.1 rfl (Nat.le_of_ble_eq_true rfl) ⟨Nat.le_refl _, Nat.le_refl _⟩ dX12_become_131) hT (fun r5 σ5 H locs h hT => ?_)
          refine lv_lload_n hx hb dX12_become_134 rfl (lv_at hl 3 rfl) ?_
          refine W.lcmp hx hb dX12_become_135 ?_
          refine lv_if_eq (tgt := 142) hx hb dX12_become_136 (by decide) (fun hc => ?_) (fun hc => ?_)
          · have h := h.1 hc
            refine lv_aload_n hx hb dX12_become_142 rfl (lv_at hl 0 rfl) ?_
            refine rf_get hx hb hK hT hown 71 (by decide) kfX12_272 (v := .ref (ad 71)) rfl dX12_become_143 ?_
            refine lv_iload hx hb dX12_become_146 (lv_at hl 5 rfl) ?_
            refine lv_iconst (v := 1) hx hb dX12_become_148 (by decide) ?_
            obtain ⟨hi, h⟩ := h
            refine rf_zast hx hb hK hT 71 (by decide) rfl hi dX12_become_149 (fun H locs hT => ?_)
            refine lv_aload_n hx hb dX12_become_150 rfl (lv_at hl 0 rfl) ?_
            refine lv_iload hx hb dX12_become_151 (lv_at hl 4 rfl) ?_
            refine lv_aload_n hx hb dX12_become_153 rfl (lv_at hl 0 rfl) ?_
            refine rf_get hx hb hK hT hown 70 (by decide) kfX12_269 (v := .ref (ad 70)) rfl dX12_become_154 ?_
            refine lv_iload hx hb dX12_become_157 (lv_at hl 5 rfl) ?_
            obtain ⟨hi, h⟩ := h
            refine rf_sald hx hb hK hT 70 (by decide) rfl hi (v := σ5.2.2.1 70 x6.toNatClampNeg) rfl dX12_become_159 ?_
            refine lv_aload_n hx hb dX12_become_160 rfl (lv_at hl 0 rfl) ?_
            refine rf_get hx hb hK hT hown 21 (by decide) kfX12_64 (v := .int (σ5.1 21)) rfl dX12_become_161 ?_
            refine lv_aload_n hx hb dX12_become_164 rfl (lv_at hl 0 rfl) ?_
            refine rf_get hx hb hK hT hown 70 (by decide) kfX12_269 (v := .ref (ad 70)) rfl dX12_become_165 ?_
            refine lv_iload hx hb dX12_become_168 (lv_at hl 5 rfl) ?_
            obtain ⟨hi, h⟩ := h
            refine rf_sald hx hb hK hT 70 (by decide) rfl hi (v := σ5.2.2.1 70 x6.toNatClampNeg) rfl dX12_become_170 ?_
            refine rf_callv (rf_runV hx hb hml hown hK hT (c_X12_finds h) rfl rfl klX12_465 ki_X12_finds ks_X12_finds kn_X12 kc_X12_finds 4 ⟨rfl, by decide, by decide, by decide +kernel⟩ ⟨by decide, by decide⟩ rfl hl.1 rfl (Nat.le_of_ble_eq_true rfl) ⟨Nat.le_refl _, Nat.le_refl _⟩ dX12_become_171) hT (fun σ6 H locs h hT => ?_)
            exact t_X12_become_174 hC hk2 hk85 ih σ6 x1 x2 x3 x5 x6 _ _ _ h hT (lv_sub hl [0, 1, 2, 3, 4, 5] rfl)
          · have h := h.2 hc
            refine lv_goto (tgt := 174) hx hb dX12_become_139 (by decide) ?_
            exact t_X12_become_174 hC hk2 hk85 ih σ5 x1 x2 x3 x5 x6 _ _ _ h hT (lv_sub hl [0, 1, 2, 3, 4, 5] rfl)
end
def w_X12_become_85 (post : rf_S → Prop) (k2 : rf_S → Int32 → Int32 → Prop) : Nat → rf_S → Int32 → Int32 → Int64 → Int32 → Prop
  | 0, _, _, _, _, _ => False
  | n + 1, σ, x1, x2, x3, x5 => ((σ.1 33) ≤ x5 → wp_X12_follow (fun σ7 => k2 σ7 x1 x2) σ) ∧ (¬ (σ.1 33) ≤ x5 → ∃ n9, w_X12_become_97 post k2 (w_X12_become_85 post k2 n) n9 σ x1 x2 x3 x5 0)
section
variable {p : Program} {l : Launch} {e : Env} {s : State} {m : MethodId} {args : Array Value} {below : List Frame} {meth : Method} {c : Code} {P : hw_G} {o : Nat} {ad : Nat → Nat}
set_option maxRecDepth 100000 in
set_option maxHeartbeats 4000000 in
theorem t_X12_become_85 {post : rf_S → Prop} {k2 : rf_S → Int32 → Int32 → Prop} (hC : rf_C P RX12 p s m meth c cX12_become 7 none) (hk2 : ∀ (σ : rf_S) (x1 : Int32) (x2 : Int32) (H : Heap) (locs : List Loc) (ls : Array Slot), k2 σ x1 x2 → rf_T P s (rf_A o ad) o ad σ H locs → lv_has ls 7 [(0, .ref o), (1, .int x1), (2, .int x2)] → W p l e rm_X12_become s m args below meth c H locs 0 0 (MQ below (rf_Qv P o ad post) args s 0 0 (rf_A o ad)) (F0 m 2 ls [])) : ∀ (n : Nat) (σ : rf_S) (x1 : Int32) (x2 : Int32) (x3 : Int64) (x5 : Int32) (H : Heap) (locs : List Loc) (ls : Array Slot), w_X12_become_85 post k2 n σ x1 x2 x3 x5 → rf_T P s (rf_A o ad) o ad σ H locs → lv_has ls 7 [(0, .ref o), (1, .int x1), (2, .int x2), (3, .long x3), (5, .int x5)] → W p l e rm_X12_become s m args below meth c H locs 0 0 (MQ below (rf_Qv P o ad post) args s 0 0 (rf_A o ad)) (F0 m 85 ls []) := by
  obtain ⟨hx, hb, hml, hown, hK, -, -⟩ := id hC
  intro n
  induction n with
  | zero => intro σ x1 x2 x3 x5 H locs ls h; exact False.elim h
  | succ n ih =>
    intro σ x1 x2 x3 x5 H locs ls h hT hl
    refine lv_iload hx hb dX12_become_85 (lv_at hl 4 rfl) ?_
    refine lv_aload_n hx hb dX12_become_87 rfl (lv_at hl 0 rfl) ?_
    refine rf_get hx hb hK hT hown 33 (by decide) kfX12_380 (v := .int (σ.1 33)) rfl dX12_become_88 ?_
    refine lv_icmp_ge (tgt := 186) hx hb dX12_become_91 (by decide) (fun hc => ?_) (fun hc => ?_)
    · have h := h.1 hc
      refine lv_aload_n hx hb dX12_become_186 rfl (lv_at hl 0 rfl) ?_
      refine rf_callv (rf_runV hx hb hml hown hK hT (c_X12_follow h) rfl rfl klX12_186 ki_X12_follow ks_X12_follow kn_X12 kc_X12_follow 0 ⟨rfl, by decide, by decide, by decide +kernel⟩ ⟨by decide, by decide⟩ rfl hl.1 rfl (Nat.le_of_ble_eq_true rfl) ⟨Nat.le_refl _, Nat.le_refl _⟩ dX12_become_187) hT (fun σ7 H locs h hT => ?_)
      refine lv_goto (tgt := 2) hx hb dX12_become_190 (by decide) ?_
      exact hk2 σ7 x1 x2 _ _ _ h hT (lv_sub hl [0, 1, 2] rfl)
    · have h := h.2 hc
      refine lv_iconst (v := 0) hx hb dX12_become_94 (by decide) ?_
      refine lv_istore (lv' := [(6, _), (0, _), (1, _), (2, _), (3, _), (5, _)]) hx hb dX12_become_95 hl (by decide) rfl (fun ls hl => ?_)
      obtain ⟨n9, h⟩ := h
      exact t_X12_become_97 hC hk2 ih n9 σ x1 x2 x3 x5 0 _ _ _ h hT (lv_sub hl [1, 2, 3, 4, 5, 0] rfl)
end
def w_X12_become_60 (post : rf_S → Prop) (k2 : rf_S → Int32 → Int32 → Prop) (σ : rf_S) (x1 : Int32) (x3 : Int64) (y0 : Int32) : Prop := (¬ y0 = 0 → ∃ n9, w_X12_become_85 post k2 n9 (rf_ui (rf_ui σ 21 x3.toInt32) 80 (σ.1 78)) x1 y0 x3 0) ∧ (y0 = 0 → k2 σ x1 y0)
section
variable {p : Program} {l : Launch} {e : Env} {s : State} {m : MethodId} {args : Array Value} {below : List Frame} {meth : Method} {c : Code} {P : hw_G} {o : Nat} {ad : Nat → Nat}
set_option maxRecDepth 100000 in
set_option maxHeartbeats 4000000 in
theorem t_X12_become_60 {post : rf_S → Prop} {k2 : rf_S → Int32 → Int32 → Prop} (hC : rf_C P RX12 p s m meth c cX12_become 7 none) (hk2 : ∀ (σ : rf_S) (x1 : Int32) (x2 : Int32) (H : Heap) (locs : List Loc) (ls : Array Slot), k2 σ x1 x2 → rf_T P s (rf_A o ad) o ad σ H locs → lv_has ls 7 [(0, .ref o), (1, .int x1), (2, .int x2)] → W p l e rm_X12_become s m args below meth c H locs 0 0 (MQ below (rf_Qv P o ad post) args s 0 0 (rf_A o ad)) (F0 m 2 ls [])) (σ : rf_S) (x1 : Int32) (x3 : Int64) (y0 : Int32) (H : Heap) (locs : List Loc) (ls : Array Slot) (h : w_X12_become_60 post k2 σ x1 x3 y0) (hT : rf_T P s (rf_A o ad) o ad σ H locs) (hl : lv_has ls 7 [(0, .ref o), (1, .int x1), (3, .long x3)]) : W p l e rm_X12_become s m args below meth c H locs 0 0 (MQ below (rf_Qv P o ad post) args s 0 0 (rf_A o ad)) (F0 m 60 ls [.int y0]) := by
  obtain ⟨hx, hb, hml, hown, hK, -, -⟩ := id hC
  refine lv_istore_n (lv' := [(2, _), (0, _), (1, _), (3, _)]) hx hb dX12_become_60 rfl hl (by decide) rfl (fun ls hl => ?_)
  refine lv_iload_n hx hb dX12_become_61 rfl (lv_at hl 0 rfl) ?_
  refine lv_if_ne (tgt := 68) hx hb dX12_become_62 (by decide) (fun hc => ?_) (fun hc => ?_)
  · have h := h.1 hc
    refine lv_aload_n hx hb dX12_become_68 rfl (lv_at hl 1 rfl) ?_
    refine lv_lload_n hx hb dX12_become_69 rfl (lv_at hl 3 rfl) ?_
    refine lv_l2i (v := x3.toInt32) hx hb dX12_become_70 rfl ?_
    refine rf_puti hx hb hK hT hown 21 (by decide) kfX12_64 rfl rfl dX12_become_71 (fun H locs hT => ?_)
    refine lv_aload_n hx hb dX12_become_74 rfl (lv_at hl 1 rfl) ?_
    refine lv_aload_n hx hb dX12_become_75 rfl (lv_at hl 1 rfl) ?_
    refine rf_get hx hb hK hT hown 78 (by decide) kfX12_74 (v := .int (σ.1 78)) rfl dX12_become_76 ?_
    refine rf_puti hx hb hK hT hown 80 (by decide) kfX12_180 rfl rfl dX12_become_79 (fun H locs hT => ?_)
    refine lv_iconst (v := 0) hx hb dX12_become_82 (by decide) ?_
    refine lv_istore (lv' := [(5, _), (2, _), (0, _), (1, _), (3, _)]) hx hb dX12_become_83 hl (by decide) rfl (fun ls hl => ?_)
    obtain ⟨n9, h⟩ := h
    exact t_X12_become_85 hC hk2 n9 (rf_ui (rf_ui σ 21 x3.toInt32) 80 (σ.1 78)) x1 y0 x3 0 _ _ _ h hT (lv_sub hl [2, 3, 1, 4, 0] rfl)
  · have h := h.2 hc
    refine lv_goto (tgt := 2) hx hb dX12_become_65 (by decide) ?_
    exact hk2 σ x1 y0 _ _ _ h hT (lv_sub hl [1, 2, 0] rfl)
end
def w_X12_become_42 (post : rf_S → Prop) (k2 : rf_S → Int32 → Int32 → Prop) (k12 : rf_S → Int32 → Int64 → Int32 → Prop) (σ : rf_S) (x1 : Int32) (x3 : Int64) (x5 : Int32) : Prop := k12 σ x1 x3 (x5 + 1)
section
variable {p : Program} {l : Launch} {e : Env} {s : State} {m : MethodId} {args : Array Value} {below : List Frame} {meth : Method} {c : Code} {P : hw_G} {o : Nat} {ad : Nat → Nat}
set_option maxRecDepth 100000 in
set_option maxHeartbeats 4000000 in
theorem t_X12_become_42 {post : rf_S → Prop} {k2 : rf_S → Int32 → Int32 → Prop} {k12 : rf_S → Int32 → Int64 → Int32 → Prop} (hC : rf_C P RX12 p s m meth c cX12_become 7 none) (hk2 : ∀ (σ : rf_S) (x1 : Int32) (x2 : Int32) (H : Heap) (locs : List Loc) (ls : Array Slot), k2 σ x1 x2 → rf_T P s (rf_A o ad) o ad σ H locs → lv_has ls 7 [(0, .ref o), (1, .int x1), (2, .int x2)] → W p l e rm_X12_become s m args below meth c H locs 0 0 (MQ below (rf_Qv P o ad post) args s 0 0 (rf_A o ad)) (F0 m 2 ls [])) (hk12 : ∀ (σ : rf_S) (x1 : Int32) (x3 : Int64) (x5 : Int32) (H : Heap) (locs : List Loc) (ls : Array Slot), k12 σ x1 x3 x5 → rf_T P s (rf_A o ad) o ad σ H locs → lv_has ls 7 [(0, .ref o), (1, .int x1), (3, .long x3), (5, .int x5)] → W p l e rm_X12_become s m args below meth c H locs 0 0 (MQ below (rf_Qv P o ad post) args s 0 0 (rf_A o ad)) (F0 m 12 ls [])) (σ : rf_S) (x1 : Int32) (x3 : Int64) (x5 : Int32) (H : Heap) (locs : List Loc) (ls : Array Slot) (h : w_X12_become_42 post k2 k12 σ x1 x3 x5) (hT : rf_T P s (rf_A o ad) o ad σ H locs) (hl : lv_has ls 7 [(0, .ref o), (1, .int x1), (3, .long x3), (5, .int x5)]) : W p l e rm_X12_become s m args below meth c H locs 0 0 (MQ below (rf_Qv P o ad post) args s 0 0 (rf_A o ad)) (F0 m 42 ls []) := by
  obtain ⟨hx, hb, hml, hown, hK, -, -⟩ := id hC
  refine lv_iinc (v := x5 + 1) (lv' := [(5, _), (0, _), (1, _), (3, _)]) hx hb dX12_become_42 hl (k := 3) rfl rfl (by decide) rfl (fun ls hl => ?_)
  refine lv_goto (tgt := 12) hx hb dX12_become_45 (by decide) ?_
  exact hk12 σ x1 x3 (x5 + 1) _ _ _ h hT (lv_sub hl [1, 2, 3, 0] rfl)
end
def w_X12_become_12 (post : rf_S → Prop) (k2 : rf_S → Int32 → Int32 → Prop) : Nat → rf_S → Int32 → Int64 → Int32 → Prop
  | 0, _, _, _, _ => False
  | n + 1, σ, x1, x3, x5 => ((σ.1 72) ≤ x5 → (0 ≤ (lg_cmp x3 x1.toInt64) → w_X12_become_60 post k2 σ x1 x3 0) ∧ (¬ 0 ≤ (lg_cmp x3 x1.toInt64) → w_X12_become_60 post k2 σ x1 x3 1)) ∧ (¬ (σ.1 72) ≤ x5 → vp_in x5 (rf_n 71) ∧ (¬ (σ.2.2.1 71 x5.toNatClampNeg) = 0 → w_X12_become_42 post k2 (w_X12_become_12 post k2 n) σ x1 x3 x5) ∧ ((σ.2.2.1 71 x5.toNatClampNeg) = 0 → wp_X12_due (fun r8 σ8 => w_X12_become_42 post k2 (w_X12_become_12 post k2 n) σ8 x1 (if r8 < x3 then r8 else x3) x5) σ x5))
section
variable {p : Program} {l : Launch} {e : Env} {s : State} {m : MethodId} {args : Array Value} {below : List Frame} {meth : Method} {c : Code} {P : hw_G} {o : Nat} {ad : Nat → Nat}
set_option maxRecDepth 100000 in
set_option maxHeartbeats 4000000 in
theorem t_X12_become_12 {post : rf_S → Prop} {k2 : rf_S → Int32 → Int32 → Prop} (hC : rf_C P RX12 p s m meth c cX12_become 7 none) (hk2 : ∀ (σ : rf_S) (x1 : Int32) (x2 : Int32) (H : Heap) (locs : List Loc) (ls : Array Slot), k2 σ x1 x2 → rf_T P s (rf_A o ad) o ad σ H locs → lv_has ls 7 [(0, .ref o), (1, .int x1), (2, .int x2)] → W p l e rm_X12_become s m args below meth c H locs 0 0 (MQ below (rf_Qv P o ad post) args s 0 0 (rf_A o ad)) (F0 m 2 ls [])) : ∀ (n : Nat) (σ : rf_S) (x1 : Int32) (x3 : Int64) (x5 : Int32) (H : Heap) (locs : List Loc) (ls : Array Slot), w_X12_become_12 post k2 n σ x1 x3 x5 → rf_T P s (rf_A o ad) o ad σ H locs → lv_has ls 7 [(0, .ref o), (1, .int x1), (3, .long x3), (5, .int x5)] → W p l e rm_X12_become s m args below meth c H locs 0 0 (MQ below (rf_Qv P o ad post) args s 0 0 (rf_A o ad)) (F0 m 12 ls []) := by
  obtain ⟨hx, hb, hml, hown, hK, -, -⟩ := id hC
  intro n
  induction n with
  | zero => intro σ x1 x3 x5 H locs ls h; exact False.elim h
  | succ n ih =>
    intro σ x1 x3 x5 H locs ls h hT hl
    refine lv_iload hx hb dX12_become_12 (lv_at hl 3 rfl) ?_
    refine lv_aload_n hx hb dX12_become_14 rfl (lv_at hl 0 rfl) ?_
    refine rf_get hx hb hK hT hown 72 (by decide) kfX12_80 (v := .int (σ.1 72)) rfl dX12_become_15 ?_
    refine lv_icmp_ge (tgt := 48) hx hb dX12_become_18 (by decide) (fun hc => ?_) (fun hc => ?_)
    · have h := h.1 hc
      refine lv_lload_n hx hb dX12_become_48 rfl (lv_at hl 2 rfl) ?_
      refine lv_iload_n hx hb dX12_become_49 rfl (lv_at hl 1 rfl) ?_
      refine lv_i2l (v := x1.toInt64) hx hb dX12_become_50 rfl ?_
      refine W.lcmp hx hb dX12_become_51 ?_
      refine lv_if_ge (tgt := 59) hx hb dX12_become_52 (by decide) (fun hc => ?_) (fun hc => ?_)
      · have h := h.1 hc
        refine lv_iconst (v := 0) hx hb dX12_become_59 (by decide) ?_
        exact t_X12_become_60 hC hk2 σ x1 x3 0 _ _ _ h hT (lv_sub hl [0, 1, 2] rfl)
      · have h := h.2 hc
        refine lv_iconst (v := 1) hx hb dX12_become_55 (by decide) ?_
        refine lv_goto (tgt := 60) hx hb dX12_become_56 (by decide) ?_
        exact t_X12_become_60 hC hk2 σ x1 x3 1 _ _ _ h hT (lv_sub hl [0, 1, 2] rfl)
    · have h := h.2 hc
      refine lv_aload_n hx hb dX12_become_21 rfl (lv_at hl 0 rfl) ?_
      refine rf_get hx hb hK hT hown 71 (by decide) kfX12_272 (v := .ref (ad 71)) rfl dX12_become_22 ?_
      refine lv_iload hx hb dX12_become_25 (lv_at hl 3 rfl) ?_
      obtain ⟨hi, h⟩ := h
      refine rf_zald hx hb hK hT 71 (by decide) rfl hi (v := σ.2.2.1 71 x5.toNatClampNeg) rfl dX12_become_27 ?_
      refine lv_if_ne (tgt := 42) hx hb dX12_become_28 (by decide) (fun hc => ?_) (fun hc => ?_)
      · have h := h.1 hc
        exact t_X12_become_42 hC hk2 ih σ x1 x3 x5 _ _ _ h hT (lv_sub hl [0, 1, 2, 3] rfl)
      · have h := h.2 hc
        refine lv_lload_n hx hb dX12_become_31 rfl (lv_at hl 2 rfl) ?_
        refine lv_aload_n hx hb dX12_become_32 rfl (lv_at hl 0 rfl) ?_
        refine lv_iload hx hb dX12_become_33 (lv_at hl 3 rfl) ?_
        refine rf_calll (rf_runV hx hb hml hown hK hT (c_X12_due h) rfl rfl klX12_486 ki_X12_due ks_X12_due kn_X12 kc_X12_due 1 ⟨rfl, by decide, by decide, by decide +kernel⟩ ⟨by decide, by decide⟩ rfl hl.1 rfl (Nat.le_of_ble_eq_true rfl) ⟨Nat.le_refl _, Nat.le_refl _⟩ dX12_become_35) hT (fun r8 σ8 H locs h hT => ?_)
        refine va_mmin_long hx hb (hml.trans hl.1.symm) hown (hK.word klX12_490m rfl) (hK.word ki_minl rfl) (hK.word kn_J9 rfl) (hK.word kc_minl rfl) (by decide) (Nat.le_of_ble_eq_true rfl) (Nat.zero_le _) (Nat.zero_le _) dX12_become_38 ?_
        refine lv_lstore_n (lv' := [(3, _), (0, _), (1, _), (5, _)]) hx hb dX12_become_41 rfl hl (by decide) rfl (fun ls hl => ?_)
        exact t_X12_become_42 hC hk2 ih σ8 x1 (if r8 < x3 then r8 else x3) x5 _ _ _ h hT (lv_sub hl [1, 2, 0, 3] rfl)
end
def w_X12_become_2 (post : rf_S → Prop) : Nat → rf_S → Int32 → Int32 → Prop
  | 0, _, _, _ => False
  | n + 1, σ, x1, x2 => (x2 = 0 → post (rf_ui σ 21 x1)) ∧ (¬ x2 = 0 → ∃ n9, w_X12_become_12 post (w_X12_become_2 post n) n9 σ x1 x1.toInt64 0)
section
variable {p : Program} {l : Launch} {e : Env} {s : State} {m : MethodId} {args : Array Value} {below : List Frame} {meth : Method} {c : Code} {P : hw_G} {o : Nat} {ad : Nat → Nat}
set_option maxRecDepth 100000 in
set_option maxHeartbeats 4000000 in
theorem t_X12_become_2 {post : rf_S → Prop} (hC : rf_C P RX12 p s m meth c cX12_become 7 none) : ∀ (n : Nat) (σ : rf_S) (x1 : Int32) (x2 : Int32) (H : Heap) (locs : List Loc) (ls : Array Slot), w_X12_become_2 post n σ x1 x2 → rf_T P s (rf_A o ad) o ad σ H locs → lv_has ls 7 [(0, .ref o), (1, .int x1), (2, .int x2)] → W p l e rm_X12_become s m args below meth c H locs 0 0 (MQ below (rf_Qv P o ad post) args s 0 0 (rf_A o ad)) (F0 m 2 ls []) := by
  obtain ⟨hx, hb, hml, hown, hK, -, -⟩ := id hC
  intro n
  induction n with
  | zero => intro σ x1 x2 H locs ls h; exact False.elim h
  | succ n ih =>
    intro σ x1 x2 H locs ls h hT hl
    refine lv_iload_n hx hb dX12_become_2 rfl (lv_at hl 2 rfl) ?_
    refine lv_if_eq (tgt := 193) hx hb dX12_become_3 (by decide) (fun hc => ?_) (fun hc => ?_)
    · have h := h.1 hc
      refine lv_aload_n hx hb dX12_become_193 rfl (lv_at hl 0 rfl) ?_
      refine lv_iload_n hx hb dX12_become_194 rfl (lv_at hl 1 rfl) ?_
      refine rf_puti hx hb hK hT hown 21 (by decide) kfX12_64 rfl rfl dX12_become_195 (fun H locs hT => ?_)
      exact rf_vret hC hT h dX12_become_198
    · have h := h.2 hc
      refine lv_iload_n hx hb dX12_become_6 rfl (lv_at hl 1 rfl) ?_
      refine lv_i2l (v := x1.toInt64) hx hb dX12_become_7 rfl ?_
      refine lv_lstore_n (lv' := [(3, _), (0, _), (1, _), (2, _)]) hx hb dX12_become_8 rfl hl (by decide) rfl (fun ls hl => ?_)
      refine lv_iconst (v := 0) hx hb dX12_become_9 (by decide) ?_
      refine lv_istore (lv' := [(5, _), (3, _), (0, _), (1, _), (2, _)]) hx hb dX12_become_10 hl (by decide) rfl (fun ls hl => ?_)
      obtain ⟨n9, h⟩ := h
      exact t_X12_become_12 hC ih n9 σ x1 x1.toInt64 0 _ _ _ h hT (lv_sub hl [2, 3, 1, 0] rfl)
end
def wp_X12_become (post : rf_S → Prop) (σ : rf_S) (p1 : Int32) : Prop := ∃ n9, w_X12_become_2 post n9 σ p1 1
set_option maxRecDepth 100000 in
set_option maxHeartbeats 4000000 in
theorem c_X12_become {l : Launch} {P : hw_G} {o : Nat} {ad : Nat → Nat} {σ : rf_S} {p1 : Int32} {post : rf_S → Prop} (h : wp_X12_become post σ p1) : Met l yX12_become [Cond.code yX12_become cX12_become 7 none] rm_X12_become (rf_Pc P o ad σ [.ref o, .int p1]) (rf_Qv P o ad post) 0 0 (rf_A o ad) := by
  refine rf_met (by decide) rfl (Nat.le_of_ble_eq_true rfl) ?_
  intro p e s m below meth c ls hC hT hl
  obtain ⟨hx, hb, hml, hown, hK, -, -⟩ := id hC
  have hl : lv_has ls 7 [(0, .ref o), (1, .int p1)] := hl
  refine lv_iconst (v := 1) hx hb dX12_become_0 (by decide) ?_
  refine lv_istore_n (lv' := [(2, _), (0, _), (1, _)]) hx hb dX12_become_1 rfl hl (by decide) rfl (fun ls hl => ?_)
  obtain ⟨n9, h⟩ := h
  exact t_X12_become_2 hC n9 σ p1 1 _ _ _ h hT (lv_sub hl [1, 2, 0] rfl)
/-! X12_take -/
abbrev rm_X12_take : Room := { frames := 67, cells := 0, slots := 0, locals := 2576 }
def w_X12_take_186 (post : Int32 → rf_S → Prop) (k35 : rf_S → Int32 → Prop) : Nat → rf_S → Int32 → Int32 → Int32 → Prop
  | 0, _, _, _, _ => False
  | n + 1, σ, x1, x3, x4 => vp_in x3 (rf_n 9) ∧ ((σ.2.2.1 9 x3.toNatClampNeg) ≤ x4 → wp_X12_looked (fun σ6 => wp_X12_follow (fun σ7 => k35 σ7 (x1 + 1)) σ6) (rf_ui σ 80 (σ.1 78)) x3 0) ∧ (¬ (σ.2.2.1 9 x3.toNatClampNeg) ≤ x4 → wp_X12_moved (fun σ8 => w_X12_take_186 post k35 n σ8 x1 x3 (x4 + 1)) σ (32000 + x4) ((8 * x3) + x4))
section
variable {p : Program} {l : Launch} {e : Env} {s : State} {m : MethodId} {args : Array Value} {below : List Frame} {meth : Method} {c : Code} {P : hw_G} {o : Nat} {ad : Nat → Nat}
set_option maxRecDepth 100000 in
set_option maxHeartbeats 4000000 in
theorem t_X12_take_186 {post : Int32 → rf_S → Prop} {k35 : rf_S → Int32 → Prop} (hC : rf_C P RX12 p s m meth c cX12_take 5 (some .int)) (hk35 : ∀ (σ : rf_S) (x1 : Int32) (H : Heap) (locs : List Loc) (ls : Array Slot), k35 σ x1 → rf_T P s (rf_A o ad) o ad σ H locs → lv_has ls 5 [(0, .ref o), (1, .int x1)] → W p l e rm_X12_take s m args below meth c H locs 0 0 (MQ below (rf_Qi P o ad post) args s 0 0 (rf_A o ad)) (F0 m 35 ls [])) : ∀ (n : Nat) (σ : rf_S) (x1 : Int32) (x3 : Int32) (x4 : Int32) (H : Heap) (locs : List Loc) (ls : Array Slot), w_X12_take_186 post k35 n σ x1 x3 x4 → rf_T P s (rf_A o ad) o ad σ H locs → lv_has ls 5 [(0, .ref o), (1, .int x1), (3, .int x3), (4, .int x4)] → W p l e rm_X12_take s m args below meth c H locs 0 0 (MQ below (rf_Qi P o ad post) args s 0 0 (rf_A o ad)) (F0 m 186 ls []) := by
  obtain ⟨hx, hb, hml, hown, hK, -, -⟩ := id hC
  intro n
  induction n with
  | zero => intro σ x1 x3 x4 H locs ls h; exact False.elim h
  | succ n ih =>
    intro σ x1 x3 x4 H locs ls h hT hl
    refine lv_iload hx hb dX12_take_186 (lv_at hl 3 rfl) ?_
    refine lv_aload_n hx hb dX12_take_188 rfl (lv_at hl 0 rfl) ?_
    refine rf_get hx hb hK hT hown 9 (by decide) kfX12_97 (v := .ref (ad 9)) rfl dX12_take_189 ?_
    refine lv_iload_n hx hb dX12_take_192 rfl (lv_at hl 2 rfl) ?_
    obtain ⟨hi, h⟩ := h
    refine rf_iald hx hb hK hT 9 (by decide) rfl hi (v := σ.2.2.1 9 x3.toNatClampNeg) rfl dX12_take_193 ?_
    refine lv_icmp_ge (tgt := 220) hx hb dX12_take_194 (by decide) (fun hc => ?_) (fun hc => ?_)
    · have h := h.1 hc
      refine lv_iinc (v := x1 + 1) (lv' := [(1, _), (0, _), (3, _), (4, _)]) hx hb dX12_take_220 hl (k := 1) rfl rfl (by decide) rfl (fun ls hl => ?_)
      refine lv_aload_n hx hb dX12_take_223 rfl (lv_at hl 1 rfl) ?_
      refine lv_aload_n hx hb dX12_take_224 rfl (lv_at hl 1 rfl) ?_
      refine rf_get hx hb hK hT hown 78 (by decide) kfX12_74 (v := .int (σ.1 78)) rfl dX12_take_225 ?_
      refine rf_puti hx hb hK hT hown 80 (by decide) kfX12_180 rfl rfl dX12_take_228 (fun H locs hT => ?_)
      refine lv_aload_n hx hb dX12_take_231 rfl (lv_at hl 1 rfl) ?_
      refine lv_iload_n hx hb dX12_take_232 rfl (lv_at hl 2 rfl) ?_
      refine lv_iconst (v := 0) hx hb dX12_take_233 (by decide) ?_
      refine rf_callv (rf_runV hx hb hml hown hK hT (c_X12_looked h) rfl rfl klX12_183 ki_X12_looked ks_X12_looked kn_X12 kc_X12_looked 2 ⟨rfl, by decide, by decide, by decide +kernel⟩ ⟨by decide, by decide⟩ rfl hl.1 rfl (Nat.le_of_ble_eq_true rfl) ⟨Nat.le_refl _, Nat.le_refl _⟩ dX12_take_234) hT (fun σ6 H locs h hT => ?_)
      refine lv_aload_n hx hb dX12_take_237 rfl (lv_at hl 1 rfl) ?_
      refine rf_callv (rf_runV hx hb hml hown hK hT (c_X12_follow h) rfl rfl klX12_186 ki_X12_follow ks_X12_follow kn_X12 kc_X12_follow 0 ⟨rfl, by decide, by decide, by decide +kernel⟩ ⟨by decide, by decide⟩ rfl hl.1 rfl (Nat.le_of_ble_eq_true rfl) ⟨Nat.le_refl _, Nat.le_refl _⟩ dX12_take_238) hT (fun σ7 H locs h hT => ?_)
      refine lv_goto (tgt := 35) hx hb dX12_take_241 (by decide) ?_
      exact hk35 σ7 (x1 + 1) _ _ _ h hT (lv_sub hl [1, 0] rfl)
    · have h := h.2 hc
      refine lv_aload_n hx hb dX12_take_197 rfl (lv_at hl 0 rfl) ?_
      refine lv_sipush (v := 32000) hx hb dX12_take_198 (by decide) ?_
      refine lv_iload hx hb dX12_take_201 (lv_at hl 3 rfl) ?_
      refine lv_iadd hx hb dX12_take_203 ?_
      refine lv_bipush (v := 8) hx hb dX12_take_204 (by decide) ?_
      refine lv_iload_n hx hb dX12_take_206 rfl (lv_at hl 2 rfl) ?_
      refine lv_imul hx hb dX12_take_207 ?_
      refine lv_iload hx hb dX12_take_208 (lv_at hl 3 rfl) ?_
      refine lv_iadd hx hb dX12_take_210 ?_
      refine rf_callv (rf_runV hx hb hml hown hK hT (c_X12_moved h) rfl rfl klX12_176 ki_X12_moved ks_X12_moved kn_X12 kc_X12_moved 2 ⟨rfl, by decide, by decide, by decide +kernel⟩ ⟨by decide, by decide⟩ rfl hl.1 rfl (Nat.le_of_ble_eq_true rfl) ⟨Nat.le_refl _, Nat.le_refl _⟩ dX12_take_211) hT (fun σ8 H locs h hT => ?_)
      refine lv_iinc (v := x4 + 1) (lv' := [(4, _), (0, _), (1, _), (3, _)]) hx hb dX12_take_214 hl (k := 3) rfl rfl (by decide) rfl (fun ls hl => ?_)
      refine lv_goto (tgt := 186) hx hb dX12_take_217 (by decide) ?_
      exact ih σ8 x1 x3 (x4 + 1) _ _ _ h hT (lv_sub hl [1, 2, 3, 0] rfl)
end
def w_X12_take_35 (post : Int32 → rf_S → Prop) : Nat → rf_S → Int32 → Prop
  | 0, _, _ => False
  | n + 1, σ, x1 => ((σ.1 3) ≤ (σ.1 4) → post x1 σ) ∧ (¬ (σ.1 3) ≤ (σ.1 4) → wp_X12_readsRecord (fun r9 σ9 => (¬ r9 = 0 → wp_X12_become (fun σ10 => (¬ (σ10.1 19) = 4000 → vp_in (σ10.1 19) (rf_n 8) ∧ vp_in (σ10.1 19) (rf_n 10) ∧ vp_in 4000 (rf_n 11) ∧ vp_in (σ10.1 19) (rf_n 11) ∧ vp_in 4000 (rf_n 12) ∧ vp_in (σ10.1 19) (rf_n 12) ∧ vp_in 4000 (rf_n 9) ∧ vp_in (σ10.1 19) (rf_n 9) ∧ ∃ n9, w_X12_take_186 post (w_X12_take_35 post n) n9 (rf_ua (rf_ub (rf_ub (rf_ua (rf_ua (rf_ui (rf_ui σ10 19 ((σ10.1 19) + 1)) 22 (σ10.1 31)) 8 (σ10.1 19).toNatClampNeg (σ10.1 31)) 10 (σ10.1 19).toNatClampNeg ((-1))) 11 (σ10.1 19).toNatClampNeg (σ10.2.2.2 11 (4000 : Int32).toNatClampNeg)) 12 (σ10.1 19).toNatClampNeg (σ10.2.2.2 12 (4000 : Int32).toNatClampNeg)) 9 (σ10.1 19).toNatClampNeg (σ10.2.2.1 9 (4000 : Int32).toNatClampNeg)) x1 (σ10.1 19) 0) ∧ ((σ10.1 19) = 4000 → post x1 (rf_ui σ10 20 (σ.1 20)))) σ9 (σ9.1 31)) ∧ (r9 = 0 → post x1 (rf_ui (rf_ui σ9 20 (σ.1 20)) 7 (σ9.1 6)))) σ 4000)
section
variable {p : Program} {l : Launch} {e : Env} {s : State} {m : MethodId} {args : Array Value} {below : List Frame} {meth : Method} {c : Code} {P : hw_G} {o : Nat} {ad : Nat → Nat}
set_option maxRecDepth 100000 in
set_option maxHeartbeats 4000000 in
theorem t_X12_take_35 {post : Int32 → rf_S → Prop} (hC : rf_C P RX12 p s m meth c cX12_take 5 (some .int)) : ∀ (n : Nat) (σ : rf_S) (x1 : Int32) (H : Heap) (locs : List Loc) (ls : Array Slot), w_X12_take_35 post n σ x1 → rf_T P s (rf_A o ad) o ad σ H locs → lv_has ls 5 [(0, .ref o), (1, .int x1)] → W p l e rm_X12_take s m args below meth c H locs 0 0 (MQ below (rf_Qi P o ad post) args s 0 0 (rf_A o ad)) (F0 m 35 ls []) := by
  obtain ⟨hx, hb, hml, hown, hK, -, -⟩ := id hC
  intro n
  induction n with
  | zero => intro σ x1 H locs ls h; exact False.elim h
  | succ n ih =>
    intro σ x1 H locs ls h hT hl
    refine lv_aload_n hx hb dX12_take_35 rfl (lv_at hl 0 rfl) ?_
    refine rf_get hx hb hK hT hown 4 (by decide) kfX12_104 (v := .int (σ.1 4)) rfl dX12_take_36 ?_
    refine lv_aload_n hx hb dX12_take_39 rfl (lv_at hl 0 rfl) ?_
    refine rf_get hx hb hK hT hown 3 (by decide) kfX12_24 (v := .int (σ.1 3)) rfl dX12_take_40 ?_
    refine lv_icmp_ge (tgt := 244) hx hb dX12_take_43 (by decide) (fun hc => ?_) (fun hc => ?_)
    · have h := h.1 hc
      refine lv_iload_n hx hb dX12_take_244 rfl (lv_at hl 1 rfl) ?_
      exact rf_iret hC hT h dX12_take_245
    · have h := h.2 hc
      refine lv_aload_n hx hb dX12_take_46 rfl (lv_at hl 0 rfl) ?_
      refine rf_get hx hb hK hT hown 20 (by decide) kfX12_61 (v := .int (σ.1 20)) rfl dX12_take_47 ?_
      refine lv_istore_n (lv' := [(2, _), (0, _), (1, _)]) hx hb dX12_take_50 rfl hl (by decide) rfl (fun ls hl => ?_)
      refine lv_aload_n hx hb dX12_take_51 rfl (lv_at hl 1 rfl) ?_
      refine lv_sipush (v := 4000) hx hb dX12_take_52 (by decide) ?_
      refine rf_calli (rf_runV hx hb hml hown hK hT (c_X12_readsRecord h) rfl rfl klX12_164 ki_X12_readsRecord ks_X12_readsRecord kn_X12 kc_X12_readsRecord 1 ⟨rfl, by decide, by decide, by decide +kernel⟩ ⟨by decide, by decide⟩ rfl hl.1 rfl (Nat.le_of_ble_eq_true rfl) ⟨Nat.le_refl _, Nat.le_refl _⟩ dX12_take_55) hT (fun r9 σ9 H locs h hT => ?_)
      refine lv_if_ne (tgt := 76) hx hb dX12_take_58 (by decide) (fun hc => ?_) (fun hc => ?_)
      · have h := h.1 hc
        refine lv_aload_n hx hb dX12_take_76 rfl (lv_at hl 1 rfl) ?_
        refine lv_aload_n hx hb dX12_take_77 rfl (lv_at hl 1 rfl) ?_
        refine rf_get hx hb hK hT hown 31 (by decide) kfX12_135 (v := .int (σ9.1 31)) rfl dX12_take_78 ?_
        refine rf_callv (rf_runV hx hb hml hown hK hT (c_X12_become h) rfl rfl klX12_167 ki_X12_become ks_X12_become kn_X12 kc_X12_become 1 ⟨rfl, by decide, by decide, by decide +kernel⟩ ⟨by decide, by decide⟩ rfl hl.1 rfl (Nat.le_of_ble_eq_true rfl) ⟨Nat.le_refl _, Nat.le_refl _⟩ dX12_take_81) hT (fun σ10 H locs h hT => ?_)
        refine lv_aload_n hx hb dX12_take_84 rfl (lv_at hl 1 rfl) ?_
        refine rf_get hx hb hK hT hown 19 (by decide) kfX12_58 (v := .int (σ10.1 19)) rfl dX12_take_85 ?_
        refine lv_sipush (v := 4000) hx hb dX12_take_88 (by decide) ?_
        refine lv_icmp_ne (tgt := 101) hx hb dX12_take_91 (by decide) (fun hc => ?_) (fun hc => ?_)
        · have h := h.1 hc
          refine lv_aload_n hx hb dX12_take_101 rfl (lv_at hl 1 rfl) ?_
          refine rf_get hx hb hK hT hown 19 (by decide) kfX12_58 (v := .int (σ10.1 19)) rfl dX12_take_102 ?_
          refine lv_istore_n (lv' := [(3, _), (2, _), (0, _), (1, _)]) hx hb dX12_take_105 rfl hl (by decide) rfl (fun ls hl => ?_)
          refine lv_aload_n hx hb dX12_take_106 rfl (lv_at hl 2 rfl) ?_
          refine lv_dup hx hb dX12_take_107 rfl ?_
          refine rf_get hx hb hK hT hown 19 (by decide) kfX12_58 (v := .int (σ10.1 19)) rfl dX12_take_108 ?_
          refine lv_iconst (v := 1) hx hb dX12_take_111 (by decide) ?_
          refine lv_iadd hx hb dX12_take_112 ?_
          refine rf_puti hx hb hK hT hown 19 (by decide) kfX12_58 rfl rfl dX12_take_113 (fun H locs hT => ?_)
          refine lv_aload_n hx hb dX12_take_116 rfl (lv_at hl 2 rfl) ?_
          refine lv_aload_n hx hb dX12_take_117 rfl (lv_at hl 2 rfl) ?_
          refine rf_get hx hb hK hT hown 31 (by decide) kfX12_135 (v := .int (σ10.1 31)) rfl dX12_take_118 ?_
          refine rf_puti hx hb hK hT hown 22 (by decide) kfX12_67 rfl rfl dX12_take_121 (fun H locs hT => ?_)
          refine lv_aload_n hx hb dX12_take_124 rfl (lv_at hl 2 rfl) ?_
          refine rf_get hx hb hK hT hown 8 (by decide) kfX12_170 (v := .ref (ad 8)) rfl dX12_take_125 ?_
          refine lv_iload_n hx hb dX12_take_128 rfl (lv_at hl 0 rfl) ?_
          refine lv_aload_n hx hb dX12_take_129 rfl (lv_at hl 2 rfl) ?_
          refine rf_get hx hb hK hT hown 31 (by decide) kfX12_135 (v := .int (σ10.1 31)) rfl dX12_take_130 ?_
          obtain ⟨hi, h⟩ := h
          refine rf_iast hx hb hK hT 8 (by decide) rfl hi dX12_take_133 (fun H locs hT => ?_)
          refine lv_aload_n hx hb dX12_take_134 rfl (lv_at hl 2 rfl) ?_
          refine rf_get hx hb hK hT hown 10 (by decide) kfX12_173 (v := .ref (ad 10)) rfl dX12_take_135 ?_
          refine lv_iload_n hx hb dX12_take_138 rfl (lv_at hl 0 rfl) ?_
          refine lv_iconst (v := (-1)) hx hb dX12_take_139 (by decide) ?_
          obtain ⟨hi, h⟩ := h
          refine rf_iast hx hb hK hT 10 (by decide) rfl hi dX12_take_140 (fun H locs hT => ?_)
          refine lv_aload_n hx hb dX12_take_141 rfl (lv_at hl 2 rfl) ?_
          refine rf_get hx hb hK hT hown 11 (by decide) kfX12_145 (v := .ref (ad 11)) rfl dX12_take_142 ?_
          refine lv_iload_n hx hb dX12_take_145 rfl (lv_at hl 0 rfl) ?_
          refine lv_aload_n hx hb dX12_take_146 rfl (lv_at hl 2 rfl) ?_
          refine rf_get hx hb hK hT hown 11 (by decide) kfX12_145 (v := .ref (ad 11)) rfl dX12_take_147 ?_
          refine lv_sipush (v := 4000) hx hb dX12_take_150 (by decide) ?_
          obtain ⟨hi, h⟩ := h
          refine rf_lald hx hb hK hT 11 (by decide) rfl hi (v := σ10.2.2.2 11 (4000 : Int32).toNatClampNeg) rfl dX12_take_153 ?_
          obtain ⟨hi, h⟩ := h
          refine rf_last hx hb hK hT 11 (by decide) rfl hi dX12_take_154 (fun H locs hT => ?_)
          refine lv_aload_n hx hb dX12_take_155 rfl (lv_at hl 2 rfl) ?_
          refine rf_get hx hb hK hT hown 12 (by decide) kfX12_148 (v := .ref (ad 12)) rfl dX12_take_156 ?_
          refine lv_iload_n hx hb dX12_take_159 rfl (lv_at hl 0 rfl) ?_
          refine lv_aload_n hx hb dX12_take_160 rfl (lv_at hl 2 rfl) ?_
          refine rf_get hx hb hK hT hown 12 (by decide) kfX12_148 (v := .ref (ad 12)) rfl dX12_take_161 ?_
          refine lv_sipush (v := 4000) hx hb dX12_take_164 (by decide) ?_
          obtain ⟨hi, h⟩ := h
          refine rf_lald hx hb hK hT 12 (by decide) rfl hi (v := σ10.2.2.2 12 (4000 : Int32).toNatClampNeg) rfl dX12_take_167 ?_
          obtain ⟨hi, h⟩ := h
          refine rf_last hx hb hK hT 12 (by decide) rfl hi dX12_take_168 (fun H locs hT => ?_)
          refine lv_aload_n hx hb dX12_take_169 rfl (lv_at hl 2 rfl) ?_
          refine rf_get hx hb hK hT hown 9 (by decide) kfX12_97 (v := .ref (ad 9)) rfl dX12_take_170 ?_
          refine lv_iload_n hx hb dX12_take_173 rfl (lv_at hl 0 rfl) ?_
          refine lv_aload_n hx hb dX12_take_174 rfl (lv_at hl 2 rfl) ?_
          refine rf_get hx hb hK hT hown 9 (by decide) kfX12_97 (v := .ref (ad 9)) rfl dX12_take_175 ?_
          refine lv_sipush (v := 4000) hx hb dX12_take_178 (by decide) ?_
          obtain ⟨hi, h⟩ := h
          refine rf_iald hx hb hK hT 9 (by decide) rfl hi (v := σ10.2.2.1 9 (4000 : Int32).toNatClampNeg) rfl dX12_take_181 ?_
          obtain ⟨hi, h⟩ := h
          refine rf_iast hx hb hK hT 9 (by decide) rfl hi dX12_take_182 (fun H locs hT => ?_)
          refine lv_iconst (v := 0) hx hb dX12_take_183 (by decide) ?_
          refine lv_istore (lv' := [(4, _), (3, _), (2, _), (0, _), (1, _)]) hx hb dX12_take_184 hl (by decide) rfl (fun ls hl => ?_)
          obtain ⟨n9, h⟩ := h
          exact t_X12_take_186 hC ih n9 (rf_ua (rf_ub (rf_ub (rf_ua (rf_ua (rf_ui (rf_ui σ10 19 ((σ10.1 19) + 1)) 22 (σ10.1 31)) 8 (σ10.1 19).toNatClampNeg (σ10.1 31)) 10 (σ10.1 19).toNatClampNeg ((-1))) 11 (σ10.1 19).toNatClampNeg (σ10.2.2.2 11 (4000 : Int32).toNatClampNeg)) 12 (σ10.1 19).toNatClampNeg (σ10.2.2.2 12 (4000 : Int32).toNatClampNeg)) 9 (σ10.1 19).toNatClampNeg (σ10.2.2.1 9 (4000 : Int32).toNatClampNeg)) x1 (σ10.1 19) 0 _ _ _ h hT (lv_sub hl [3, 4, 1, 0] rfl)
        · have h := h.2 hc
          refine lv_aload_n hx hb dX12_take_94 rfl (lv_at hl 1 rfl) ?_
          refine lv_iload_n hx hb dX12_take_95 rfl (lv_at hl 0 rfl) ?_
          refine rf_puti hx hb hK hT hown 20 (by decide) kfX12_61 rfl rfl dX12_take_96 (fun H locs hT => ?_)
          refine lv_iload_n hx hb dX12_take_99 rfl (lv_at hl 2 rfl) ?_
          exact rf_iret hC hT h dX12_take_100
      · have h := h.2 hc
        refine lv_aload_n hx hb dX12_take_61 rfl (lv_at hl 1 rfl) ?_
        refine lv_iload_n hx hb dX12_take_62 rfl (lv_at hl 0 rfl) ?_
        refine rf_puti hx hb hK hT hown 20 (by decide) kfX12_61 rfl rfl dX12_take_63 (fun H locs hT => ?_)
        refine lv_aload_n hx hb dX12_take_66 rfl (lv_at hl 1 rfl) ?_
        refine lv_aload_n hx hb dX12_take_67 rfl (lv_at hl 1 rfl) ?_
        refine rf_get hx hb hK hT hown 6 (by decide) kfX12_21 (v := .int (σ9.1 6)) rfl dX12_take_68 ?_
        refine rf_puti hx hb hK hT hown 7 (by decide) kfX12_161 rfl rfl dX12_take_71 (fun H locs hT => ?_)
        refine lv_iload_n hx hb dX12_take_74 rfl (lv_at hl 2 rfl) ?_
        exact rf_iret hC hT h dX12_take_75
end
def wp_X12_take (post : Int32 → rf_S → Prop) (σ : rf_S)  : Prop := ∃ n9, w_X12_take_35 post n9 (rf_ui (rf_ui (rf_ui (rf_ui (rf_ui (rf_ui σ 0 0) 3 (σ.1 2)) 2 0) 4 0) 5 0) 7 ((-1))) 0
set_option maxRecDepth 100000 in
set_option maxHeartbeats 4000000 in
theorem c_X12_take {l : Launch} {P : hw_G} {o : Nat} {ad : Nat → Nat} {σ : rf_S}  {post : Int32 → rf_S → Prop} (h : wp_X12_take post σ ) : Met l yX12_take [Cond.code yX12_take cX12_take 5 (some .int)] rm_X12_take (rf_Pc P o ad σ [.ref o]) (rf_Qi P o ad post) 0 0 (rf_A o ad) := by
  refine rf_met (by decide) rfl (Nat.le_of_ble_eq_true rfl) ?_
  intro p e s m below meth c ls hC hT hl
  obtain ⟨hx, hb, hml, hown, hK, -, -⟩ := id hC
  have hl : lv_has ls 5 [(0, .ref o)] := hl
  refine lv_aload_n hx hb dX12_take_0 rfl (lv_at hl 0 rfl) ?_
  refine lv_iconst (v := 0) hx hb dX12_take_1 (by decide) ?_
  refine rf_puti hx hb hK hT hown 0 (by decide) kfX12_3 rfl rfl dX12_take_2 (fun H locs hT => ?_)
  refine lv_aload_n hx hb dX12_take_5 rfl (lv_at hl 0 rfl) ?_
  refine lv_aload_n hx hb dX12_take_6 rfl (lv_at hl 0 rfl) ?_
  refine rf_get hx hb hK hT hown 2 (by decide) kfX12_7 (v := .int (σ.1 2)) rfl dX12_take_7 ?_
  refine rf_puti hx hb hK hT hown 3 (by decide) kfX12_24 rfl rfl dX12_take_10 (fun H locs hT => ?_)
  refine lv_aload_n hx hb dX12_take_13 rfl (lv_at hl 0 rfl) ?_
  refine lv_iconst (v := 0) hx hb dX12_take_14 (by decide) ?_
  refine rf_puti hx hb hK hT hown 2 (by decide) kfX12_7 rfl rfl dX12_take_15 (fun H locs hT => ?_)
  refine lv_aload_n hx hb dX12_take_18 rfl (lv_at hl 0 rfl) ?_
  refine lv_iconst (v := 0) hx hb dX12_take_19 (by decide) ?_
  refine rf_puti hx hb hK hT hown 4 (by decide) kfX12_104 rfl rfl dX12_take_20 (fun H locs hT => ?_)
  refine lv_aload_n hx hb dX12_take_23 rfl (lv_at hl 0 rfl) ?_
  refine lv_iconst (v := 0) hx hb dX12_take_24 (by decide) ?_
  refine rf_puti hx hb hK hT hown 5 (by decide) kfX12_18 rfl rfl dX12_take_25 (fun H locs hT => ?_)
  refine lv_aload_n hx hb dX12_take_28 rfl (lv_at hl 0 rfl) ?_
  refine lv_iconst (v := (-1)) hx hb dX12_take_29 (by decide) ?_
  refine rf_puti hx hb hK hT hown 7 (by decide) kfX12_161 rfl rfl dX12_take_30 (fun H locs hT => ?_)
  refine lv_iconst (v := 0) hx hb dX12_take_33 (by decide) ?_
  refine lv_istore_n (lv' := [(1, _), (0, _)]) hx hb dX12_take_34 rfl hl (by decide) rfl (fun ls hl => ?_)
  obtain ⟨n9, h⟩ := h
  exact t_X12_take_35 hC n9 (rf_ui (rf_ui (rf_ui (rf_ui (rf_ui (rf_ui σ 0 0) 3 (σ.1 2)) 2 0) 4 0) 5 0) 7 ((-1))) 0 _ _ _ h hT (lv_sub hl [1, 0] rfl)
/-! X12_pass -/
abbrev rm_X12_pass : Room := { frames := 67, cells := 0, slots := 0, locals := 2576 }
def w_X12_pass_19 (post : Int32 → rf_S → Prop) (σ : rf_S)  : Prop := post 0 σ
section
variable {p : Program} {l : Launch} {e : Env} {s : State} {m : MethodId} {args : Array Value} {below : List Frame} {meth : Method} {c : Code} {P : hw_G} {o : Nat} {ad : Nat → Nat}
set_option maxRecDepth 100000 in
set_option maxHeartbeats 4000000 in
theorem t_X12_pass_19 {post : Int32 → rf_S → Prop} (hC : rf_C P RX12 p s m meth c cX12_pass 2 (some .boolean)) (σ : rf_S)  (H : Heap) (locs : List Loc) (ls : Array Slot) (h : w_X12_pass_19 post σ ) (hT : rf_T P s (rf_A o ad) o ad σ H locs) (hl : lv_has ls 2 []) : W p l e rm_X12_pass s m args below meth c H locs 0 0 (MQ below (rf_Qi P o ad post) args s 0 0 (rf_A o ad)) (F0 m 19 ls []) := by
  obtain ⟨hx, hb, hml, hown, hK, -, -⟩ := id hC
  refine lv_iconst (v := 0) hx hb dX12_pass_19 (by decide) ?_
  exact rf_zret hC hT rfl h dX12_pass_20
end
def wp_X12_pass (post : Int32 → rf_S → Prop) (σ : rf_S) (p1 : Int32) : Prop := (p1 < (σ.1 21) → w_X12_pass_19 post (rf_ui σ 0 0)) ∧ (¬ p1 < (σ.1 21) → (p1 ≤ 2000000000 → wp_X12_become (fun σ2 => post 1 σ2) (rf_ui σ 0 0) p1) ∧ (¬ p1 ≤ 2000000000 → w_X12_pass_19 post (rf_ui σ 0 0)))
set_option maxRecDepth 100000 in
set_option maxHeartbeats 4000000 in
theorem c_X12_pass {l : Launch} {P : hw_G} {o : Nat} {ad : Nat → Nat} {σ : rf_S} {p1 : Int32} {post : Int32 → rf_S → Prop} (h : wp_X12_pass post σ p1) : Met l yX12_pass [Cond.code yX12_pass cX12_pass 2 (some .boolean)] rm_X12_pass (rf_Pc P o ad σ [.ref o, .int p1]) (rf_Qi P o ad post) 0 0 (rf_A o ad) := by
  refine rf_met (by decide) rfl (Nat.le_of_ble_eq_true rfl) ?_
  intro p e s m below meth c ls hC hT hl
  obtain ⟨hx, hb, hml, hown, hK, -, -⟩ := id hC
  have hl : lv_has ls 2 [(0, .ref o), (1, .int p1)] := hl
  refine lv_aload_n hx hb dX12_pass_0 rfl (lv_at hl 0 rfl) ?_
  refine lv_iconst (v := 0) hx hb dX12_pass_1 (by decide) ?_
  refine rf_puti hx hb hK hT hown 0 (by decide) kfX12_3 rfl rfl dX12_pass_2 (fun H locs hT => ?_)
  refine lv_iload_n hx hb dX12_pass_5 rfl (lv_at hl 1 rfl) ?_
  refine lv_aload_n hx hb dX12_pass_6 rfl (lv_at hl 0 rfl) ?_
  refine rf_get hx hb hK hT hown 21 (by decide) kfX12_64 (v := .int (σ.1 21)) rfl dX12_pass_7 ?_
  refine lv_icmp_lt (tgt := 19) hx hb dX12_pass_10 (by decide) (fun hc => ?_) (fun hc => ?_)
  · have h := h.1 hc
    exact t_X12_pass_19 hC (rf_ui σ 0 0) _ _ _ h hT (lv_sub hl [] rfl)
  · have h := h.2 hc
    refine lv_iload_n hx hb dX12_pass_13 rfl (lv_at hl 1 rfl) ?_
    refine lv_ldc (v := 2000000000) hx hb hown (hK.word kkX12_193 rfl) dX12_pass_14 ?_
    refine lv_icmp_le (tgt := 21) hx hb dX12_pass_16 (by decide) (fun hc => ?_) (fun hc => ?_)
    · have h := h.1 hc
      refine lv_aload_n hx hb dX12_pass_21 rfl (lv_at hl 0 rfl) ?_
      refine lv_iload_n hx hb dX12_pass_22 rfl (lv_at hl 1 rfl) ?_
      refine rf_callv (rf_runV hx hb hml hown hK hT (c_X12_become h) rfl rfl klX12_167 ki_X12_become ks_X12_become kn_X12 kc_X12_become 1 ⟨rfl, by decide, by decide, by decide +kernel⟩ ⟨by decide, by decide⟩ rfl hl.1 rfl (Nat.le_of_ble_eq_true rfl) ⟨Nat.le_refl _, Nat.le_refl _⟩ dX12_pass_23) hT (fun σ2 H locs h hT => ?_)
      refine lv_iconst (v := 1) hx hb dX12_pass_26 (by decide) ?_
      exact rf_zret hC hT rfl h dX12_pass_27
    · have h := h.2 hc
      exact t_X12_pass_19 hC (rf_ui σ 0 0) _ _ _ h hT (lv_sub hl [] rfl)
/-! X12_isSmall -/
abbrev rm_X12_isSmall : Room := { frames := 0, cells := 0, slots := 0, locals := 0 }
def w_X12_isSmall_17 (post : Int32 → rf_S → Prop) (σ : rf_S) (y0 : Int32) : Prop := narrow .boolean (.int y0) = .int y0 ∧ post y0 σ
section
variable {p : Program} {l : Launch} {e : Env} {s : State} {m : MethodId} {args : Array Value} {below : List Frame} {meth : Method} {c : Code} {P : hw_G} {o : Nat} {ad : Nat → Nat}
set_option maxRecDepth 100000 in
set_option maxHeartbeats 4000000 in
theorem t_X12_isSmall_17 {post : Int32 → rf_S → Prop} (hC : rf_C P RX12 p s m meth c cX12_isSmall 1 (some .boolean)) (σ : rf_S) (y0 : Int32) (H : Heap) (locs : List Loc) (ls : Array Slot) (h : w_X12_isSmall_17 post σ y0) (hT : rf_T P s (rf_A o ad) o ad σ H locs) (hl : lv_has ls 1 []) : W p l e rm_X12_isSmall s m args below meth c H locs 0 0 (MQ below (rf_Qi P o ad post) args s 0 0 (rf_A o ad)) (F0 m 17 ls [.int y0]) := by
  obtain ⟨hx, hb, hml, hown, hK, -, -⟩ := id hC
  exact rf_zret hC hT h.1 h.2 dX12_isSmall_17
end
def w_X12_isSmall_16 (post : Int32 → rf_S → Prop) (σ : rf_S)  : Prop := w_X12_isSmall_17 post σ 0
section
variable {p : Program} {l : Launch} {e : Env} {s : State} {m : MethodId} {args : Array Value} {below : List Frame} {meth : Method} {c : Code} {P : hw_G} {o : Nat} {ad : Nat → Nat}
set_option maxRecDepth 100000 in
set_option maxHeartbeats 4000000 in
theorem t_X12_isSmall_16 {post : Int32 → rf_S → Prop} (hC : rf_C P RX12 p s m meth c cX12_isSmall 1 (some .boolean)) (σ : rf_S)  (H : Heap) (locs : List Loc) (ls : Array Slot) (h : w_X12_isSmall_16 post σ ) (hT : rf_T P s (rf_A o ad) o ad σ H locs) (hl : lv_has ls 1 []) : W p l e rm_X12_isSmall s m args below meth c H locs 0 0 (MQ below (rf_Qi P o ad post) args s 0 0 (rf_A o ad)) (F0 m 16 ls []) := by
  obtain ⟨hx, hb, hml, hown, hK, -, -⟩ := id hC
  refine lv_iconst (v := 0) hx hb dX12_isSmall_16 (by decide) ?_
  exact t_X12_isSmall_17 hC σ 0 _ _ _ h hT (lv_sub hl [] rfl)
end
def wp_X12_isSmall (post : Int32 → rf_S → Prop) (σ : rf_S) (p0 : Int32) : Prop := (p0 < 97 → w_X12_isSmall_16 post σ) ∧ (¬ p0 < 97 → (122 < p0 → w_X12_isSmall_16 post σ) ∧ (¬ 122 < p0 → w_X12_isSmall_17 post σ 1))
set_option maxRecDepth 100000 in
set_option maxHeartbeats 4000000 in
theorem c_X12_isSmall {l : Launch} {P : hw_G} {o : Nat} {ad : Nat → Nat} {σ : rf_S} {p0 : Int32} {post : Int32 → rf_S → Prop} (h : wp_X12_isSmall post σ p0) : Met l yX12_isSmall [Cond.code yX12_isSmall cX12_isSmall 1 (some .boolean)] rm_X12_isSmall (rf_Pc P o ad σ [.int p0]) (rf_Qi P o ad post) 0 0 (rf_A o ad) := by
  refine rf_met (by decide) rfl (Nat.le_of_ble_eq_true rfl) ?_
  intro p e s m below meth c ls hC hT hl
  obtain ⟨hx, hb, hml, hown, hK, -, -⟩ := id hC
  have hl : lv_has ls 1 [(0, .int p0)] := hl
  refine lv_iload_n hx hb dX12_isSmall_0 rfl (lv_at hl 0 rfl) ?_
  refine lv_bipush (v := 97) hx hb dX12_isSmall_1 (by decide) ?_
  refine lv_icmp_lt (tgt := 16) hx hb dX12_isSmall_3 (by decide) (fun hc => ?_) (fun hc => ?_)
  · have h := h.1 hc
    exact t_X12_isSmall_16 hC σ _ _ _ h hT (lv_sub hl [] rfl)
  · have h := h.2 hc
    refine lv_iload_n hx hb dX12_isSmall_6 rfl (lv_at hl 0 rfl) ?_
    refine lv_bipush (v := 122) hx hb dX12_isSmall_7 (by decide) ?_
    refine lv_icmp_gt (tgt := 16) hx hb dX12_isSmall_9 (by decide) (fun hc => ?_) (fun hc => ?_)
    · have h := h.1 hc
      exact t_X12_isSmall_16 hC σ _ _ _ h hT (lv_sub hl [] rfl)
    · have h := h.2 hc
      refine lv_iconst (v := 1) hx hb dX12_isSmall_12 (by decide) ?_
      refine lv_goto (tgt := 17) hx hb dX12_isSmall_13 (by decide) ?_
      exact t_X12_isSmall_17 hC σ 1 _ _ _ h hT (lv_sub hl [] rfl)
/-! X12_isDigit -/
abbrev rm_X12_isDigit : Room := { frames := 0, cells := 0, slots := 0, locals := 0 }
def w_X12_isDigit_17 (post : Int32 → rf_S → Prop) (σ : rf_S) (y0 : Int32) : Prop := narrow .boolean (.int y0) = .int y0 ∧ post y0 σ
section
variable {p : Program} {l : Launch} {e : Env} {s : State} {m : MethodId} {args : Array Value} {below : List Frame} {meth : Method} {c : Code} {P : hw_G} {o : Nat} {ad : Nat → Nat}
set_option maxRecDepth 100000 in
set_option maxHeartbeats 4000000 in
theorem t_X12_isDigit_17 {post : Int32 → rf_S → Prop} (hC : rf_C P RX12 p s m meth c cX12_isDigit 1 (some .boolean)) (σ : rf_S) (y0 : Int32) (H : Heap) (locs : List Loc) (ls : Array Slot) (h : w_X12_isDigit_17 post σ y0) (hT : rf_T P s (rf_A o ad) o ad σ H locs) (hl : lv_has ls 1 []) : W p l e rm_X12_isDigit s m args below meth c H locs 0 0 (MQ below (rf_Qi P o ad post) args s 0 0 (rf_A o ad)) (F0 m 17 ls [.int y0]) := by
  obtain ⟨hx, hb, hml, hown, hK, -, -⟩ := id hC
  exact rf_zret hC hT h.1 h.2 dX12_isDigit_17
end
def w_X12_isDigit_16 (post : Int32 → rf_S → Prop) (σ : rf_S)  : Prop := w_X12_isDigit_17 post σ 0
section
variable {p : Program} {l : Launch} {e : Env} {s : State} {m : MethodId} {args : Array Value} {below : List Frame} {meth : Method} {c : Code} {P : hw_G} {o : Nat} {ad : Nat → Nat}
set_option maxRecDepth 100000 in
set_option maxHeartbeats 4000000 in
theorem t_X12_isDigit_16 {post : Int32 → rf_S → Prop} (hC : rf_C P RX12 p s m meth c cX12_isDigit 1 (some .boolean)) (σ : rf_S)  (H : Heap) (locs : List Loc) (ls : Array Slot) (h : w_X12_isDigit_16 post σ ) (hT : rf_T P s (rf_A o ad) o ad σ H locs) (hl : lv_has ls 1 []) : W p l e rm_X12_isDigit s m args below meth c H locs 0 0 (MQ below (rf_Qi P o ad post) args s 0 0 (rf_A o ad)) (F0 m 16 ls []) := by
  obtain ⟨hx, hb, hml, hown, hK, -, -⟩ := id hC
  refine lv_iconst (v := 0) hx hb dX12_isDigit_16 (by decide) ?_
  exact t_X12_isDigit_17 hC σ 0 _ _ _ h hT (lv_sub hl [] rfl)
end
def wp_X12_isDigit (post : Int32 → rf_S → Prop) (σ : rf_S) (p0 : Int32) : Prop := (p0 < 48 → w_X12_isDigit_16 post σ) ∧ (¬ p0 < 48 → (57 < p0 → w_X12_isDigit_16 post σ) ∧ (¬ 57 < p0 → w_X12_isDigit_17 post σ 1))
set_option maxRecDepth 100000 in
set_option maxHeartbeats 4000000 in
theorem c_X12_isDigit {l : Launch} {P : hw_G} {o : Nat} {ad : Nat → Nat} {σ : rf_S} {p0 : Int32} {post : Int32 → rf_S → Prop} (h : wp_X12_isDigit post σ p0) : Met l yX12_isDigit [Cond.code yX12_isDigit cX12_isDigit 1 (some .boolean)] rm_X12_isDigit (rf_Pc P o ad σ [.int p0]) (rf_Qi P o ad post) 0 0 (rf_A o ad) := by
  refine rf_met (by decide) rfl (Nat.le_of_ble_eq_true rfl) ?_
  intro p e s m below meth c ls hC hT hl
  obtain ⟨hx, hb, hml, hown, hK, -, -⟩ := id hC
  have hl : lv_has ls 1 [(0, .int p0)] := hl
  refine lv_iload_n hx hb dX12_isDigit_0 rfl (lv_at hl 0 rfl) ?_
  refine lv_bipush (v := 48) hx hb dX12_isDigit_1 (by decide) ?_
  refine lv_icmp_lt (tgt := 16) hx hb dX12_isDigit_3 (by decide) (fun hc => ?_) (fun hc => ?_)
  · have h := h.1 hc
    exact t_X12_isDigit_16 hC σ _ _ _ h hT (lv_sub hl [] rfl)
  · have h := h.2 hc
    refine lv_iload_n hx hb dX12_isDigit_6 rfl (lv_at hl 0 rfl) ?_
    refine lv_bipush (v := 57) hx hb dX12_isDigit_7 (by decide) ?_
    refine lv_icmp_gt (tgt := 16) hx hb dX12_isDigit_9 (by decide) (fun hc => ?_) (fun hc => ?_)
    · have h := h.1 hc
      exact t_X12_isDigit_16 hC σ _ _ _ h hT (lv_sub hl [] rfl)
    · have h := h.2 hc
      refine lv_iconst (v := 1) hx hb dX12_isDigit_12 (by decide) ?_
      refine lv_goto (tgt := 17) hx hb dX12_isDigit_13 (by decide) ?_
      exact t_X12_isDigit_17 hC σ 1 _ _ _ h hT (lv_sub hl [] rfl)
/-! X12_readWord -/
abbrev rm_X12_readWord : Room := { frames := 1, cells := 0, slots := 0, locals := 21 }
def w_X12_readWord_93 (post : rf_S → Prop) (k9 : rf_S → Int32 → Int32 → Prop) (σ : rf_S) (x1 : Int32) (x2 : Int32) : Prop := k9 (rf_ui σ 4 ((σ.1 4) + 1)) (x1 + 1) x2
section
variable {p : Program} {l : Launch} {e : Env} {s : State} {m : MethodId} {args : Array Value} {below : List Frame} {meth : Method} {c : Code} {P : hw_G} {o : Nat} {ad : Nat → Nat}
set_option maxRecDepth 100000 in
set_option maxHeartbeats 4000000 in
theorem t_X12_readWord_93 {post : rf_S → Prop} {k9 : rf_S → Int32 → Int32 → Prop} (hC : rf_C P RX12 p s m meth c cX12_readWord 3 none) (hk9 : ∀ (σ : rf_S) (x1 : Int32) (x2 : Int32) (H : Heap) (locs : List Loc) (ls : Array Slot), k9 σ x1 x2 → rf_T P s (rf_A o ad) o ad σ H locs → lv_has ls 3 [(0, .ref o), (1, .int x1), (2, .int x2)] → W p l e rm_X12_readWord s m args below meth c H locs 0 0 (MQ below (rf_Qv P o ad post) args s 0 0 (rf_A o ad)) (F0 m 9 ls [])) (σ : rf_S) (x1 : Int32) (x2 : Int32) (H : Heap) (locs : List Loc) (ls : Array Slot) (h : w_X12_readWord_93 post k9 σ x1 x2) (hT : rf_T P s (rf_A o ad) o ad σ H locs) (hl : lv_has ls 3 [(0, .ref o), (1, .int x1), (2, .int x2)]) : W p l e rm_X12_readWord s m args below meth c H locs 0 0 (MQ below (rf_Qv P o ad post) args s 0 0 (rf_A o ad)) (F0 m 93 ls []) := by
  obtain ⟨hx, hb, hml, hown, hK, -, -⟩ := id hC
  refine lv_iinc (v := x1 + 1) (lv' := [(1, _), (0, _), (2, _)]) hx hb dX12_readWord_93 hl (k := 1) rfl rfl (by decide) rfl (fun ls hl => ?_)
  refine lv_aload_n hx hb dX12_readWord_96 rfl (lv_at hl 1 rfl) ?_
  refine lv_dup hx hb dX12_readWord_97 rfl ?_
  refine rf_get hx hb hK hT hown 4 (by decide) kfX12_104 (v := .int (σ.1 4)) rfl dX12_readWord_98 ?_
  refine lv_iconst (v := 1) hx hb dX12_readWord_101 (by decide) ?_
  refine lv_iadd hx hb dX12_readWord_102 ?_
  refine rf_puti hx hb hK hT hown 4 (by decide) kfX12_104 rfl rfl dX12_readWord_103 (fun H locs hT => ?_)
  refine lv_goto (tgt := 9) hx hb dX12_readWord_106 (by decide) ?_
  exact hk9 (rf_ui σ 4 ((σ.1 4) + 1)) (x1 + 1) x2 _ _ _ h hT (lv_sub hl [1, 0, 2] rfl)
end
def w_X12_readWord_60 (post : rf_S → Prop) (k9 : rf_S → Int32 → Int32 → Prop) (σ : rf_S) (x1 : Int32) (y0 : Int32) : Prop := (8 ≤ x1 → w_X12_readWord_93 post k9 σ x1 y0) ∧ (¬ 8 ≤ x1 → wp_X12_byteAt (fun r8 σ8 => w_X12_readWord_93 post k9 (rf_ul σ8 58 ((σ.2.1 58) ||| (r8.toInt64 <<< ((56 - (8 * x1)).toInt64 &&& 63)))) x1 y0) σ (σ.1 4))
section
variable {p : Program} {l : Launch} {e : Env} {s : State} {m : MethodId} {args : Array Value} {below : List Frame} {meth : Method} {c : Code} {P : hw_G} {o : Nat} {ad : Nat → Nat}
set_option maxRecDepth 100000 in
set_option maxHeartbeats 4000000 in
theorem t_X12_readWord_60 {post : rf_S → Prop} {k9 : rf_S → Int32 → Int32 → Prop} (hC : rf_C P RX12 p s m meth c cX12_readWord 3 none) (hk9 : ∀ (σ : rf_S) (x1 : Int32) (x2 : Int32) (H : Heap) (locs : List Loc) (ls : Array Slot), k9 σ x1 x2 → rf_T P s (rf_A o ad) o ad σ H locs → lv_has ls 3 [(0, .ref o), (1, .int x1), (2, .int x2)] → W p l e rm_X12_readWord s m args below meth c H locs 0 0 (MQ below (rf_Qv P o ad post) args s 0 0 (rf_A o ad)) (F0 m 9 ls [])) (σ : rf_S) (x1 : Int32) (y0 : Int32) (H : Heap) (locs : List Loc) (ls : Array Slot) (h : w_X12_readWord_60 post k9 σ x1 y0) (hT : rf_T P s (rf_A o ad) o ad σ H locs) (hl : lv_has ls 3 [(0, .ref o), (1, .int x1)]) : W p l e rm_X12_readWord s m args below meth c H locs 0 0 (MQ below (rf_Qv P o ad post) args s 0 0 (rf_A o ad)) (F0 m 60 ls [.int y0]) := by
  obtain ⟨hx, hb, hml, hown, hK, -, -⟩ := id hC
  refine lv_istore_n (lv' := [(2, _), (0, _), (1, _)]) hx hb dX12_readWord_60 rfl hl (by decide) rfl (fun ls hl => ?_)
  refine lv_iload_n hx hb dX12_readWord_61 rfl (lv_at hl 2 rfl) ?_
  refine lv_bipush (v := 8) hx hb dX12_readWord_62 (by decide) ?_
  refine lv_icmp_ge (tgt := 93) hx hb dX12_readWord_64 (by decide) (fun hc => ?_) (fun hc => ?_)
  · have h := h.1 hc
    exact t_X12_readWord_93 hC hk9 σ x1 y0 _ _ _ h hT (lv_sub hl [1, 2, 0] rfl)
  · have h := h.2 hc
    refine lv_aload_n hx hb dX12_readWord_67 rfl (lv_at hl 1 rfl) ?_
    refine lv_dup hx hb dX12_readWord_68 rfl ?_
    refine rf_get hx hb hK hT hown 58 (by decide) kfX12_337 (v := .long (σ.2.1 58)) rfl dX12_readWord_69 ?_
    refine lv_aload_n hx hb dX12_readWord_72 rfl (lv_at hl 1 rfl) ?_
    refine lv_aload_n hx hb dX12_readWord_73 rfl (lv_at hl 1 rfl) ?_
    refine rf_get hx hb hK hT hown 4 (by decide) kfX12_104 (v := .int (σ.1 4)) rfl dX12_readWord_74 ?_
    refine rf_calli (rf_runV hx hb hml hown hK hT (c_X12_byteAt h) rfl rfl klX12_107 ki_X12_byteAt ks_X12_byteAt kn_X12 kc_X12_byteAt 1 ⟨rfl, by decide, by decide, by decide +kernel⟩ ⟨by decide, by decide⟩ rfl hl.1 rfl (Nat.le_of_ble_eq_true rfl) ⟨Nat.le_refl _, Nat.le_refl _⟩ dX12_readWord_77) hT (fun r8 σ8 H locs h hT => ?_)
    refine lv_i2l (v := r8.toInt64) hx hb dX12_readWord_80 rfl ?_
    refine lv_bipush (v := 56) hx hb dX12_readWord_81 (by decide) ?_
    refine lv_bipush (v := 8) hx hb dX12_readWord_83 (by decide) ?_
    refine lv_iload_n hx hb dX12_readWord_85 rfl (lv_at hl 2 rfl) ?_
    refine lv_imul hx hb dX12_readWord_86 ?_
    refine lv_isub hx hb dX12_readWord_87 ?_
    refine lv_lshl (v := r8.toInt64 <<< ((56 - (8 * x1)).toInt64 &&& 63)) hx hb dX12_readWord_88 rfl ?_
    refine lv_lor hx hb dX12_readWord_89 ?_
    refine rf_putl hx hb hK hT hown 58 (by decide) kfX12_337 rfl rfl dX12_readWord_90 (fun H locs hT => ?_)
    exact t_X12_readWord_93 hC hk9 (rf_ul σ8 58 ((σ.2.1 58) ||| (r8.toInt64 <<< ((56 - (8 * x1)).toInt64 &&& 63)))) x1 y0 _ _ _ h hT (lv_sub hl [1, 2, 0] rfl)
end
def w_X12_readWord_59 (post : rf_S → Prop) (k9 : rf_S → Int32 → Int32 → Prop) (σ : rf_S) (x1 : Int32) : Prop := w_X12_readWord_60 post k9 σ x1 0
section
variable {p : Program} {l : Launch} {e : Env} {s : State} {m : MethodId} {args : Array Value} {below : List Frame} {meth : Method} {c : Code} {P : hw_G} {o : Nat} {ad : Nat → Nat}
set_option maxRecDepth 100000 in
set_option maxHeartbeats 4000000 in
theorem t_X12_readWord_59 {post : rf_S → Prop} {k9 : rf_S → Int32 → Int32 → Prop} (hC : rf_C P RX12 p s m meth c cX12_readWord 3 none) (hk9 : ∀ (σ : rf_S) (x1 : Int32) (x2 : Int32) (H : Heap) (locs : List Loc) (ls : Array Slot), k9 σ x1 x2 → rf_T P s (rf_A o ad) o ad σ H locs → lv_has ls 3 [(0, .ref o), (1, .int x1), (2, .int x2)] → W p l e rm_X12_readWord s m args below meth c H locs 0 0 (MQ below (rf_Qv P o ad post) args s 0 0 (rf_A o ad)) (F0 m 9 ls [])) (σ : rf_S) (x1 : Int32) (H : Heap) (locs : List Loc) (ls : Array Slot) (h : w_X12_readWord_59 post k9 σ x1) (hT : rf_T P s (rf_A o ad) o ad σ H locs) (hl : lv_has ls 3 [(0, .ref o), (1, .int x1)]) : W p l e rm_X12_readWord s m args below meth c H locs 0 0 (MQ below (rf_Qv P o ad post) args s 0 0 (rf_A o ad)) (F0 m 59 ls []) := by
  obtain ⟨hx, hb, hml, hown, hK, -, -⟩ := id hC
  refine lv_iconst (v := 0) hx hb dX12_readWord_59 (by decide) ?_
  exact t_X12_readWord_60 hC hk9 σ x1 0 _ _ _ h hT (lv_sub hl [0, 1] rfl)
end
def w_X12_readWord_37 (post : rf_S → Prop) (k9 : rf_S → Int32 → Int32 → Prop) (σ : rf_S) (x1 : Int32) (x2 : Int32) : Prop := (x2 = 0 → w_X12_readWord_59 post k9 σ x1) ∧ (¬ x2 = 0 → wp_X12_byteAt (fun r9 σ9 => wp_X12_isSmall (fun r10 σ10 => (r10 = 0 → w_X12_readWord_59 post k9 σ10 x1) ∧ (¬ r10 = 0 → w_X12_readWord_60 post k9 σ10 x1 1)) σ9 r9) σ (σ.1 4))
section
variable {p : Program} {l : Launch} {e : Env} {s : State} {m : MethodId} {args : Array Value} {below : List Frame} {meth : Method} {c : Code} {P : hw_G} {o : Nat} {ad : Nat → Nat}
set_option maxRecDepth 100000 in
set_option maxHeartbeats 4000000 in
theorem t_X12_readWord_37 {post : rf_S → Prop} {k9 : rf_S → Int32 → Int32 → Prop} (hC : rf_C P RX12 p s m meth c cX12_readWord 3 none) (hk9 : ∀ (σ : rf_S) (x1 : Int32) (x2 : Int32) (H : Heap) (locs : List Loc) (ls : Array Slot), k9 σ x1 x2 → rf_T P s (rf_A o ad) o ad σ H locs → lv_has ls 3 [(0, .ref o), (1, .int x1), (2, .int x2)] → W p l e rm_X12_readWord s m args below meth c H locs 0 0 (MQ below (rf_Qv P o ad post) args s 0 0 (rf_A o ad)) (F0 m 9 ls [])) (σ : rf_S) (x1 : Int32) (x2 : Int32) (H : Heap) (locs : List Loc) (ls : Array Slot) (h : w_X12_readWord_37 post k9 σ x1 x2) (hT : rf_T P s (rf_A o ad) o ad σ H locs) (hl : lv_has ls 3 [(0, .ref o), (1, .int x1), (2, .int x2)]) : W p l e rm_X12_readWord s m args below meth c H locs 0 0 (MQ below (rf_Qv P o ad post) args s 0 0 (rf_A o ad)) (F0 m 37 ls []) := by
  obtain ⟨hx, hb, hml, hown, hK, -, -⟩ := id hC
  refine lv_iload_n hx hb dX12_readWord_37 rfl (lv_at hl 2 rfl) ?_
  refine lv_if_eq (tgt := 59) hx hb dX12_readWord_38 (by decide) (fun hc => ?_) (fun hc => ?_)
  · have h := h.1 hc
    exact t_X12_readWord_59 hC hk9 σ x1 _ _ _ h hT (lv_sub hl [0, 1] rfl)
  · have h := h.2 hc
    refine lv_aload_n hx hb dX12_readWord_41 rfl (lv_at hl 0 rfl) ?_
    refine lv_aload_n hx hb dX12_readWord_42 rfl (lv_at hl 0 rfl) ?_
    refine rf_get hx hb hK hT hown 4 (by decide) kfX12_104 (v := .int (σ.1 4)) rfl dX12_readWord_43 ?_
    refine rf_calli (rf_runV hx hb hml hown hK hT (c_X12_byteAt h) rfl rfl klX12_107 ki_X12_byteAt ks_X12_byteAt kn_X12 kc_X12_byteAt 1 ⟨rfl, by decide, by decide, by decide +kernel⟩ ⟨by decide, by decide⟩ rfl hl.1 rfl (Nat.le_of_ble_eq_true rfl) ⟨Nat.le_refl _, Nat.le_refl _⟩ dX12_readWord_46) hT (fun r9 σ9 H locs h hT => ?_)
    refine rf_calli (rf_runS hx hb hml hown hK hT (c_X12_isSmall h) rfl rfl klX12_319 ki_X12_isSmall kn_X12 kc_X12_isSmall 1 ⟨by decide, by decide, by decide +kernel⟩ ⟨by decide, by decide⟩ rfl hl.1 rfl (Nat.le_of_ble_eq_true rfl) ⟨Nat.le_refl _, Nat.le_refl _⟩ dX12_readWord_49) hT (fun r10 σ10 H locs h hT => ?_)
    refine lv_if_eq (tgt := 59) hx hb dX12_readWord_52 (by decide) (fun hc => ?_) (fun hc => ?_)
    · have h := h.1 hc
      exact t_X12_readWord_59 hC hk9 σ10 x1 _ _ _ h hT (lv_sub hl [0, 1] rfl)
    · have h := h.2 hc
      refine lv_iconst (v := 1) hx hb dX12_readWord_55 (by decide) ?_
      refine lv_goto (tgt := 60) hx hb dX12_readWord_56 (by decide) ?_
      exact t_X12_readWord_60 hC hk9 σ10 x1 1 _ _ _ h hT (lv_sub hl [0, 1] rfl)
end
def w_X12_readWord_126 (post : rf_S → Prop) (σ : rf_S) (y1 : Int32) : Prop := post (rf_ui σ 54 y1)
section
variable {p : Program} {l : Launch} {e : Env} {s : State} {m : MethodId} {args : Array Value} {below : List Frame} {meth : Method} {c : Code} {P : hw_G} {o : Nat} {ad : Nat → Nat}
set_option maxRecDepth 100000 in
set_option maxHeartbeats 4000000 in
theorem t_X12_readWord_126 {post : rf_S → Prop} (hC : rf_C P RX12 p s m meth c cX12_readWord 3 none) (σ : rf_S) (y1 : Int32) (H : Heap) (locs : List Loc) (ls : Array Slot) (h : w_X12_readWord_126 post σ y1) (hT : rf_T P s (rf_A o ad) o ad σ H locs) (hl : lv_has ls 3 []) : W p l e rm_X12_readWord s m args below meth c H locs 0 0 (MQ below (rf_Qv P o ad post) args s 0 0 (rf_A o ad)) (F0 m 126 ls [.int y1, .ref o]) := by
  obtain ⟨hx, hb, hml, hown, hK, -, -⟩ := id hC
  refine rf_puti hx hb hK hT hown 54 (by decide) kfX12_316 rfl rfl dX12_readWord_126 (fun H locs hT => ?_)
  exact rf_vret hC hT h dX12_readWord_129
end
def w_X12_readWord_124 (post : rf_S → Prop) (σ : rf_S)  : Prop := w_X12_readWord_126 post σ 6
section
variable {p : Program} {l : Launch} {e : Env} {s : State} {m : MethodId} {args : Array Value} {below : List Frame} {meth : Method} {c : Code} {P : hw_G} {o : Nat} {ad : Nat → Nat}
set_option maxRecDepth 100000 in
set_option maxHeartbeats 4000000 in
theorem t_X12_readWord_124 {post : rf_S → Prop} (hC : rf_C P RX12 p s m meth c cX12_readWord 3 none) (σ : rf_S)  (H : Heap) (locs : List Loc) (ls : Array Slot) (h : w_X12_readWord_124 post σ ) (hT : rf_T P s (rf_A o ad) o ad σ H locs) (hl : lv_has ls 3 []) : W p l e rm_X12_readWord s m args below meth c H locs 0 0 (MQ below (rf_Qv P o ad post) args s 0 0 (rf_A o ad)) (F0 m 124 ls [.ref o]) := by
  obtain ⟨hx, hb, hml, hown, hK, -, -⟩ := id hC
  refine lv_bipush (v := 6) hx hb dX12_readWord_124 (by decide) ?_
  exact t_X12_readWord_126 hC σ 6 _ _ _ h hT (lv_sub hl [] rfl)
end
def w_X12_readWord_9 (post : rf_S → Prop) : Nat → rf_S → Int32 → Int32 → Prop
  | 0, _, _, _ => False
  | n + 1, σ, x1, x2 => wp_X12_byteAt (fun r11 σ11 => wp_X12_isSmall (fun r12 σ12 => (¬ r12 = 0 → w_X12_readWord_37 post (w_X12_readWord_9 post n) σ12 x1 x2) ∧ (r12 = 0 → wp_X12_byteAt (fun r13 σ13 => wp_X12_isDigit (fun r14 σ14 => (r14 = 0 → (x2 = 0 → w_X12_readWord_124 post σ14) ∧ (¬ x2 = 0 → (8 < x1 → w_X12_readWord_124 post σ14) ∧ (¬ 8 < x1 → w_X12_readWord_126 post σ14 1))) ∧ (¬ r14 = 0 → w_X12_readWord_37 post (w_X12_readWord_9 post n) σ14 x1 x2)) σ13 r13) σ12 (σ12.1 4))) σ11 r11) σ (σ.1 4)
section
variable {p : Program} {l : Launch} {e : Env} {s : State} {m : MethodId} {args : Array Value} {below : List Frame} {meth : Method} {c : Code} {P : hw_G} {o : Nat} {ad : Nat → Nat}
set_option maxRecDepth 100000 in
set_option maxHeartbeats 4000000 in
theorem t_X12_readWord_9 {post : rf_S → Prop} (hC : rf_C P RX12 p s m meth c cX12_readWord 3 none) : ∀ (n : Nat) (σ : rf_S) (x1 : Int32) (x2 : Int32) (H : Heap) (locs : List Loc) (ls : Array Slot), w_X12_readWord_9 post n σ x1 x2 → rf_T P s (rf_A o ad) o ad σ H locs → lv_has ls 3 [(0, .ref o), (1, .int x1), (2, .int x2)] → W p l e rm_X12_readWord s m args below meth c H locs 0 0 (MQ below (rf_Qv P o ad post) args s 0 0 (rf_A o ad)) (F0 m 9 ls []) := by
  obtain ⟨hx, hb, hml, hown, hK, -, -⟩ := id hC
  intro n
  induction n with
  | zero => intro σ x1 x2 H locs ls h; exact False.elim h
  | succ n ih =>
    intro σ x1 x2 H locs ls h hT hl
    refine lv_aload_n hx hb dX12_readWord_9 rfl (lv_at hl 0 rfl) ?_
    refine lv_aload_n hx hb dX12_readWord_10 rfl (lv_at hl 0 rfl) ?_
    refine rf_get hx hb hK hT hown 4 (by decide) kfX12_104 (v := .int (σ.1 4)) rfl dX12_readWord_11 ?_
    refine rf_calli (rf_runV hx hb hml hown hK hT (c_X12_byteAt h) rfl rfl klX12_107 ki_X12_byteAt ks_X12_byteAt kn_X12 kc_X12_byteAt 1 ⟨rfl, by decide, by decide, by decide +kernel⟩ ⟨by decide, by decide⟩ rfl hl.1 rfl (Nat.le_of_ble_eq_true rfl) ⟨Nat.le_refl _, Nat.le_refl _⟩ dX12_readWord_14) hT (fun r11 σ11 H locs h hT => ?_)
    refine rf_calli (rf_runS hx hb hml hown hK hT (c_X12_isSmall h) rfl rfl klX12_319 ki_X12_isSmall kn_X12 kc_X12_isSmall 1 ⟨by decide, by decide, by decide +kernel⟩ ⟨by decide, by decide⟩ rfl hl.1 rfl (Nat.le_of_ble_eq_true rfl) ⟨Nat.le_refl _, Nat.le_refl _⟩ dX12_readWord_17) hT (fun r12 σ12 H locs h hT => ?_)
    refine lv_if_ne (tgt := 37) hx hb dX12_readWord_20 (by decide) (fun hc => ?_) (fun hc => ?_)
    · have h := h.1 hc
      exact t_X12_readWord_37 hC ih σ12 x1 x2 _ _ _ h hT (lv_sub hl [0, 1, 2] rfl)
    · have h := h.2 hc
      refine lv_aload_n hx hb dX12_readWord_23 rfl (lv_at hl 0 rfl) ?_
      refine lv_aload_n hx hb dX12_readWord_24 rfl (lv_at hl 0 rfl) ?_
      refine rf_get hx hb hK hT hown 4 (by decide) kfX12_104 (v := .int (σ12.1 4)) rfl dX12_readWord_25 ?_
      refine rf_calli (rf_runV hx hb hml hown hK hT (c_X12_byteAt h) rfl rfl klX12_107 ki_X12_byteAt ks_X12_byteAt kn_X12 kc_X12_byteAt 1 ⟨rfl, by decide, by decide, by decide +kernel⟩ ⟨by decide, by decide⟩ rfl hl.1 rfl (Nat.le_of_ble_eq_true rfl) ⟨Nat.le_refl _, Nat.le_refl _⟩ dX12_readWord_28) hT (fun r13 σ13 H locs h hT => ?_)
      refine rf_calli (rf_runS hx hb hml hown hK hT (c_X12_isDigit h) rfl rfl klX12_325 ki_X12_isDigit kn_X12 kc_X12_isDigit 1 ⟨by decide, by decide, by decide +kernel⟩ ⟨by decide, by decide⟩ rfl hl.1 rfl (Nat.le_of_ble_eq_true rfl) ⟨Nat.le_refl _, Nat.le_refl _⟩ dX12_readWord_31) hT (fun r14 σ14 H locs h hT => ?_)
      refine lv_if_eq (tgt := 109) hx hb dX12_readWord_34 (by decide) (fun hc => ?_) (fun hc => ?_)
      · have h := h.1 hc
        refine lv_aload_n hx hb dX12_readWord_109 rfl (lv_at hl 0 rfl) ?_
        refine lv_iload_n hx hb dX12_readWord_110 rfl (lv_at hl 2 rfl) ?_
        refine lv_if_eq (tgt := 124) hx hb dX12_readWord_111 (by decide) (fun hc => ?_) (fun hc => ?_)
        · have h := h.1 hc
          exact t_X12_readWord_124 hC σ14 _ _ _ h hT (lv_sub hl [] rfl)
        · have h := h.2 hc
          refine lv_iload_n hx hb dX12_readWord_114 rfl (lv_at hl 1 rfl) ?_
          refine lv_bipush (v := 8) hx hb dX12_readWord_115 (by decide) ?_
          refine lv_icmp_gt (tgt := 124) hx hb dX12_readWord_117 (by decide) (fun hc => ?_) (fun hc => ?_)
          · have h := h.1 hc
            exact t_X12_readWord_124 hC σ14 _ _ _ h hT (lv_sub hl [] rfl)
          · have h := h.2 hc
            refine lv_iconst (v := 1) hx hb dX12_readWord_120 (by decide) ?_
            refine lv_goto (tgt := 126) hx hb dX12_readWord_121 (by decide) ?_
            exact t_X12_readWord_126 hC σ14 1 _ _ _ h hT (lv_sub hl [] rfl)
      · have h := h.2 hc
        exact t_X12_readWord_37 hC ih σ14 x1 x2 _ _ _ h hT (lv_sub hl [0, 1, 2] rfl)
end
def wp_X12_readWord (post : rf_S → Prop) (σ : rf_S)  : Prop := ∃ n9, w_X12_readWord_9 post n9 (rf_ul σ 58 0) 0 1
set_option maxRecDepth 100000 in
set_option maxHeartbeats 4000000 in
theorem c_X12_readWord {l : Launch} {P : hw_G} {o : Nat} {ad : Nat → Nat} {σ : rf_S}  {post : rf_S → Prop} (h : wp_X12_readWord post σ ) : Met l yX12_readWord [Cond.code yX12_readWord cX12_readWord 3 none] rm_X12_readWord (rf_Pc P o ad σ [.ref o]) (rf_Qv P o ad post) 0 0 (rf_A o ad) := by
  refine rf_met (by decide) rfl (Nat.le_of_ble_eq_true rfl) ?_
  intro p e s m below meth c ls hC hT hl
  obtain ⟨hx, hb, hml, hown, hK, -, -⟩ := id hC
  have hl : lv_has ls 3 [(0, .ref o)] := hl
  refine lv_iconst (v := 0) hx hb dX12_readWord_0 (by decide) ?_
  refine lv_istore_n (lv' := [(1, _), (0, _)]) hx hb dX12_readWord_1 rfl hl (by decide) rfl (fun ls hl => ?_)
  refine lv_iconst (v := 1) hx hb dX12_readWord_2 (by decide) ?_
  refine lv_istore_n (lv' := [(2, _), (1, _), (0, _)]) hx hb dX12_readWord_3 rfl hl (by decide) rfl (fun ls hl => ?_)
  refine lv_aload_n hx hb dX12_readWord_4 rfl (lv_at hl 2 rfl) ?_
  refine lv_lconst (v := 0) hx hb dX12_readWord_5 (by decide) ?_
  refine rf_putl hx hb hK hT hown 58 (by decide) kfX12_337 rfl rfl dX12_readWord_6 (fun H locs hT => ?_)
  obtain ⟨n9, h⟩ := h
  exact t_X12_readWord_9 hC n9 (rf_ul σ 58 0) 0 1 _ _ _ h hT (lv_sub hl [2, 1, 0] rfl)
/-! X12_readAddress -/
abbrev rm_X12_readAddress : Room := { frames := 1, cells := 0, slots := 0, locals := 21 }
def w_X12_readAddress_188 (post : rf_S → Prop) (k14 : rf_S → Int32 → Int32 → Int32 → Int32 → Prop) (σ : rf_S) (x1 : Int32) (x2 : Int32) (x3 : Int32) (y0 : Int32) : Prop := k14 σ x1 (x2 + 1) x3 y0
section
variable {p : Program} {l : Launch} {e : Env} {s : State} {m : MethodId} {args : Array Value} {below : List Frame} {meth : Method} {c : Code} {P : hw_G} {o : Nat} {ad : Nat → Nat}
set_option maxRecDepth 100000 in
set_option maxHeartbeats 4000000 in
theorem t_X12_readAddress_188 {post : rf_S → Prop} {k14 : rf_S → Int32 → Int32 → Int32 → Int32 → Prop} (hC : rf_C P RX12 p s m meth c cX12_readAddress 6 none) (hk14 : ∀ (σ : rf_S) (x1 : Int32) (x2 : Int32) (x3 : Int32) (x4 : Int32) (H : Heap) (locs : List Loc) (ls : Array Slot), k14 σ x1 x2 x3 x4 → rf_T P s (rf_A o ad) o ad σ H locs → lv_has ls 6 [(0, .ref o), (1, .int x1), (2, .int x2), (3, .int x3), (4, .int x4)] → W p l e rm_X12_readAddress s m args below meth c H locs 0 0 (MQ below (rf_Qv P o ad post) args s 0 0 (rf_A o ad)) (F0 m 14 ls [])) (σ : rf_S) (x1 : Int32) (x2 : Int32) (x3 : Int32) (y0 : Int32) (H : Heap) (locs : List Loc) (ls : Array Slot) (h : w_X12_readAddress_188 post k14 σ x1 x2 x3 y0) (hT : rf_T P s (rf_A o ad) o ad σ H locs) (hl : lv_has ls 6 [(0, .ref o), (1, .int x1), (2, .int x2), (3, .int x3)]) : W p l e rm_X12_readAddress s m args below meth c H locs 0 0 (MQ below (rf_Qv P o ad post) args s 0 0 (rf_A o ad)) (F0 m 188 ls [.int y0]) := by
  obtain ⟨hx, hb, hml, hown, hK, -, -⟩ := id hC
  refine lv_istore (lv' := [(4, _), (0, _), (1, _), (2, _), (3, _)]) hx hb dX12_readAddress_188 hl (by decide) rfl (fun ls hl => ?_)
  refine lv_iinc (v := x2 + 1) (lv' := [(2, _), (4, _), (0, _), (1, _), (3, _)]) hx hb dX12_readAddress_190 hl (k := 3) rfl rfl (by decide) rfl (fun ls hl => ?_)
  refine lv_goto (tgt := 14) hx hb dX12_readAddress_193 (by decide) ?_
  exact hk14 σ x1 (x2 + 1) x3 y0 _ _ _ h hT (lv_sub hl [2, 3, 0, 4, 1] rfl)
end
def w_X12_readAddress_187 (post : rf_S → Prop) (k14 : rf_S → Int32 → Int32 → Int32 → Int32 → Prop) (σ : rf_S) (x1 : Int32) (x2 : Int32) (x3 : Int32) : Prop := w_X12_readAddress_188 post k14 σ x1 x2 x3 0
section
variable {p : Program} {l : Launch} {e : Env} {s : State} {m : MethodId} {args : Array Value} {below : List Frame} {meth : Method} {c : Code} {P : hw_G} {o : Nat} {ad : Nat → Nat}
set_option maxRecDepth 100000 in
set_option maxHeartbeats 4000000 in
theorem t_X12_readAddress_187 {post : rf_S → Prop} {k14 : rf_S → Int32 → Int32 → Int32 → Int32 → Prop} (hC : rf_C P RX12 p s m meth c cX12_readAddress 6 none) (hk14 : ∀ (σ : rf_S) (x1 : Int32) (x2 : Int32) (x3 : Int32) (x4 : Int32) (H : Heap) (locs : List Loc) (ls : Array Slot), k14 σ x1 x2 x3 x4 → rf_T P s (rf_A o ad) o ad σ H locs → lv_has ls 6 [(0, .ref o), (1, .int x1), (2, .int x2), (3, .int x3), (4, .int x4)] → W p l e rm_X12_readAddress s m args below meth c H locs 0 0 (MQ below (rf_Qv P o ad post) args s 0 0 (rf_A o ad)) (F0 m 14 ls [])) (σ : rf_S) (x1 : Int32) (x2 : Int32) (x3 : Int32) (H : Heap) (locs : List Loc) (ls : Array Slot) (h : w_X12_readAddress_187 post k14 σ x1 x2 x3) (hT : rf_T P s (rf_A o ad) o ad σ H locs) (hl : lv_has ls 6 [(0, .ref o), (1, .int x1), (2, .int x2), (3, .int x3)]) : W p l e rm_X12_readAddress s m args below meth c H locs 0 0 (MQ below (rf_Qv P o ad post) args s 0 0 (rf_A o ad)) (F0 m 187 ls []) := by
  obtain ⟨hx, hb, hml, hown, hK, -, -⟩ := id hC
  refine lv_iconst (v := 0) hx hb dX12_readAddress_187 (by decide) ?_
  exact t_X12_readAddress_188 hC hk14 σ x1 x2 x3 0 _ _ _ h hT (lv_sub hl [0, 1, 2, 3] rfl)
end
def w_X12_readAddress_170 (post : rf_S → Prop) (k14 : rf_S → Int32 → Int32 → Int32 → Int32 → Prop) (σ : rf_S) (x1 : Int32) (x2 : Int32) (x4 : Int32) (y0 : Int32) : Prop := (x4 = 0 → w_X12_readAddress_187 post k14 σ x1 x2 y0) ∧ (¬ x4 = 0 → (256 ≤ y0 → w_X12_readAddress_187 post k14 σ x1 x2 y0) ∧ (¬ 256 ≤ y0 → w_X12_readAddress_188 post k14 σ x1 x2 y0 1))
section
variable {p : Program} {l : Launch} {e : Env} {s : State} {m : MethodId} {args : Array Value} {below : List Frame} {meth : Method} {c : Code} {P : hw_G} {o : Nat} {ad : Nat → Nat}
set_option maxRecDepth 100000 in
set_option maxHeartbeats 4000000 in
theorem t_X12_readAddress_170 {post : rf_S → Prop} {k14 : rf_S → Int32 → Int32 → Int32 → Int32 → Prop} (hC : rf_C P RX12 p s m meth c cX12_readAddress 6 none) (hk14 : ∀ (σ : rf_S) (x1 : Int32) (x2 : Int32) (x3 : Int32) (x4 : Int32) (H : Heap) (locs : List Loc) (ls : Array Slot), k14 σ x1 x2 x3 x4 → rf_T P s (rf_A o ad) o ad σ H locs → lv_has ls 6 [(0, .ref o), (1, .int x1), (2, .int x2), (3, .int x3), (4, .int x4)] → W p l e rm_X12_readAddress s m args below meth c H locs 0 0 (MQ below (rf_Qv P o ad post) args s 0 0 (rf_A o ad)) (F0 m 14 ls [])) (σ : rf_S) (x1 : Int32) (x2 : Int32) (x4 : Int32) (y0 : Int32) (H : Heap) (locs : List Loc) (ls : Array Slot) (h : w_X12_readAddress_170 post k14 σ x1 x2 x4 y0) (hT : rf_T P s (rf_A o ad) o ad σ H locs) (hl : lv_has ls 6 [(0, .ref o), (1, .int x1), (2, .int x2), (4, .int x4)]) : W p l e rm_X12_readAddress s m args below meth c H locs 0 0 (MQ below (rf_Qv P o ad post) args s 0 0 (rf_A o ad)) (F0 m 170 ls [.int y0]) := by
  obtain ⟨hx, hb, hml, hown, hK, -, -⟩ := id hC
  refine lv_istore_n (lv' := [(3, _), (0, _), (1, _), (2, _), (4, _)]) hx hb dX12_readAddress_170 rfl hl (by decide) rfl (fun ls hl => ?_)
  refine lv_iload hx hb dX12_readAddress_171 (lv_at hl 4 rfl) ?_
  refine lv_if_eq (tgt := 187) hx hb dX12_readAddress_173 (by decide) (fun hc => ?_) (fun hc => ?_)
  · have h := h.1 hc
    exact t_X12_readAddress_187 hC hk14 σ x1 x2 y0 _ _ _ h hT (lv_sub hl [1, 2, 3, 0] rfl)
  · have h := h.2 hc
    refine lv_iload_n hx hb dX12_readAddress_176 rfl (lv_at hl 0 rfl) ?_
    refine lv_sipush (v := 256) hx hb dX12_readAddress_177 (by decide) ?_
    refine lv_icmp_ge (tgt := 187) hx hb dX12_readAddress_180 (by decide) (fun hc => ?_) (fun hc => ?_)
    · have h := h.1 hc
      exact t_X12_readAddress_187 hC hk14 σ x1 x2 y0 _ _ _ h hT (lv_sub hl [1, 2, 3, 0] rfl)
    · have h := h.2 hc
      refine lv_iconst (v := 1) hx hb dX12_readAddress_183 (by decide) ?_
      refine lv_goto (tgt := 188) hx hb dX12_readAddress_184 (by decide) ?_
      exact t_X12_readAddress_188 hC hk14 σ x1 x2 y0 1 _ _ _ h hT (lv_sub hl [1, 2, 3, 0] rfl)
end
def w_X12_readAddress_149 (post : rf_S → Prop) (k14 : rf_S → Int32 → Int32 → Int32 → Int32 → Prop) (σ : rf_S) (x1 : Int32) (x2 : Int32) (x3 : Int32) (x5 : Int32) (y0 : Int32) : Prop := (y0 = 0 → w_X12_readAddress_170 post k14 σ x1 x2 y0 0) ∧ (¬ y0 = 0 → w_X12_readAddress_170 post k14 σ x1 x2 y0 (((10 * x3) + x5) - 48))
section
variable {p : Program} {l : Launch} {e : Env} {s : State} {m : MethodId} {args : Array Value} {below : List Frame} {meth : Method} {c : Code} {P : hw_G} {o : Nat} {ad : Nat → Nat}
set_option maxRecDepth 100000 in
set_option maxHeartbeats 4000000 in
theorem t_X12_readAddress_149 {post : rf_S → Prop} {k14 : rf_S → Int32 → Int32 → Int32 → Int32 → Prop} (hC : rf_C P RX12 p s m meth c cX12_readAddress 6 none) (hk14 : ∀ (σ : rf_S) (x1 : Int32) (x2 : Int32) (x3 : Int32) (x4 : Int32) (H : Heap) (locs : List Loc) (ls : Array Slot), k14 σ x1 x2 x3 x4 → rf_T P s (rf_A o ad) o ad σ H locs → lv_has ls 6 [(0, .ref o), (1, .int x1), (2, .int x2), (3, .int x3), (4, .int x4)] → W p l e rm_X12_readAddress s m args below meth c H locs 0 0 (MQ below (rf_Qv P o ad post) args s 0 0 (rf_A o ad)) (F0 m 14 ls [])) (σ : rf_S) (x1 : Int32) (x2 : Int32) (x3 : Int32) (x5 : Int32) (y0 : Int32) (H : Heap) (locs : List Loc) (ls : Array Slot) (h : w_X12_readAddress_149 post k14 σ x1 x2 x3 x5 y0) (hT : rf_T P s (rf_A o ad) o ad σ H locs) (hl : lv_has ls 6 [(0, .ref o), (1, .int x1), (2, .int x2), (3, .int x3), (5, .int x5)]) : W p l e rm_X12_readAddress s m args below meth c H locs 0 0 (MQ below (rf_Qv P o ad post) args s 0 0 (rf_A o ad)) (F0 m 149 ls [.int y0]) := by
  obtain ⟨hx, hb, hml, hown, hK, -, -⟩ := id hC
  refine lv_istore (lv' := [(4, _), (0, _), (1, _), (2, _), (3, _), (5, _)]) hx hb dX12_readAddress_149 hl (by decide) rfl (fun ls hl => ?_)
  refine lv_iload hx hb dX12_readAddress_151 (lv_at hl 0 rfl) ?_
  refine lv_if_eq (tgt := 169) hx hb dX12_readAddress_153 (by decide) (fun hc => ?_) (fun hc => ?_)
  · have h := h.1 hc
    refine lv_iconst (v := 0) hx hb dX12_readAddress_169 (by decide) ?_
    exact t_X12_readAddress_170 hC hk14 σ x1 x2 y0 0 _ _ _ h hT (lv_sub hl [1, 2, 3, 0] rfl)
  · have h := h.2 hc
    refine lv_bipush (v := 10) hx hb dX12_readAddress_156 (by decide) ?_
    refine lv_iload_n hx hb dX12_readAddress_158 rfl (lv_at hl 4 rfl) ?_
    refine lv_imul hx hb dX12_readAddress_159 ?_
    refine lv_iload hx hb dX12_readAddress_160 (lv_at hl 5 rfl) ?_
    refine lv_iadd hx hb dX12_readAddress_162 ?_
    refine lv_bipush (v := 48) hx hb dX12_readAddress_163 (by decide) ?_
    refine lv_isub hx hb dX12_readAddress_165 ?_
    refine lv_goto (tgt := 170) hx hb dX12_readAddress_166 (by decide) ?_
    exact t_X12_readAddress_170 hC hk14 σ x1 x2 y0 (((10 * x3) + x5) - 48) _ _ _ h hT (lv_sub hl [1, 2, 3, 0] rfl)
end
def w_X12_readAddress_148 (post : rf_S → Prop) (k14 : rf_S → Int32 → Int32 → Int32 → Int32 → Prop) (σ : rf_S) (x1 : Int32) (x2 : Int32) (x3 : Int32) (x5 : Int32) : Prop := w_X12_readAddress_149 post k14 σ x1 x2 x3 x5 0
section
variable {p : Program} {l : Launch} {e : Env} {s : State} {m : MethodId} {args : Array Value} {below : List Frame} {meth : Method} {c : Code} {P : hw_G} {o : Nat} {ad : Nat → Nat}
set_option maxRecDepth 100000 in
set_option maxHeartbeats 4000000 in
theorem t_X12_readAddress_148 {post : rf_S → Prop} {k14 : rf_S → Int32 → Int32 → Int32 → Int32 → Prop} (hC : rf_C P RX12 p s m meth c cX12_readAddress 6 none) (hk14 : ∀ (σ : rf_S) (x1 : Int32) (x2 : Int32) (x3 : Int32) (x4 : Int32) (H : Heap) (locs : List Loc) (ls : Array Slot), k14 σ x1 x2 x3 x4 → rf_T P s (rf_A o ad) o ad σ H locs → lv_has ls 6 [(0, .ref o), (1, .int x1), (2, .int x2), (3, .int x3), (4, .int x4)] → W p l e rm_X12_readAddress s m args below meth c H locs 0 0 (MQ below (rf_Qv P o ad post) args s 0 0 (rf_A o ad)) (F0 m 14 ls [])) (σ : rf_S) (x1 : Int32) (x2 : Int32) (x3 : Int32) (x5 : Int32) (H : Heap) (locs : List Loc) (ls : Array Slot) (h : w_X12_readAddress_148 post k14 σ x1 x2 x3 x5) (hT : rf_T P s (rf_A o ad) o ad σ H locs) (hl : lv_has ls 6 [(0, .ref o), (1, .int x1), (2, .int x2), (3, .int x3), (5, .int x5)]) : W p l e rm_X12_readAddress s m args below meth c H locs 0 0 (MQ below (rf_Qv P o ad post) args s 0 0 (rf_A o ad)) (F0 m 148 ls []) := by
  obtain ⟨hx, hb, hml, hown, hK, -, -⟩ := id hC
  refine lv_iconst (v := 0) hx hb dX12_readAddress_148 (by decide) ?_
  exact t_X12_readAddress_149 hC hk14 σ x1 x2 x3 x5 0 _ _ _ h hT (lv_sub hl [0, 1, 2, 3, 4] rfl)
end
def w_X12_readAddress_101 (post : rf_S → Prop) (k14 : rf_S → Int32 → Int32 → Int32 → Int32 → Prop) (σ : rf_S) (x1 : Int32) (x3 : Int32) (y0 : Int32) : Prop := k14 (rf_ui σ 56 (((σ.1 56) <<< (8 &&& 31)) ||| x3)) (x1 + 1) 0 0 y0
section
variable {p : Program} {l : Launch} {e : Env} {s : State} {m : MethodId} {args : Array Value} {below : List Frame} {meth : Method} {c : Code} {P : hw_G} {o : Nat} {ad : Nat → Nat}
set_option maxRecDepth 100000 in
set_option maxHeartbeats 4000000 in
theorem t_X12_readAddress_101 {post : rf_S → Prop} {k14 : rf_S → Int32 → Int32 → Int32 → Int32 → Prop} (hC : rf_C P RX12 p s m meth c cX12_readAddress 6 none) (hk14 : ∀ (σ : rf_S) (x1 : Int32) (x2 : Int32) (x3 : Int32) (x4 : Int32) (H : Heap) (locs : List Loc) (ls : Array Slot), k14 σ x1 x2 x3 x4 → rf_T P s (rf_A o ad) o ad σ H locs → lv_has ls 6 [(0, .ref o), (1, .int x1), (2, .int x2), (3, .int x3), (4, .int x4)] → W p l e rm_X12_readAddress s m args below meth c H locs 0 0 (MQ below (rf_Qv P o ad post) args s 0 0 (rf_A o ad)) (F0 m 14 ls [])) (σ : rf_S) (x1 : Int32) (x3 : Int32) (y0 : Int32) (H : Heap) (locs : List Loc) (ls : Array Slot) (h : w_X12_readAddress_101 post k14 σ x1 x3 y0) (hT : rf_T P s (rf_A o ad) o ad σ H locs) (hl : lv_has ls 6 [(0, .ref o), (1, .int x1), (3, .int x3)]) : W p l e rm_X12_readAddress s m args below meth c H locs 0 0 (MQ below (rf_Qv P o ad post) args s 0 0 (rf_A o ad)) (F0 m 101 ls [.int y0]) := by
  obtain ⟨hx, hb, hml, hown, hK, -, -⟩ := id hC
  refine lv_istore (lv' := [(4, _), (0, _), (1, _), (3, _)]) hx hb dX12_readAddress_101 hl (by decide) rfl (fun ls hl => ?_)
  refine lv_aload_n hx hb dX12_readAddress_103 rfl (lv_at hl 1 rfl) ?_
  refine lv_aload_n hx hb dX12_readAddress_104 rfl (lv_at hl 1 rfl) ?_
  refine rf_get hx hb hK hT hown 56 (by decide) kfX12_347 (v := .int (σ.1 56)) rfl dX12_readAddress_105 ?_
  refine lv_bipush (v := 8) hx hb dX12_readAddress_108 (by decide) ?_
  refine lv_ishl hx hb dX12_readAddress_110 ?_
  refine lv_iload_n hx hb dX12_readAddress_111 rfl (lv_at hl 3 rfl) ?_
  refine lv_ior hx hb dX12_readAddress_112 ?_
  refine rf_puti hx hb hK hT hown 56 (by decide) kfX12_347 rfl rfl dX12_readAddress_113 (fun H locs hT => ?_)
  refine lv_iinc (v := x1 + 1) (lv' := [(1, _), (4, _), (0, _), (3, _)]) hx hb dX12_readAddress_116 hl (k := 2) rfl rfl (by decide) rfl (fun ls hl => ?_)
  refine lv_iconst (v := 0) hx hb dX12_readAddress_119 (by decide) ?_
  refine lv_istore_n (lv' := [(2, _), (1, _), (4, _), (0, _), (3, _)]) hx hb dX12_readAddress_120 rfl hl (by decide) rfl (fun ls hl => ?_)
  refine lv_iconst (v := 0) hx hb dX12_readAddress_121 (by decide) ?_
  refine lv_istore_n (lv' := [(3, _), (2, _), (1, _), (4, _), (0, _)]) hx hb dX12_readAddress_122 rfl hl (by decide) rfl (fun ls hl => ?_)
  refine lv_goto (tgt := 14) hx hb dX12_readAddress_123 (by decide) ?_
  exact hk14 (rf_ui σ 56 (((σ.1 56) <<< (8 &&& 31)) ||| x3)) (x1 + 1) 0 0 y0 _ _ _ h hT (lv_sub hl [4, 2, 1, 0, 3] rfl)
end
def w_X12_readAddress_100 (post : rf_S → Prop) (k14 : rf_S → Int32 → Int32 → Int32 → Int32 → Prop) (σ : rf_S) (x1 : Int32) (x3 : Int32) : Prop := w_X12_readAddress_101 post k14 σ x1 x3 0
section
variable {p : Program} {l : Launch} {e : Env} {s : State} {m : MethodId} {args : Array Value} {below : List Frame} {meth : Method} {c : Code} {P : hw_G} {o : Nat} {ad : Nat → Nat}
set_option maxRecDepth 100000 in
set_option maxHeartbeats 4000000 in
theorem t_X12_readAddress_100 {post : rf_S → Prop} {k14 : rf_S → Int32 → Int32 → Int32 → Int32 → Prop} (hC : rf_C P RX12 p s m meth c cX12_readAddress 6 none) (hk14 : ∀ (σ : rf_S) (x1 : Int32) (x2 : Int32) (x3 : Int32) (x4 : Int32) (H : Heap) (locs : List Loc) (ls : Array Slot), k14 σ x1 x2 x3 x4 → rf_T P s (rf_A o ad) o ad σ H locs → lv_has ls 6 [(0, .ref o), (1, .int x1), (2, .int x2), (3, .int x3), (4, .int x4)] → W p l e rm_X12_readAddress s m args below meth c H locs 0 0 (MQ below (rf_Qv P o ad post) args s 0 0 (rf_A o ad)) (F0 m 14 ls [])) (σ : rf_S) (x1 : Int32) (x3 : Int32) (H : Heap) (locs : List Loc) (ls : Array Slot) (h : w_X12_readAddress_100 post k14 σ x1 x3) (hT : rf_T P s (rf_A o ad) o ad σ H locs) (hl : lv_has ls 6 [(0, .ref o), (1, .int x1), (3, .int x3)]) : W p l e rm_X12_readAddress s m args below meth c H locs 0 0 (MQ below (rf_Qv P o ad post) args s 0 0 (rf_A o ad)) (F0 m 100 ls []) := by
  obtain ⟨hx, hb, hml, hown, hK, -, -⟩ := id hC
  refine lv_iconst (v := 0) hx hb dX12_readAddress_100 (by decide) ?_
  exact t_X12_readAddress_101 hC hk14 σ x1 x3 0 _ _ _ h hT (lv_sub hl [0, 1, 2] rfl)
end
def w_X12_readAddress_55 (post : rf_S → Prop) (k14 : rf_S → Int32 → Int32 → Int32 → Int32 → Prop) (σ : rf_S) (x1 : Int32) (x2 : Int32) (x3 : Int32) (x4 : Int32) : Prop := wp_X12_byteAt (fun r8 σ8 => (¬ r8 = 46 → (x4 = 0 → w_X12_readAddress_148 post k14 (rf_ui σ8 4 ((σ8.1 4) + 1)) x1 x2 x3 r8) ∧ (¬ x4 = 0 → wp_X12_isDigit (fun r9 σ9 => (r9 = 0 → w_X12_readAddress_148 post k14 σ9 x1 x2 x3 r8) ∧ (¬ r9 = 0 → (3 ≤ x2 → w_X12_readAddress_148 post k14 σ9 x1 x2 x3 r8) ∧ (¬ 3 ≤ x2 → w_X12_readAddress_149 post k14 σ9 x1 x2 x3 r8 1))) (rf_ui σ8 4 ((σ8.1 4) + 1)) r8)) ∧ (r8 = 46 → (x4 = 0 → w_X12_readAddress_100 post k14 (rf_ui σ8 4 ((σ8.1 4) + 1)) x1 x3) ∧ (¬ x4 = 0 → (x2 ≤ 0 → w_X12_readAddress_100 post k14 (rf_ui σ8 4 ((σ8.1 4) + 1)) x1 x3) ∧ (¬ x2 ≤ 0 → (4 ≤ x1 → w_X12_readAddress_100 post k14 (rf_ui σ8 4 ((σ8.1 4) + 1)) x1 x3) ∧ (¬ 4 ≤ x1 → w_X12_readAddress_101 post k14 (rf_ui σ8 4 ((σ8.1 4) + 1)) x1 x3 1))))) σ (σ.1 4)
section
variable {p : Program} {l : Launch} {e : Env} {s : State} {m : MethodId} {args : Array Value} {below : List Frame} {meth : Method} {c : Code} {P : hw_G} {o : Nat} {ad : Nat → Nat}
set_option maxRecDepth 100000 in
set_option maxHeartbeats 4000000 in
theorem t_X12_readAddress_55 {post : rf_S → Prop} {k14 : rf_S → Int32 → Int32 → Int32 → Int32 → Prop} (hC : rf_C P RX12 p s m meth c cX12_readAddress 6 none) (hk14 : ∀ (σ : rf_S) (x1 : Int32) (x2 : Int32) (x3 : Int32) (x4 : Int32) (H : Heap) (locs : List Loc) (ls : Array Slot), k14 σ x1 x2 x3 x4 → rf_T P s (rf_A o ad) o ad σ H locs → lv_has ls 6 [(0, .ref o), (1, .int x1), (2, .int x2), (3, .int x3), (4, .int x4)] → W p l e rm_X12_readAddress s m args below meth c H locs 0 0 (MQ below (rf_Qv P o ad post) args s 0 0 (rf_A o ad)) (F0 m 14 ls [])) (σ : rf_S) (x1 : Int32) (x2 : Int32) (x3 : Int32) (x4 : Int32) (H : Heap) (locs : List Loc) (ls : Array Slot) (h : w_X12_readAddress_55 post k14 σ x1 x2 x3 x4) (hT : rf_T P s (rf_A o ad) o ad σ H locs) (hl : lv_has ls 6 [(0, .ref o), (1, .int x1), (2, .int x2), (3, .int x3), (4, .int x4)]) : W p l e rm_X12_readAddress s m args below meth c H locs 0 0 (MQ below (rf_Qv P o ad post) args s 0 0 (rf_A o ad)) (F0 m 55 ls []) := by
  obtain ⟨hx, hb, hml, hown, hK, -, -⟩ := id hC
  refine lv_aload_n hx hb dX12_readAddress_55 rfl (lv_at hl 0 rfl) ?_
  refine lv_aload_n hx hb dX12_readAddress_56 rfl (lv_at hl 0 rfl) ?_
  refine rf_get hx hb hK hT hown 4 (by decide) kfX12_104 (v := .int (σ.1 4)) rfl dX12_readAddress_57 ?_
  refine rf_calli (rf_runV hx hb hml hown hK hT (c_X12_byteAt h) rfl rfl klX12_107 ki_X12_byteAt ks_X12_byteAt kn_X12 kc_X12_byteAt 1 ⟨rfl, by decide, by decide, by decide +kernel⟩ ⟨by decide, by decide⟩ rfl hl.1 rfl (Nat.le_of_ble_eq_true rfl) ⟨Nat.le_refl _, Nat.le_refl _⟩ dX12_readAddress_60) hT (fun r8 σ8 H locs h hT => ?_)
  refine lv_istore (lv' := [(5, _), (0, _), (1, _), (2, _), (3, _), (4, _)]) hx hb dX12_readAddress_63 hl (by decide) rfl (fun ls hl => ?_)
  refine lv_aload_n hx hb dX12_readAddress_65 rfl (lv_at hl 1 rfl) ?_
  refine lv_dup hx hb dX12_readAddress_66 rfl ?_
  refine rf_get hx hb hK hT hown 4 (by decide) kfX12_104 (v := .int (σ8.1 4)) rfl dX12_readAddress_67 ?_
  refine lv_iconst (v := 1) hx hb dX12_readAddress_70 (by decide) ?_
  refine lv_iadd hx hb dX12_readAddress_71 ?_
  refine rf_puti hx hb hK hT hown 4 (by decide) kfX12_104 rfl rfl dX12_readAddress_72 (fun H locs hT => ?_)
  refine lv_iload hx hb dX12_readAddress_75 (lv_at hl 0 rfl) ?_
  refine lv_bipush (v := 46) hx hb dX12_readAddress_77 (by decide) ?_
  refine lv_icmp_ne (tgt := 126) hx hb dX12_readAddress_79 (by decide) (fun hc => ?_) (fun hc => ?_)
  · have h := h.1 hc
    refine lv_iload hx hb dX12_readAddress_126 (lv_at hl 5 rfl) ?_
    refine lv_if_eq (tgt := 148) hx hb dX12_readAddress_128 (by decide) (fun hc => ?_) (fun hc => ?_)
    · have h := h.1 hc
      exact t_X12_readAddress_148 hC hk14 (rf_ui σ8 4 ((σ8.1 4) + 1)) x1 x2 x3 r8 _ _ _ h hT (lv_sub hl [1, 2, 3, 4, 0] rfl)
    · have h := h.2 hc
      refine lv_iload hx hb dX12_readAddress_131 (lv_at hl 0 rfl) ?_
      refine rf_calli (rf_runS hx hb hml hown hK hT (c_X12_isDigit h) rfl rfl klX12_325 ki_X12_isDigit kn_X12 kc_X12_isDigit 1 ⟨by decide, by decide, by decide +kernel⟩ ⟨by decide, by decide⟩ rfl hl.1 rfl (Nat.le_of_ble_eq_true rfl) ⟨Nat.le_refl _, Nat.le_refl _⟩ dX12_readAddress_133) hT (fun r9 σ9 H locs h hT => ?_)
      refine lv_if_eq (tgt := 148) hx hb dX12_readAddress_136 (by decide) (fun hc => ?_) (fun hc => ?_)
      · have h := h.1 hc
        exact t_X12_readAddress_148 hC hk14 σ9 x1 x2 x3 r8 _ _ _ h hT (lv_sub hl [1, 2, 3, 4, 0] rfl)
      · have h := h.2 hc
        refine lv_iload_n hx hb dX12_readAddress_139 rfl (lv_at hl 3 rfl) ?_
        refine lv_iconst (v := 3) hx hb dX12_readAddress_140 (by decide) ?_
        refine lv_icmp_ge (tgt := 148) hx hb dX12_readAddress_141 (by decide) (fun hc => ?_) (fun hc => ?_)
        · have h := h.1 hc
          exact t_X12_readAddress_148 hC hk14 σ9 x1 x2 x3 r8 _ _ _ h hT (lv_sub hl [1, 2, 3, 4, 0] rfl)
        · have h := h.2 hc
          refine lv_iconst (v := 1) hx hb dX12_readAddress_144 (by decide) ?_
          refine lv_goto (tgt := 149) hx hb dX12_readAddress_145 (by decide) ?_
          exact t_X12_readAddress_149 hC hk14 σ9 x1 x2 x3 r8 1 _ _ _ h hT (lv_sub hl [1, 2, 3, 4, 0] rfl)
  · have h := h.2 hc
    refine lv_iload hx hb dX12_readAddress_82 (lv_at hl 5 rfl) ?_
    refine lv_if_eq (tgt := 100) hx hb dX12_readAddress_84 (by decide) (fun hc => ?_) (fun hc => ?_)
    · have h := h.1 hc
      exact t_X12_readAddress_100 hC hk14 (rf_ui σ8 4 ((σ8.1 4) + 1)) x1 x3 _ _ _ h hT (lv_sub hl [1, 2, 4] rfl)
    · have h := h.2 hc
      refine lv_iload_n hx hb dX12_readAddress_87 rfl (lv_at hl 3 rfl) ?_
      refine lv_if_le (tgt := 100) hx hb dX12_readAddress_88 (by decide) (fun hc => ?_) (fun hc => ?_)
      · have h := h.1 hc
        exact t_X12_readAddress_100 hC hk14 (rf_ui σ8 4 ((σ8.1 4) + 1)) x1 x3 _ _ _ h hT (lv_sub hl [1, 2, 4] rfl)
      · have h := h.2 hc
        refine lv_iload_n hx hb dX12_readAddress_91 rfl (lv_at hl 2 rfl) ?_
        refine lv_iconst (v := 4) hx hb dX12_readAddress_92 (by decide) ?_
        refine lv_icmp_ge (tgt := 100) hx hb dX12_readAddress_93 (by decide) (fun hc => ?_) (fun hc => ?_)
        · have h := h.1 hc
          exact t_X12_readAddress_100 hC hk14 (rf_ui σ8 4 ((σ8.1 4) + 1)) x1 x3 _ _ _ h hT (lv_sub hl [1, 2, 4] rfl)
        · have h := h.2 hc
          refine lv_iconst (v := 1) hx hb dX12_readAddress_96 (by decide) ?_
          refine lv_goto (tgt := 101) hx hb dX12_readAddress_97 (by decide) ?_
          exact t_X12_readAddress_101 hC hk14 (rf_ui σ8 4 ((σ8.1 4) + 1)) x1 x3 1 _ _ _ h hT (lv_sub hl [1, 2, 4] rfl)
end
def w_X12_readAddress_230 (post : rf_S → Prop) (σ : rf_S) (y1 : Int32) : Prop := post (rf_ui σ 54 y1)
section
variable {p : Program} {l : Launch} {e : Env} {s : State} {m : MethodId} {args : Array Value} {below : List Frame} {meth : Method} {c : Code} {P : hw_G} {o : Nat} {ad : Nat → Nat}
set_option maxRecDepth 100000 in
set_option maxHeartbeats 4000000 in
theorem t_X12_readAddress_230 {post : rf_S → Prop} (hC : rf_C P RX12 p s m meth c cX12_readAddress 6 none) (σ : rf_S) (y1 : Int32) (H : Heap) (locs : List Loc) (ls : Array Slot) (h : w_X12_readAddress_230 post σ y1) (hT : rf_T P s (rf_A o ad) o ad σ H locs) (hl : lv_has ls 6 []) : W p l e rm_X12_readAddress s m args below meth c H locs 0 0 (MQ below (rf_Qv P o ad post) args s 0 0 (rf_A o ad)) (F0 m 230 ls [.int y1, .ref o]) := by
  obtain ⟨hx, hb, hml, hown, hK, -, -⟩ := id hC
  refine rf_puti hx hb hK hT hown 54 (by decide) kfX12_316 rfl rfl dX12_readAddress_230 (fun H locs hT => ?_)
  exact rf_vret hC hT h dX12_readAddress_233
end
def w_X12_readAddress_228 (post : rf_S → Prop) (σ : rf_S)  : Prop := w_X12_readAddress_230 post σ 6
section
variable {p : Program} {l : Launch} {e : Env} {s : State} {m : MethodId} {args : Array Value} {below : List Frame} {meth : Method} {c : Code} {P : hw_G} {o : Nat} {ad : Nat → Nat}
set_option maxRecDepth 100000 in
set_option maxHeartbeats 4000000 in
theorem t_X12_readAddress_228 {post : rf_S → Prop} (hC : rf_C P RX12 p s m meth c cX12_readAddress 6 none) (σ : rf_S)  (H : Heap) (locs : List Loc) (ls : Array Slot) (h : w_X12_readAddress_228 post σ ) (hT : rf_T P s (rf_A o ad) o ad σ H locs) (hl : lv_has ls 6 []) : W p l e rm_X12_readAddress s m args below meth c H locs 0 0 (MQ below (rf_Qv P o ad post) args s 0 0 (rf_A o ad)) (F0 m 228 ls [.ref o]) := by
  obtain ⟨hx, hb, hml, hown, hK, -, -⟩ := id hC
  refine lv_bipush (v := 6) hx hb dX12_readAddress_228 (by decide) ?_
  exact t_X12_readAddress_230 hC σ 6 _ _ _ h hT (lv_sub hl [] rfl)
end
def w_X12_readAddress_14 (post : rf_S → Prop) : Nat → rf_S → Int32 → Int32 → Int32 → Int32 → Prop
  | 0, _, _, _, _, _ => False
  | n + 1, σ, x1, x2, x3, x4 => wp_X12_byteAt (fun r10 σ10 => wp_X12_isSmall (fun r11 σ11 => (¬ r11 = 0 → w_X12_readAddress_55 post (w_X12_readAddress_14 post n) σ11 x1 x2 x3 x4) ∧ (r11 = 0 → wp_X12_byteAt (fun r12 σ12 => wp_X12_isDigit (fun r13 σ13 => (¬ r13 = 0 → w_X12_readAddress_55 post (w_X12_readAddress_14 post n) σ13 x1 x2 x3 x4) ∧ (r13 = 0 → wp_X12_byteAt (fun r14 σ14 => (¬ r14 = 46 → (x4 = 0 → w_X12_readAddress_228 post (rf_ui σ14 56 (((σ14.1 56) <<< (8 &&& 31)) ||| x3))) ∧ (¬ x4 = 0 → (¬ x1 = 4 → w_X12_readAddress_228 post (rf_ui σ14 56 (((σ14.1 56) <<< (8 &&& 31)) ||| x3))) ∧ (x1 = 4 → (x2 ≤ 0 → w_X12_readAddress_228 post (rf_ui σ14 56 (((σ14.1 56) <<< (8 &&& 31)) ||| x3))) ∧ (¬ x2 ≤ 0 → w_X12_readAddress_230 post (rf_ui σ14 56 (((σ14.1 56) <<< (8 &&& 31)) ||| x3)) 4)))) ∧ (r14 = 46 → w_X12_readAddress_55 post (w_X12_readAddress_14 post n) σ14 x1 x2 x3 x4)) σ13 (σ13.1 4))) σ12 r12) σ11 (σ11.1 4))) σ10 r10) σ (σ.1 4)
section
variable {p : Program} {l : Launch} {e : Env} {s : State} {m : MethodId} {args : Array Value} {below : List Frame} {meth : Method} {c : Code} {P : hw_G} {o : Nat} {ad : Nat → Nat}
set_option maxRecDepth 100000 in
set_option maxHeartbeats 4000000 in
theorem t_X12_readAddress_14 {post : rf_S → Prop} (hC : rf_C P RX12 p s m meth c cX12_readAddress 6 none) : ∀ (n : Nat) (σ : rf_S) (x1 : Int32) (x2 : Int32) (x3 : Int32) (x4 : Int32) (H : Heap) (locs : List Loc) (ls : Array Slot), w_X12_readAddress_14 post n σ x1 x2 x3 x4 → rf_T P s (rf_A o ad) o ad σ H locs → lv_has ls 6 [(0, .ref o), (1, .int x1), (2, .int x2), (3, .int x3), (4, .int x4)] → W p l e rm_X12_readAddress s m args below meth c H locs 0 0 (MQ below (rf_Qv P o ad post) args s 0 0 (rf_A o ad)) (F0 m 14 ls []) := by
  obtain ⟨hx, hb, hml, hown, hK, -, -⟩ := id hC
  intro n
  induction n with
  | zero => intro σ x1 x2 x3 x4 H locs ls h; exact False.elim h
  | succ n ih =>
    intro σ x1 x2 x3 x4 H locs ls h hT hl
    refine lv_aload_n hx hb dX12_readAddress_14 rfl (lv_at hl 0 rfl) ?_
    refine lv_aload_n hx hb dX12_readAddress_15 rfl (lv_at hl 0 rfl) ?_
    refine rf_get hx hb hK hT hown 4 (by decide) kfX12_104 (v := .int (σ.1 4)) rfl dX12_readAddress_16 ?_
    refine rf_calli (rf_runV hx hb hml hown hK hT (c_X12_byteAt h) rfl rfl klX12_107 ki_X12_byteAt ks_X12_byteAt kn_X12 kc_X12_byteAt 1 ⟨rfl, by decide, by decide, by decide +kernel⟩ ⟨by decide, by decide⟩ rfl hl.1 rfl (Nat.le_of_ble_eq_true rfl) ⟨Nat.le_refl _, Nat.le_refl _⟩ dX12_readAddress_19) hT (fun r10 σ10 H locs h hT => ?_)
    refine rf_calli (rf_runS hx hb hml hown hK hT (c_X12_isSmall h) rfl rfl klX12_319 ki_X12_isSmall kn_X12 kc_X12_isSmall 1 ⟨by decide, by decide, by decide +kernel⟩ ⟨by decide, by decide⟩ rfl hl.1 rfl (Nat.le_of_ble_eq_true rfl) ⟨Nat.le_refl _, Nat.le_refl _⟩ dX12_readAddress_22) hT (fun r11 σ11 H locs h hT => ?_)
    refine lv_if_ne (tgt := 55) hx hb dX12_readAddress_25 (by decide) (fun hc => ?_) (fun hc => ?_)
    · have h := h.1 hc
      exact t_X12_readAddress_55 hC ih σ11 x1 x2 x3 x4 _ _ _ h hT (lv_sub hl [0, 1, 2, 3, 4] rfl)
    · have h := h.2 hc
      refine lv_aload_n hx hb dX12_readAddress_28 rfl (lv_at hl 0 rfl) ?_
      refine lv_aload_n hx hb dX12_readAddress_29 rfl (lv_at hl 0 rfl) ?_
      refine rf_get hx hb hK hT hown 4 (by decide) kfX12_104 (v := .int (σ11.1 4)) rfl dX12_readAddress_30 ?_
      refine rf_calli (rf_runV hx hb hml hown hK hT (c_X12_byteAt h) rfl rfl klX12_107 ki_X12_byteAt ks_X12_byteAt kn_X12 kc_X12_byteAt 1 ⟨rfl, by decide, by decide, by decide +kernel⟩ ⟨by decide, by decide⟩ rfl hl.1 rfl (Nat.le_of_ble_eq_true rfl) ⟨Nat.le_refl _, Nat.le_refl _⟩ dX12_readAddress_33) hT (fun r12 σ12 H locs h hT => ?_)
      refine rf_calli (rf_runS hx hb hml hown hK hT (c_X12_isDigit h) rfl rfl klX12_325 ki_X12_isDigit kn_X12 kc_X12_isDigit 1 ⟨by decide, by decide, by decide +kernel⟩ ⟨by decide, by decide⟩ rfl hl.1 rfl (Nat.le_of_ble_eq_true rfl) ⟨Nat.le_refl _, Nat.le_refl _⟩ dX12_readAddress_36) hT (fun r13 σ13 H locs h hT => ?_)
      refine lv_if_ne (tgt := 55) hx hb dX12_readAddress_39 (by decide) (fun hc => ?_) (fun hc => ?_)
      · have h := h.1 hc
        exact t_X12_readAddress_55 hC ih σ13 x1 x2 x3 x4 _ _ _ h hT (lv_sub hl [0, 1, 2, 3, 4] rfl)
      · have h := h.2 hc
        refine lv_aload_n hx hb dX12_readAddress_42 rfl (lv_at hl 0 rfl) ?_
        refine lv_aload_n hx hb dX12_readAddress_43 rfl (lv_at hl 0 rfl) ?_
        refine rf_get hx hb hK hT hown 4 (by decide) kfX12_104 (v := .int (σ13.1 4)) rfl dX12_readAddress_44 ?_
        refine rf_calli (rf_runV hx hb hml hown hK hT (c_X12_byteAt h) rfl rfl klX12_107 ki_X12_byteAt ks_X12_byteAt kn_X12 kc_X12_byteAt 1 ⟨rfl, by decide, by decide, by decide +kernel⟩ ⟨by decide, by decide⟩ rfl hl.1 rfl (Nat.le_of_ble_eq_true rfl) ⟨Nat.le_refl _, Nat.le_refl _⟩ dX12_readAddress_47) hT (fun r14 σ14 H locs h hT => ?_)
        refine lv_bipush (v := 46) hx hb dX12_readAddress_50 (by decide) ?_
        refine lv_icmp_ne (tgt := 196) hx hb dX12_readAddress_52 (by decide) (fun hc => ?_) (fun hc => ?_)
        · have h := h.1 hc
          refine lv_aload_n hx hb dX12_readAddress_196 rfl (lv_at hl 0 rfl) ?_
          refine lv_aload_n hx hb dX12_readAddress_197 rfl (lv_at hl 0 rfl) ?_
          refine rf_get hx hb hK hT hown 56 (by decide) kfX12_347 (v := .int (σ14.1 56)) rfl dX12_readAddress_198 ?_
          refine lv_bipush (v := 8) hx hb dX12_readAddress_201 (by decide) ?_
          refine lv_ishl hx hb dX12_readAddress_203 ?_
          refine lv_iload_n hx hb dX12_readAddress_204 rfl (lv_at hl 3 rfl) ?_
          refine lv_ior hx hb dX12_readAddress_205 ?_
          refine rf_puti hx hb hK hT hown 56 (by decide) kfX12_347 rfl rfl dX12_readAddress_206 (fun H locs hT => ?_)
          refine lv_aload_n hx hb dX12_readAddress_209 rfl (lv_at hl 0 rfl) ?_
          refine lv_iload hx hb dX12_readAddress_210 (lv_at hl 4 rfl) ?_
          refine lv_if_eq (tgt := 228) hx hb dX12_readAddress_212 (by decide) (fun hc => ?_) (fun hc => ?_)
          · have h := h.1 hc
            exact t_X12_readAddress_228 hC (rf_ui σ14 56 (((σ14.1 56) <<< (8 &&& 31)) ||| x3)) _ _ _ h hT (lv_sub hl [] rfl)
          · have h := h.2 hc
            refine lv_iload_n hx hb dX12_readAddress_215 rfl (lv_at hl 1 rfl) ?_
            refine lv_iconst (v := 4) hx hb dX12_readAddress_216 (by decide) ?_
            refine lv_icmp_ne (tgt := 228) hx hb dX12_readAddress_217 (by decide) (fun hc => ?_) (fun hc => ?_)
            · have h := h.1 hc
              exact t_X12_readAddress_228 hC (rf_ui σ14 56 (((σ14.1 56) <<< (8 &&& 31)) ||| x3)) _ _ _ h hT (lv_sub hl [] rfl)
            · have h := h.2 hc
              refine lv_iload_n hx hb dX12_readAddress_220 rfl (lv_at hl 2 rfl) ?_
              refine lv_if_le (tgt := 228) hx hb dX12_readAddress_221 (by decide) (fun hc => ?_) (fun hc => ?_)
              · have h := h.1 hc
                exact t_X12_readAddress_228 hC (rf_ui σ14 56 (((σ14.1 56) <<< (8 &&& 31)) ||| x3)) _ _ _ h hT (lv_sub hl [] rfl)
              · have h := h.2 hc
                refine lv_iconst (v := 4) hx hb dX12_readAddress_224 (by decide) ?_
                refine lv_goto (tgt := 230) hx hb dX12_readAddress_225 (by decide) ?_
                exact t_X12_readAddress_230 hC (rf_ui σ14 56 (((σ14.1 56) <<< (8 &&& 31)) ||| x3)) 4 _ _ _ h hT (lv_sub hl [] rfl)
        · have h := h.2 hc
          exact t_X12_readAddress_55 hC ih σ14 x1 x2 x3 x4 _ _ _ h hT (lv_sub hl [0, 1, 2, 3, 4] rfl)
end
def wp_X12_readAddress (post : rf_S → Prop) (σ : rf_S)  : Prop := ∃ n9, w_X12_readAddress_14 post n9 (rf_ui σ 56 0) 1 0 0 1
set_option maxRecDepth 100000 in
set_option maxHeartbeats 4000000 in
theorem c_X12_readAddress {l : Launch} {P : hw_G} {o : Nat} {ad : Nat → Nat} {σ : rf_S}  {post : rf_S → Prop} (h : wp_X12_readAddress post σ ) : Met l yX12_readAddress [Cond.code yX12_readAddress cX12_readAddress 6 none] rm_X12_readAddress (rf_Pc P o ad σ [.ref o]) (rf_Qv P o ad post) 0 0 (rf_A o ad) := by
  refine rf_met (by decide) rfl (Nat.le_of_ble_eq_true rfl) ?_
  intro p e s m below meth c ls hC hT hl
  obtain ⟨hx, hb, hml, hown, hK, -, -⟩ := id hC
  have hl : lv_has ls 6 [(0, .ref o)] := hl
  refine lv_iconst (v := 1) hx hb dX12_readAddress_0 (by decide) ?_
  refine lv_istore_n (lv' := [(1, _), (0, _)]) hx hb dX12_readAddress_1 rfl hl (by decide) rfl (fun ls hl => ?_)
  refine lv_iconst (v := 0) hx hb dX12_readAddress_2 (by decide) ?_
  refine lv_istore_n (lv' := [(2, _), (1, _), (0, _)]) hx hb dX12_readAddress_3 rfl hl (by decide) rfl (fun ls hl => ?_)
  refine lv_iconst (v := 0) hx hb dX12_readAddress_4 (by decide) ?_
  refine lv_istore_n (lv' := [(3, _), (2, _), (1, _), (0, _)]) hx hb dX12_readAddress_5 rfl hl (by decide) rfl (fun ls hl => ?_)
  refine lv_iconst (v := 1) hx hb dX12_readAddress_6 (by decide) ?_
  refine lv_istore (lv' := [(4, _), (3, _), (2, _), (1, _), (0, _)]) hx hb dX12_readAddress_7 hl (by decide) rfl (fun ls hl => ?_)
  refine lv_aload_n hx hb dX12_readAddress_9 rfl (lv_at hl 4 rfl) ?_
  refine lv_iconst (v := 0) hx hb dX12_readAddress_10 (by decide) ?_
  refine rf_puti hx hb hK hT hown 56 (by decide) kfX12_347 rfl rfl dX12_readAddress_11 (fun H locs hT => ?_)
  obtain ⟨n9, h⟩ := h
  exact t_X12_readAddress_14 hC n9 (rf_ui σ 56 0) 1 0 0 1 _ _ _ h hT (lv_sub hl [4, 3, 2, 1, 0] rfl)
