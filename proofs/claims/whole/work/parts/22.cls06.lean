/-! X8_scanAddress -/
abbrev rm_X8_scanAddress : Room := { frames := 1, cells := 0, slots := 0, locals := 24 }
def w_X8_scanAddress_212 (post : Int32 → cs_S → Prop) (G : Nat → Nat) (S : cs_S)  : Prop := post ((-1)) S
section
variable {p : Program} {l : Launch} {e : Env} {s : State} {m : MethodId} {args : Array Value} {below : List Frame} {meth : Method} {c : Code} {P : hw_G} {G : Nat → Nat} {A : Nat → Prop}
set_option maxRecDepth 100000 in
set_option maxHeartbeats 4000000 in
theorem t_X8_scanAddress_212 {post : Int32 → cs_S → Prop} (hC : rf_C P RX8 p s m meth c cX8_scanAddress 8 (some .int)) (hin : meth.name = yX8_scanAddress.name) (hO : cs_O G A s s.heap) (S : cs_S)  (H : Heap) (locs : List Loc) (ls : Array Slot) (h : w_X8_scanAddress_212 post G S ) (hT : cs_T P s A S H locs) (hl : lv_has ls 8 []) : W p l e rm_X8_scanAddress s m args below meth c H locs 0 0 (MQ below (cs_Qi P A post) args s 0 0 A) (F0 m 212 ls []) := by
  obtain ⟨hx, hb, hml, hown, hK, -, -⟩ := id hC
  refine lv_iconst (v := (-1)) hx hb dX8_scanAddress_212 (by decide) ?_
  exact cs_iret hC hT h dX8_scanAddress_213 (Nat.le_refl _) (Nat.le_refl _)
end
def w_X8_scanAddress_196 (post : Int32 → cs_S → Prop) (G : Nat → Nat) (S : cs_S) (x0 : Nat) (x1 : Int32) (x2 : Int32) (x3 : Int32) (x4 : Int32) (x5 : Int32) (x6 : Int32) (x7 : Int32) : Prop := (x7 = 0 → w_X8_scanAddress_212 post G S) ∧ (¬ x7 = 0 → (¬ x6 = 3 → w_X8_scanAddress_212 post G S) ∧ (x6 = 3 → (¬ x5 = 0 → cs_k S x0 = 10 ∧ wp_X8_put (fun S27 => post x2 S27) G S x0 5 x1 (((x3 <<< (8 &&& 31)) ||| (x4 &&& 255)).toInt64)) ∧ (x5 = 0 → w_X8_scanAddress_212 post G S)))
section
variable {p : Program} {l : Launch} {e : Env} {s : State} {m : MethodId} {args : Array Value} {below : List Frame} {meth : Method} {c : Code} {P : hw_G} {G : Nat → Nat} {A : Nat → Prop}
set_option maxRecDepth 100000 in
set_option maxHeartbeats 4000000 in
theorem t_X8_scanAddress_196 {post : Int32 → cs_S → Prop} (hC : rf_C P RX8 p s m meth c cX8_scanAddress 8 (some .int)) (hin : meth.name = yX8_scanAddress.name) (hO : cs_O G A s s.heap) (S : cs_S) (x0 : Nat) (x1 : Int32) (x2 : Int32) (x3 : Int32) (x4 : Int32) (x5 : Int32) (x6 : Int32) (x7 : Int32) (H : Heap) (locs : List Loc) (ls : Array Slot) (h : w_X8_scanAddress_196 post G S x0 x1 x2 x3 x4 x5 x6 x7) (hT : cs_T P s A S H locs) (hl : lv_has ls 8 [(0, .ref x0), (1, .int x1), (2, .int x2), (3, .int x3), (4, .int x4), (5, .int x5), (6, .int x6), (7, .int x7)]) : W p l e rm_X8_scanAddress s m args below meth c H locs 0 0 (MQ below (cs_Qi P A post) args s 0 0 A) (F0 m 196 ls []) := by
  obtain ⟨hx, hb, hml, hown, hK, -, -⟩ := id hC
  refine lv_iload hx hb dX8_scanAddress_196 (lv_at hl 7 rfl) ?_
  refine lv_if_eq (tgt := 212) hx hb dX8_scanAddress_198 (by decide) (fun hc => ?_) (fun hc => ?_)
  · replace h := h.1 hc
    exact t_X8_scanAddress_212 hC hin hO S _ _ _ h hT (lv_sub hl [] rfl)
  · replace h := h.2 hc
    refine lv_iload hx hb dX8_scanAddress_201 (lv_at hl 6 rfl) ?_
    refine lv_iconst (v := 3) hx hb dX8_scanAddress_203 (by decide) ?_
    refine lv_icmp_ne (tgt := 212) hx hb dX8_scanAddress_204 (by decide) (fun hc => ?_) (fun hc => ?_)
    · replace h := h.1 hc
      exact t_X8_scanAddress_212 hC hin hO S _ _ _ h hT (lv_sub hl [] rfl)
    · replace h := h.2 hc
      refine lv_iload hx hb dX8_scanAddress_207 (lv_at hl 5 rfl) ?_
      refine lv_if_ne (tgt := 214) hx hb dX8_scanAddress_209 (by decide) (fun hc => ?_) (fun hc => ?_)
      · replace h := h.1 hc
        refine lv_aload_n (x := x0) hx hb dX8_scanAddress_214 rfl (lv_at hl 0 rfl) ?_
        refine lv_iconst (v := 5) hx hb dX8_scanAddress_215 (by decide) ?_
        refine lv_iload_n hx hb dX8_scanAddress_216 rfl (lv_at hl 1 rfl) ?_
        refine lv_iload_n hx hb dX8_scanAddress_217 rfl (lv_at hl 3 rfl) ?_
        refine lv_bipush (v := 8) hx hb dX8_scanAddress_218 (by decide) ?_
        refine lv_ishl hx hb dX8_scanAddress_220 ?_
        refine lv_iload hx hb dX8_scanAddress_221 (lv_at hl 4 rfl) ?_
        refine lv_sipush (v := 255) hx hb dX8_scanAddress_223 (by decide) ?_
        refine lv_iand hx hb dX8_scanAddress_226 ?_
        refine lv_ior hx hb dX8_scanAddress_227 ?_
        refine lv_i2l (v := ((x3 <<< (8 &&& 31)) ||| (x4 &&& 255)).toInt64) hx hb dX8_scanAddress_228 rfl ?_
        obtain ⟨hk28_, h⟩ := h
        refine cs_callv0 (cs_runV hx hb hml hown hK hO hT 9 hk28_ (by decide) rfl (c_X8_put h) rfl rfl klX8_64 ki_X8_put ks_X8_put kn_X8 kc_X8_put 3 ⟨rfl, by decide, by decide, by decide +kernel⟩ ⟨by decide, by decide⟩ rfl hl.1 rfl (hw_cat8 (Nat.le_of_ble_eq_true rfl)) ⟨(Nat.le_refl _), (Nat.le_refl _)⟩ dX8_scanAddress_229) hT (fun S27 H locs h_ hT_ => ?_)
        replace h := h_
        replace hT := hT_
        refine lv_iload_n hx hb dX8_scanAddress_232 rfl (lv_at hl 2 rfl) ?_
        exact cs_iret hC hT h dX8_scanAddress_233 (Nat.le_refl _) (Nat.le_refl _)
      · replace h := h.2 hc
        exact t_X8_scanAddress_212 hC hin hO S _ _ _ h hT (lv_sub hl [] rfl)
end
def w_X8_scanAddress_190 (post : Int32 → cs_S → Prop) (G : Nat → Nat) (k16 : cs_S → Nat → Int32 → Int32 → Int32 → Int32 → Int32 → Int32 → Int32 → Prop) (S : cs_S) (x0 : Nat) (x1 : Int32) (x2 : Int32) (x3 : Int32) (x4 : Int32) (x5 : Int32) (x6 : Int32) (x7 : Int32) : Prop := k16 S x0 x1 (x2 + 1) x3 x4 x5 x6 x7
section
variable {p : Program} {l : Launch} {e : Env} {s : State} {m : MethodId} {args : Array Value} {below : List Frame} {meth : Method} {c : Code} {P : hw_G} {G : Nat → Nat} {A : Nat → Prop}
set_option maxRecDepth 100000 in
set_option maxHeartbeats 4000000 in
theorem t_X8_scanAddress_190 {post : Int32 → cs_S → Prop} {k16 : cs_S → Nat → Int32 → Int32 → Int32 → Int32 → Int32 → Int32 → Int32 → Prop} (hC : rf_C P RX8 p s m meth c cX8_scanAddress 8 (some .int)) (hin : meth.name = yX8_scanAddress.name) (hO : cs_O G A s s.heap) (hk16 : ∀ (S : cs_S) (x0 : Nat) (x1 : Int32) (x2 : Int32) (x3 : Int32) (x4 : Int32) (x5 : Int32) (x6 : Int32) (x7 : Int32) (H : Heap) (locs : List Loc) (ls : Array Slot), k16 S x0 x1 x2 x3 x4 x5 x6 x7 → cs_T P s A S H locs → lv_has ls 8 [(0, .ref x0), (1, .int x1), (2, .int x2), (3, .int x3), (4, .int x4), (5, .int x5), (6, .int x6), (7, .int x7)] → W p l e rm_X8_scanAddress s m args below meth c H locs 0 0 (MQ below (cs_Qi P A post) args s 0 0 A) (F0 m 16 ls [])) (S : cs_S) (x0 : Nat) (x1 : Int32) (x2 : Int32) (x3 : Int32) (x4 : Int32) (x5 : Int32) (x6 : Int32) (x7 : Int32) (H : Heap) (locs : List Loc) (ls : Array Slot) (h : w_X8_scanAddress_190 post G k16 S x0 x1 x2 x3 x4 x5 x6 x7) (hT : cs_T P s A S H locs) (hl : lv_has ls 8 [(0, .ref x0), (1, .int x1), (2, .int x2), (3, .int x3), (4, .int x4), (5, .int x5), (6, .int x6), (7, .int x7)]) : W p l e rm_X8_scanAddress s m args below meth c H locs 0 0 (MQ below (cs_Qi P A post) args s 0 0 A) (F0 m 190 ls []) := by
  obtain ⟨hx, hb, hml, hown, hK, -, -⟩ := id hC
  refine lv_iinc (v := x2 + 1) (lv' := [(2, _), (0, _), (1, _), (3, _), (4, _), (5, _), (6, _), (7, _)]) hx hb dX8_scanAddress_190 hl (k := 2) rfl rfl (by decide) rfl (fun ls hl_ => ?_)
  replace hl := hl_
  refine lv_goto (tgt := 16) hx hb dX8_scanAddress_193 (by decide) ?_
  exact hk16 S x0 x1 (x2 + 1) x3 x4 x5 x6 x7 _ _ _ h hT (lv_sub hl [1, 2, 0, 3, 4, 5, 6, 7] rfl)
end
def w_X8_scanAddress_188 (post : Int32 → cs_S → Prop) (G : Nat → Nat) (k16 : cs_S → Nat → Int32 → Int32 → Int32 → Int32 → Int32 → Int32 → Int32 → Prop) (S : cs_S) (x0 : Nat) (x1 : Int32) (x2 : Int32) (x3 : Int32) (x4 : Int32) (x5 : Int32) (x6 : Int32) (y0 : Int32) : Prop := w_X8_scanAddress_190 post G k16 S x0 x1 x2 x3 x4 x5 x6 y0
section
variable {p : Program} {l : Launch} {e : Env} {s : State} {m : MethodId} {args : Array Value} {below : List Frame} {meth : Method} {c : Code} {P : hw_G} {G : Nat → Nat} {A : Nat → Prop}
set_option maxRecDepth 100000 in
set_option maxHeartbeats 4000000 in
theorem t_X8_scanAddress_188 {post : Int32 → cs_S → Prop} {k16 : cs_S → Nat → Int32 → Int32 → Int32 → Int32 → Int32 → Int32 → Int32 → Prop} (hC : rf_C P RX8 p s m meth c cX8_scanAddress 8 (some .int)) (hin : meth.name = yX8_scanAddress.name) (hO : cs_O G A s s.heap) (hk16 : ∀ (S : cs_S) (x0 : Nat) (x1 : Int32) (x2 : Int32) (x3 : Int32) (x4 : Int32) (x5 : Int32) (x6 : Int32) (x7 : Int32) (H : Heap) (locs : List Loc) (ls : Array Slot), k16 S x0 x1 x2 x3 x4 x5 x6 x7 → cs_T P s A S H locs → lv_has ls 8 [(0, .ref x0), (1, .int x1), (2, .int x2), (3, .int x3), (4, .int x4), (5, .int x5), (6, .int x6), (7, .int x7)] → W p l e rm_X8_scanAddress s m args below meth c H locs 0 0 (MQ below (cs_Qi P A post) args s 0 0 A) (F0 m 16 ls [])) (S : cs_S) (x0 : Nat) (x1 : Int32) (x2 : Int32) (x3 : Int32) (x4 : Int32) (x5 : Int32) (x6 : Int32) (y0 : Int32) (H : Heap) (locs : List Loc) (ls : Array Slot) (h : w_X8_scanAddress_188 post G k16 S x0 x1 x2 x3 x4 x5 x6 y0) (hT : cs_T P s A S H locs) (hl : lv_has ls 8 [(0, .ref x0), (1, .int x1), (2, .int x2), (3, .int x3), (4, .int x4), (5, .int x5), (6, .int x6)]) : W p l e rm_X8_scanAddress s m args below meth c H locs 0 0 (MQ below (cs_Qi P A post) args s 0 0 A) (F0 m 188 ls [.int y0]) := by
  obtain ⟨hx, hb, hml, hown, hK, -, -⟩ := id hC
  refine lv_istore (lv' := [(7, _), (0, _), (1, _), (2, _), (3, _), (4, _), (5, _), (6, _)]) hx hb dX8_scanAddress_188 hl (by decide) rfl (fun ls hl_ => ?_)
  replace hl := hl_
  exact t_X8_scanAddress_190 hC hin hO hk16 S x0 x1 x2 x3 x4 x5 x6 y0 _ _ _ h hT (lv_sub hl [1, 2, 3, 4, 5, 6, 7, 0] rfl)
end
def w_X8_scanAddress_187 (post : Int32 → cs_S → Prop) (G : Nat → Nat) (k16 : cs_S → Nat → Int32 → Int32 → Int32 → Int32 → Int32 → Int32 → Int32 → Prop) (S : cs_S) (x0 : Nat) (x1 : Int32) (x2 : Int32) (x3 : Int32) (x4 : Int32) (x5 : Int32) (x6 : Int32) : Prop := w_X8_scanAddress_188 post G k16 S x0 x1 x2 x3 x4 x5 x6 0
section
variable {p : Program} {l : Launch} {e : Env} {s : State} {m : MethodId} {args : Array Value} {below : List Frame} {meth : Method} {c : Code} {P : hw_G} {G : Nat → Nat} {A : Nat → Prop}
set_option maxRecDepth 100000 in
set_option maxHeartbeats 4000000 in
theorem t_X8_scanAddress_187 {post : Int32 → cs_S → Prop} {k16 : cs_S → Nat → Int32 → Int32 → Int32 → Int32 → Int32 → Int32 → Int32 → Prop} (hC : rf_C P RX8 p s m meth c cX8_scanAddress 8 (some .int)) (hin : meth.name = yX8_scanAddress.name) (hO : cs_O G A s s.heap) (hk16 : ∀ (S : cs_S) (x0 : Nat) (x1 : Int32) (x2 : Int32) (x3 : Int32) (x4 : Int32) (x5 : Int32) (x6 : Int32) (x7 : Int32) (H : Heap) (locs : List Loc) (ls : Array Slot), k16 S x0 x1 x2 x3 x4 x5 x6 x7 → cs_T P s A S H locs → lv_has ls 8 [(0, .ref x0), (1, .int x1), (2, .int x2), (3, .int x3), (4, .int x4), (5, .int x5), (6, .int x6), (7, .int x7)] → W p l e rm_X8_scanAddress s m args below meth c H locs 0 0 (MQ below (cs_Qi P A post) args s 0 0 A) (F0 m 16 ls [])) (S : cs_S) (x0 : Nat) (x1 : Int32) (x2 : Int32) (x3 : Int32) (x4 : Int32) (x5 : Int32) (x6 : Int32) (H : Heap) (locs : List Loc) (ls : Array Slot) (h : w_X8_scanAddress_187 post G k16 S x0 x1 x2 x3 x4 x5 x6) (hT : cs_T P s A S H locs) (hl : lv_has ls 8 [(0, .ref x0), (1, .int x1), (2, .int x2), (3, .int x3), (4, .int x4), (5, .int x5), (6, .int x6)]) : W p l e rm_X8_scanAddress s m args below meth c H locs 0 0 (MQ below (cs_Qi P A post) args s 0 0 A) (F0 m 187 ls []) := by
  obtain ⟨hx, hb, hml, hown, hK, -, -⟩ := id hC
  refine lv_iconst (v := 0) hx hb dX8_scanAddress_187 (by decide) ?_
  exact t_X8_scanAddress_188 hC hin hO hk16 S x0 x1 x2 x3 x4 x5 x6 0 _ _ _ h hT (lv_sub hl [0, 1, 2, 3, 4, 5, 6] rfl)
end
def w_X8_scanAddress_168 (post : Int32 → cs_S → Prop) (G : Nat → Nat) (k16 : cs_S → Nat → Int32 → Int32 → Int32 → Int32 → Int32 → Int32 → Int32 → Prop) (S : cs_S) (x0 : Nat) (x1 : Int32) (x2 : Int32) (x3 : Int32) (x5 : Int32) (x6 : Int32) (x7 : Int32) (y0 : Int32) : Prop := (x7 = 0 → w_X8_scanAddress_187 post G k16 S x0 x1 x2 x3 y0 x5 x6) ∧ (¬ x7 = 0 → (255 < y0 → w_X8_scanAddress_187 post G k16 S x0 x1 x2 x3 y0 x5 x6) ∧ (¬ 255 < y0 → w_X8_scanAddress_188 post G k16 S x0 x1 x2 x3 y0 x5 x6 1))
section
variable {p : Program} {l : Launch} {e : Env} {s : State} {m : MethodId} {args : Array Value} {below : List Frame} {meth : Method} {c : Code} {P : hw_G} {G : Nat → Nat} {A : Nat → Prop}
set_option maxRecDepth 100000 in
set_option maxHeartbeats 4000000 in
theorem t_X8_scanAddress_168 {post : Int32 → cs_S → Prop} {k16 : cs_S → Nat → Int32 → Int32 → Int32 → Int32 → Int32 → Int32 → Int32 → Prop} (hC : rf_C P RX8 p s m meth c cX8_scanAddress 8 (some .int)) (hin : meth.name = yX8_scanAddress.name) (hO : cs_O G A s s.heap) (hk16 : ∀ (S : cs_S) (x0 : Nat) (x1 : Int32) (x2 : Int32) (x3 : Int32) (x4 : Int32) (x5 : Int32) (x6 : Int32) (x7 : Int32) (H : Heap) (locs : List Loc) (ls : Array Slot), k16 S x0 x1 x2 x3 x4 x5 x6 x7 → cs_T P s A S H locs → lv_has ls 8 [(0, .ref x0), (1, .int x1), (2, .int x2), (3, .int x3), (4, .int x4), (5, .int x5), (6, .int x6), (7, .int x7)] → W p l e rm_X8_scanAddress s m args below meth c H locs 0 0 (MQ below (cs_Qi P A post) args s 0 0 A) (F0 m 16 ls [])) (S : cs_S) (x0 : Nat) (x1 : Int32) (x2 : Int32) (x3 : Int32) (x5 : Int32) (x6 : Int32) (x7 : Int32) (y0 : Int32) (H : Heap) (locs : List Loc) (ls : Array Slot) (h : w_X8_scanAddress_168 post G k16 S x0 x1 x2 x3 x5 x6 x7 y0) (hT : cs_T P s A S H locs) (hl : lv_has ls 8 [(0, .ref x0), (1, .int x1), (2, .int x2), (3, .int x3), (5, .int x5), (6, .int x6), (7, .int x7)]) : W p l e rm_X8_scanAddress s m args below meth c H locs 0 0 (MQ below (cs_Qi P A post) args s 0 0 A) (F0 m 168 ls [.int y0]) := by
  obtain ⟨hx, hb, hml, hown, hK, -, -⟩ := id hC
  refine lv_istore (lv' := [(4, _), (0, _), (1, _), (2, _), (3, _), (5, _), (6, _), (7, _)]) hx hb dX8_scanAddress_168 hl (by decide) rfl (fun ls hl_ => ?_)
  replace hl := hl_
  refine lv_iload hx hb dX8_scanAddress_170 (lv_at hl 7 rfl) ?_
  refine lv_if_eq (tgt := 187) hx hb dX8_scanAddress_172 (by decide) (fun hc => ?_) (fun hc => ?_)
  · replace h := h.1 hc
    exact t_X8_scanAddress_187 hC hin hO hk16 S x0 x1 x2 x3 y0 x5 x6 _ _ _ h hT (lv_sub hl [1, 2, 3, 4, 0, 5, 6] rfl)
  · replace h := h.2 hc
    refine lv_iload hx hb dX8_scanAddress_175 (lv_at hl 0 rfl) ?_
    refine lv_sipush (v := 255) hx hb dX8_scanAddress_177 (by decide) ?_
    refine lv_icmp_gt (tgt := 187) hx hb dX8_scanAddress_180 (by decide) (fun hc => ?_) (fun hc => ?_)
    · replace h := h.1 hc
      exact t_X8_scanAddress_187 hC hin hO hk16 S x0 x1 x2 x3 y0 x5 x6 _ _ _ h hT (lv_sub hl [1, 2, 3, 4, 0, 5, 6] rfl)
    · replace h := h.2 hc
      refine lv_iconst (v := 1) hx hb dX8_scanAddress_183 (by decide) ?_
      refine lv_goto (tgt := 188) hx hb dX8_scanAddress_184 (by decide) ?_
      exact t_X8_scanAddress_188 hC hin hO hk16 S x0 x1 x2 x3 y0 x5 x6 1 _ _ _ h hT (lv_sub hl [1, 2, 3, 4, 0, 5, 6] rfl)
end
def w_X8_scanAddress_142 (post : Int32 → cs_S → Prop) (G : Nat → Nat) (k16 : cs_S → Nat → Int32 → Int32 → Int32 → Int32 → Int32 → Int32 → Int32 → Prop) (S : cs_S) (x0 : Nat) (x1 : Int32) (x2 : Int32) (x3 : Int32) (x4 : Int32) (x5 : Int32) (x6 : Int32) (y0 : Int32) : Prop := (y0 = 0 → w_X8_scanAddress_168 post G k16 S x0 x1 x2 x3 x5 x6 y0 0) ∧ (¬ y0 = 0 → cs_k S x0 = 10 ∧ ∀ r30, r30 = cs_r S 904 x0 → ∃ b31, r30 = some b31 ∧ cs_k S b31 = 20 ∧ vp_in x2 (cs_n S b31) ∧ w_X8_scanAddress_168 post G k16 S x0 x1 x2 x3 x5 x6 y0 (((10 * x4) + (cs_ai S b31 x2.toNatClampNeg)) - 48))
section
variable {p : Program} {l : Launch} {e : Env} {s : State} {m : MethodId} {args : Array Value} {below : List Frame} {meth : Method} {c : Code} {P : hw_G} {G : Nat → Nat} {A : Nat → Prop}
set_option maxRecDepth 100000 in
set_option maxHeartbeats 4000000 in
theorem t_X8_scanAddress_142 {post : Int32 → cs_S → Prop} {k16 : cs_S → Nat → Int32 → Int32 → Int32 → Int32 → Int32 → Int32 → Int32 → Prop} (hC : rf_C P RX8 p s m meth c cX8_scanAddress 8 (some .int)) (hin : meth.name = yX8_scanAddress.name) (hO : cs_O G A s s.heap) (hk16 : ∀ (S : cs_S) (x0 : Nat) (x1 : Int32) (x2 : Int32) (x3 : Int32) (x4 : Int32) (x5 : Int32) (x6 : Int32) (x7 : Int32) (H : Heap) (locs : List Loc) (ls : Array Slot), k16 S x0 x1 x2 x3 x4 x5 x6 x7 → cs_T P s A S H locs → lv_has ls 8 [(0, .ref x0), (1, .int x1), (2, .int x2), (3, .int x3), (4, .int x4), (5, .int x5), (6, .int x6), (7, .int x7)] → W p l e rm_X8_scanAddress s m args below meth c H locs 0 0 (MQ below (cs_Qi P A post) args s 0 0 A) (F0 m 16 ls [])) (S : cs_S) (x0 : Nat) (x1 : Int32) (x2 : Int32) (x3 : Int32) (x4 : Int32) (x5 : Int32) (x6 : Int32) (y0 : Int32) (H : Heap) (locs : List Loc) (ls : Array Slot) (h : w_X8_scanAddress_142 post G k16 S x0 x1 x2 x3 x4 x5 x6 y0) (hT : cs_T P s A S H locs) (hl : lv_has ls 8 [(0, .ref x0), (1, .int x1), (2, .int x2), (3, .int x3), (4, .int x4), (5, .int x5), (6, .int x6)]) : W p l e rm_X8_scanAddress s m args below meth c H locs 0 0 (MQ below (cs_Qi P A post) args s 0 0 A) (F0 m 142 ls [.int y0]) := by
  obtain ⟨hx, hb, hml, hown, hK, -, -⟩ := id hC
  refine lv_istore (lv' := [(7, _), (0, _), (1, _), (2, _), (3, _), (4, _), (5, _), (6, _)]) hx hb dX8_scanAddress_142 hl (by decide) rfl (fun ls hl_ => ?_)
  replace hl := hl_
  refine lv_iload hx hb dX8_scanAddress_144 (lv_at hl 0 rfl) ?_
  refine lv_if_eq (tgt := 167) hx hb dX8_scanAddress_146 (by decide) (fun hc => ?_) (fun hc => ?_)
  · replace h := h.1 hc
    refine lv_iconst (v := 0) hx hb dX8_scanAddress_167 (by decide) ?_
    exact t_X8_scanAddress_168 hC hin hO hk16 S x0 x1 x2 x3 x5 x6 y0 0 _ _ _ h hT (lv_sub hl [1, 2, 3, 4, 6, 7, 0] rfl)
  · replace h := h.2 hc
    refine lv_bipush (v := 10) hx hb dX8_scanAddress_149 (by decide) ?_
    refine lv_iload hx hb dX8_scanAddress_151 (lv_at hl 5 rfl) ?_
    refine lv_imul hx hb dX8_scanAddress_153 ?_
    refine lv_aload_n (x := x0) hx hb dX8_scanAddress_154 rfl (lv_at hl 1 rfl) ?_
    obtain ⟨hk29_, h⟩ := h
    refine cs_get hx hb hK hT hown 9 hk29_ (by decide) rfl 4 (by decide) kfX8_28 (v := va_rf (cs_r S 904 x0)) rfl dX8_scanAddress_155 ?_
    refine hw_topr (fun r30 er30 => ?_)
    replace h := h r30 er30
    refine lv_iload_n hx hb dX8_scanAddress_158 rfl (lv_at hl 3 rfl) ?_
    obtain ⟨b31, rfl, h⟩ := h
    obtain ⟨hk32_, h⟩ := h
    obtain ⟨hi, h⟩ := h
    refine cs_iald hx hb hK hT hk32_ hi dX8_scanAddress_159 ?_
    refine lv_iadd hx hb dX8_scanAddress_160 ?_
    refine lv_bipush (v := 48) hx hb dX8_scanAddress_161 (by decide) ?_
    refine lv_isub hx hb dX8_scanAddress_163 ?_
    refine lv_goto (tgt := 168) hx hb dX8_scanAddress_164 (by decide) ?_
    exact t_X8_scanAddress_168 hC hin hO hk16 S x0 x1 x2 x3 x5 x6 y0 (((10 * x4) + (cs_ai S b31 x2.toNatClampNeg)) - 48) _ _ _ h hT (lv_sub hl [1, 2, 3, 4, 6, 7, 0] rfl)
end
def w_X8_scanAddress_141 (post : Int32 → cs_S → Prop) (G : Nat → Nat) (k16 : cs_S → Nat → Int32 → Int32 → Int32 → Int32 → Int32 → Int32 → Int32 → Prop) (S : cs_S) (x0 : Nat) (x1 : Int32) (x2 : Int32) (x3 : Int32) (x4 : Int32) (x5 : Int32) (x6 : Int32) : Prop := w_X8_scanAddress_142 post G k16 S x0 x1 x2 x3 x4 x5 x6 0
section
variable {p : Program} {l : Launch} {e : Env} {s : State} {m : MethodId} {args : Array Value} {below : List Frame} {meth : Method} {c : Code} {P : hw_G} {G : Nat → Nat} {A : Nat → Prop}
set_option maxRecDepth 100000 in
set_option maxHeartbeats 4000000 in
theorem t_X8_scanAddress_141 {post : Int32 → cs_S → Prop} {k16 : cs_S → Nat → Int32 → Int32 → Int32 → Int32 → Int32 → Int32 → Int32 → Prop} (hC : rf_C P RX8 p s m meth c cX8_scanAddress 8 (some .int)) (hin : meth.name = yX8_scanAddress.name) (hO : cs_O G A s s.heap) (hk16 : ∀ (S : cs_S) (x0 : Nat) (x1 : Int32) (x2 : Int32) (x3 : Int32) (x4 : Int32) (x5 : Int32) (x6 : Int32) (x7 : Int32) (H : Heap) (locs : List Loc) (ls : Array Slot), k16 S x0 x1 x2 x3 x4 x5 x6 x7 → cs_T P s A S H locs → lv_has ls 8 [(0, .ref x0), (1, .int x1), (2, .int x2), (3, .int x3), (4, .int x4), (5, .int x5), (6, .int x6), (7, .int x7)] → W p l e rm_X8_scanAddress s m args below meth c H locs 0 0 (MQ below (cs_Qi P A post) args s 0 0 A) (F0 m 16 ls [])) (S : cs_S) (x0 : Nat) (x1 : Int32) (x2 : Int32) (x3 : Int32) (x4 : Int32) (x5 : Int32) (x6 : Int32) (H : Heap) (locs : List Loc) (ls : Array Slot) (h : w_X8_scanAddress_141 post G k16 S x0 x1 x2 x3 x4 x5 x6) (hT : cs_T P s A S H locs) (hl : lv_has ls 8 [(0, .ref x0), (1, .int x1), (2, .int x2), (3, .int x3), (4, .int x4), (5, .int x5), (6, .int x6)]) : W p l e rm_X8_scanAddress s m args below meth c H locs 0 0 (MQ below (cs_Qi P A post) args s 0 0 A) (F0 m 141 ls []) := by
  obtain ⟨hx, hb, hml, hown, hK, -, -⟩ := id hC
  refine lv_iconst (v := 0) hx hb dX8_scanAddress_141 (by decide) ?_
  exact t_X8_scanAddress_142 hC hin hO hk16 S x0 x1 x2 x3 x4 x5 x6 0 _ _ _ h hT (lv_sub hl [0, 1, 2, 3, 4, 5, 6] rfl)
end
def w_X8_scanAddress_85 (post : Int32 → cs_S → Prop) (G : Nat → Nat) (k16 : cs_S → Nat → Int32 → Int32 → Int32 → Int32 → Int32 → Int32 → Int32 → Prop) (S : cs_S) (x0 : Nat) (x1 : Int32) (x2 : Int32) (x3 : Int32) (x4 : Int32) (x6 : Int32) (y0 : Int32) : Prop := w_X8_scanAddress_190 post G k16 S x0 x1 x2 ((x3 <<< (8 &&& 31)) ||| (x4 &&& 255)) 0 0 (x6 + 1) y0
section
variable {p : Program} {l : Launch} {e : Env} {s : State} {m : MethodId} {args : Array Value} {below : List Frame} {meth : Method} {c : Code} {P : hw_G} {G : Nat → Nat} {A : Nat → Prop}
set_option maxRecDepth 100000 in
set_option maxHeartbeats 4000000 in
theorem t_X8_scanAddress_85 {post : Int32 → cs_S → Prop} {k16 : cs_S → Nat → Int32 → Int32 → Int32 → Int32 → Int32 → Int32 → Int32 → Prop} (hC : rf_C P RX8 p s m meth c cX8_scanAddress 8 (some .int)) (hin : meth.name = yX8_scanAddress.name) (hO : cs_O G A s s.heap) (hk16 : ∀ (S : cs_S) (x0 : Nat) (x1 : Int32) (x2 : Int32) (x3 : Int32) (x4 : Int32) (x5 : Int32) (x6 : Int32) (x7 : Int32) (H : Heap) (locs : List Loc) (ls : Array Slot), k16 S x0 x1 x2 x3 x4 x5 x6 x7 → cs_T P s A S H locs → lv_has ls 8 [(0, .ref x0), (1, .int x1), (2, .int x2), (3, .int x3), (4, .int x4), (5, .int x5), (6, .int x6), (7, .int x7)] → W p l e rm_X8_scanAddress s m args below meth c H locs 0 0 (MQ below (cs_Qi P A post) args s 0 0 A) (F0 m 16 ls [])) (S : cs_S) (x0 : Nat) (x1 : Int32) (x2 : Int32) (x3 : Int32) (x4 : Int32) (x6 : Int32) (y0 : Int32) (H : Heap) (locs : List Loc) (ls : Array Slot) (h : w_X8_scanAddress_85 post G k16 S x0 x1 x2 x3 x4 x6 y0) (hT : cs_T P s A S H locs) (hl : lv_has ls 8 [(0, .ref x0), (1, .int x1), (2, .int x2), (3, .int x3), (4, .int x4), (6, .int x6)]) : W p l e rm_X8_scanAddress s m args below meth c H locs 0 0 (MQ below (cs_Qi P A post) args s 0 0 A) (F0 m 85 ls [.int y0]) := by
  obtain ⟨hx, hb, hml, hown, hK, -, -⟩ := id hC
  refine lv_istore (lv' := [(7, _), (0, _), (1, _), (2, _), (3, _), (4, _), (6, _)]) hx hb dX8_scanAddress_85 hl (by decide) rfl (fun ls hl_ => ?_)
  replace hl := hl_
  refine lv_iload_n hx hb dX8_scanAddress_87 rfl (lv_at hl 4 rfl) ?_
  refine lv_bipush (v := 8) hx hb dX8_scanAddress_88 (by decide) ?_
  refine lv_ishl hx hb dX8_scanAddress_90 ?_
  refine lv_iload hx hb dX8_scanAddress_91 (lv_at hl 5 rfl) ?_
  refine lv_sipush (v := 255) hx hb dX8_scanAddress_93 (by decide) ?_
  refine lv_iand hx hb dX8_scanAddress_96 ?_
  refine lv_ior hx hb dX8_scanAddress_97 ?_
  refine lv_istore_n (lv' := [(3, _), (7, _), (0, _), (1, _), (2, _), (4, _), (6, _)]) hx hb dX8_scanAddress_98 rfl hl (by decide) rfl (fun ls hl_ => ?_)
  replace hl := hl_
  refine lv_iinc (v := x6 + 1) (lv' := [(6, _), (3, _), (7, _), (0, _), (1, _), (2, _), (4, _)]) hx hb dX8_scanAddress_99 hl (k := 6) rfl rfl (by decide) rfl (fun ls hl_ => ?_)
  replace hl := hl_
  refine lv_iconst (v := 0) hx hb dX8_scanAddress_102 (by decide) ?_
  refine lv_istore (lv' := [(4, _), (6, _), (3, _), (7, _), (0, _), (1, _), (2, _)]) hx hb dX8_scanAddress_103 hl (by decide) rfl (fun ls hl_ => ?_)
  replace hl := hl_
  refine lv_iconst (v := 0) hx hb dX8_scanAddress_105 (by decide) ?_
  refine lv_istore (lv' := [(5, _), (4, _), (6, _), (3, _), (7, _), (0, _), (1, _), (2, _)]) hx hb dX8_scanAddress_106 hl (by decide) rfl (fun ls hl_ => ?_)
  replace hl := hl_
  refine lv_goto (tgt := 190) hx hb dX8_scanAddress_108 (by decide) ?_
  exact t_X8_scanAddress_190 hC hin hO hk16 S x0 x1 x2 ((x3 <<< (8 &&& 31)) ||| (x4 &&& 255)) 0 0 (x6 + 1) y0 _ _ _ h hT (lv_sub hl [5, 6, 7, 3, 1, 0, 2, 4] rfl)
end
def w_X8_scanAddress_84 (post : Int32 → cs_S → Prop) (G : Nat → Nat) (k16 : cs_S → Nat → Int32 → Int32 → Int32 → Int32 → Int32 → Int32 → Int32 → Prop) (S : cs_S) (x0 : Nat) (x1 : Int32) (x2 : Int32) (x3 : Int32) (x4 : Int32) (x6 : Int32) : Prop := w_X8_scanAddress_85 post G k16 S x0 x1 x2 x3 x4 x6 0
section
variable {p : Program} {l : Launch} {e : Env} {s : State} {m : MethodId} {args : Array Value} {below : List Frame} {meth : Method} {c : Code} {P : hw_G} {G : Nat → Nat} {A : Nat → Prop}
set_option maxRecDepth 100000 in
set_option maxHeartbeats 4000000 in
theorem t_X8_scanAddress_84 {post : Int32 → cs_S → Prop} {k16 : cs_S → Nat → Int32 → Int32 → Int32 → Int32 → Int32 → Int32 → Int32 → Prop} (hC : rf_C P RX8 p s m meth c cX8_scanAddress 8 (some .int)) (hin : meth.name = yX8_scanAddress.name) (hO : cs_O G A s s.heap) (hk16 : ∀ (S : cs_S) (x0 : Nat) (x1 : Int32) (x2 : Int32) (x3 : Int32) (x4 : Int32) (x5 : Int32) (x6 : Int32) (x7 : Int32) (H : Heap) (locs : List Loc) (ls : Array Slot), k16 S x0 x1 x2 x3 x4 x5 x6 x7 → cs_T P s A S H locs → lv_has ls 8 [(0, .ref x0), (1, .int x1), (2, .int x2), (3, .int x3), (4, .int x4), (5, .int x5), (6, .int x6), (7, .int x7)] → W p l e rm_X8_scanAddress s m args below meth c H locs 0 0 (MQ below (cs_Qi P A post) args s 0 0 A) (F0 m 16 ls [])) (S : cs_S) (x0 : Nat) (x1 : Int32) (x2 : Int32) (x3 : Int32) (x4 : Int32) (x6 : Int32) (H : Heap) (locs : List Loc) (ls : Array Slot) (h : w_X8_scanAddress_84 post G k16 S x0 x1 x2 x3 x4 x6) (hT : cs_T P s A S H locs) (hl : lv_has ls 8 [(0, .ref x0), (1, .int x1), (2, .int x2), (3, .int x3), (4, .int x4), (6, .int x6)]) : W p l e rm_X8_scanAddress s m args below meth c H locs 0 0 (MQ below (cs_Qi P A post) args s 0 0 A) (F0 m 84 ls []) := by
  obtain ⟨hx, hb, hml, hown, hK, -, -⟩ := id hC
  refine lv_iconst (v := 0) hx hb dX8_scanAddress_84 (by decide) ?_
  exact t_X8_scanAddress_85 hC hin hO hk16 S x0 x1 x2 x3 x4 x6 0 _ _ _ h hT (lv_sub hl [0, 1, 2, 3, 4, 5] rfl)
end
def w_X8_scanAddress_59 (post : Int32 → cs_S → Prop) (G : Nat → Nat) (k16 : cs_S → Nat → Int32 → Int32 → Int32 → Int32 → Int32 → Int32 → Int32 → Prop) (S : cs_S) (x0 : Nat) (x1 : Int32) (x2 : Int32) (x3 : Int32) (x4 : Int32) (x5 : Int32) (x6 : Int32) (x7 : Int32) : Prop := cs_k S x0 = 10 ∧ ∀ r34, r34 = cs_r S 904 x0 → ∃ b35, r34 = some b35 ∧ cs_k S b35 = 20 ∧ vp_in x2 (cs_n S b35) ∧ (¬ (cs_ai S b35 x2.toNatClampNeg) = 46 → (x7 = 0 → w_X8_scanAddress_141 post G k16 S x0 x1 x2 x3 x4 (x5 + 1) x6) ∧ (¬ x7 = 0 → ∀ r37, r37 = cs_r S 904 x0 → ∃ b38, r37 = some b38 ∧ cs_k S b38 = 20 ∧ vp_in x2 (cs_n S b38) ∧ wp_X11_isDigit (fun r40 S40 => (r40 = 0 → w_X8_scanAddress_141 post G k16 S40 x0 x1 x2 x3 x4 (x5 + 1) x6) ∧ (¬ r40 = 0 → (3 < (x5 + 1) → w_X8_scanAddress_141 post G k16 S40 x0 x1 x2 x3 x4 (x5 + 1) x6) ∧ (¬ 3 < (x5 + 1) → w_X8_scanAddress_142 post G k16 S40 x0 x1 x2 x3 x4 (x5 + 1) x6 1))) G S (cs_ai S b38 x2.toNatClampNeg))) ∧ ((cs_ai S b35 x2.toNatClampNeg) = 46 → (x7 = 0 → w_X8_scanAddress_84 post G k16 S x0 x1 x2 x3 x4 x6) ∧ (¬ x7 = 0 → (x5 ≤ 0 → w_X8_scanAddress_84 post G k16 S x0 x1 x2 x3 x4 x6) ∧ (¬ x5 ≤ 0 → w_X8_scanAddress_85 post G k16 S x0 x1 x2 x3 x4 x6 1)))
section
variable {p : Program} {l : Launch} {e : Env} {s : State} {m : MethodId} {args : Array Value} {below : List Frame} {meth : Method} {c : Code} {P : hw_G} {G : Nat → Nat} {A : Nat → Prop}
set_option maxRecDepth 100000 in
set_option maxHeartbeats 4000000 in
theorem t_X8_scanAddress_59 {post : Int32 → cs_S → Prop} {k16 : cs_S → Nat → Int32 → Int32 → Int32 → Int32 → Int32 → Int32 → Int32 → Prop} (hC : rf_C P RX8 p s m meth c cX8_scanAddress 8 (some .int)) (hin : meth.name = yX8_scanAddress.name) (hO : cs_O G A s s.heap) (hk16 : ∀ (S : cs_S) (x0 : Nat) (x1 : Int32) (x2 : Int32) (x3 : Int32) (x4 : Int32) (x5 : Int32) (x6 : Int32) (x7 : Int32) (H : Heap) (locs : List Loc) (ls : Array Slot), k16 S x0 x1 x2 x3 x4 x5 x6 x7 → cs_T P s A S H locs → lv_has ls 8 [(0, .ref x0), (1, .int x1), (2, .int x2), (3, .int x3), (4, .int x4), (5, .int x5), (6, .int x6), (7, .int x7)] → W p l e rm_X8_scanAddress s m args below meth c H locs 0 0 (MQ below (cs_Qi P A post) args s 0 0 A) (F0 m 16 ls [])) (S : cs_S) (x0 : Nat) (x1 : Int32) (x2 : Int32) (x3 : Int32) (x4 : Int32) (x5 : Int32) (x6 : Int32) (x7 : Int32) (H : Heap) (locs : List Loc) (ls : Array Slot) (h : w_X8_scanAddress_59 post G k16 S x0 x1 x2 x3 x4 x5 x6 x7) (hT : cs_T P s A S H locs) (hl : lv_has ls 8 [(0, .ref x0), (1, .int x1), (2, .int x2), (3, .int x3), (4, .int x4), (5, .int x5), (6, .int x6), (7, .int x7)]) : W p l e rm_X8_scanAddress s m args below meth c H locs 0 0 (MQ below (cs_Qi P A post) args s 0 0 A) (F0 m 59 ls []) := by
  obtain ⟨hx, hb, hml, hown, hK, -, -⟩ := id hC
  refine lv_aload_n (x := x0) hx hb dX8_scanAddress_59 rfl (lv_at hl 0 rfl) ?_
  obtain ⟨hk33_, h⟩ := h
  refine cs_get hx hb hK hT hown 9 hk33_ (by decide) rfl 4 (by decide) kfX8_28 (v := va_rf (cs_r S 904 x0)) rfl dX8_scanAddress_60 ?_
  refine hw_topr (fun r34 er34 => ?_)
  replace h := h r34 er34
  refine lv_iload_n hx hb dX8_scanAddress_63 rfl (lv_at hl 2 rfl) ?_
  obtain ⟨b35, rfl, h⟩ := h
  obtain ⟨hk36_, h⟩ := h
  obtain ⟨hi, h⟩ := h
  refine cs_iald hx hb hK hT hk36_ hi dX8_scanAddress_64 ?_
  refine lv_bipush (v := 46) hx hb dX8_scanAddress_65 (by decide) ?_
  refine lv_icmp_ne (tgt := 111) hx hb dX8_scanAddress_67 (by decide) (fun hc => ?_) (fun hc => ?_)
  · replace h := h.1 hc
    refine lv_iinc (v := x5 + 1) (lv' := [(5, _), (0, _), (1, _), (2, _), (3, _), (4, _), (6, _), (7, _)]) hx hb dX8_scanAddress_111 hl (k := 5) rfl rfl (by decide) rfl (fun ls hl_ => ?_)
    replace hl := hl_
    refine lv_iload hx hb dX8_scanAddress_114 (lv_at hl 7 rfl) ?_
    refine lv_if_eq (tgt := 141) hx hb dX8_scanAddress_116 (by decide) (fun hc => ?_) (fun hc => ?_)
    · replace h := h.1 hc
      exact t_X8_scanAddress_141 hC hin hO hk16 S x0 x1 x2 x3 x4 (x5 + 1) x6 _ _ _ h hT (lv_sub hl [1, 2, 3, 4, 5, 0, 6] rfl)
    · replace h := h.2 hc
      refine lv_aload_n (x := x0) hx hb dX8_scanAddress_119 rfl (lv_at hl 1 rfl) ?_
      refine cs_get hx hb hK hT hown 9 hk33_ (by decide) rfl 4 (by decide) kfX8_28 (v := va_rf (cs_r S 904 x0)) rfl dX8_scanAddress_120 ?_
      refine hw_topr (fun r37 er37 => ?_)
      replace h := h r37 er37
      refine lv_iload_n hx hb dX8_scanAddress_123 rfl (lv_at hl 3 rfl) ?_
      obtain ⟨b38, rfl, h⟩ := h
      obtain ⟨hk39_, h⟩ := h
      obtain ⟨hi, h⟩ := h
      refine cs_iald hx hb hK hT hk39_ hi dX8_scanAddress_124 ?_
      refine cs_calli0 (cs_runSN hx hb hml hown hK hO hT (c_X11_isDigit h) rfl rfl klnX8_84 ki_X11_isDigit kn_X11 kc_X11_isDigit 1 ⟨by decide, by decide, by decide +kernel⟩ ⟨by decide, by decide⟩ rfl hl.1 rfl (hw_cat8 (Nat.le_of_ble_eq_true rfl)) ⟨(Nat.le_refl _), (Nat.le_refl _)⟩ dX8_scanAddress_125) hT (fun r40 S40 H locs h_ hT_ => ?_)
      replace h := h_
      replace hT := hT_
      refine lv_if_eq (tgt := 141) hx hb dX8_scanAddress_128 (by decide) (fun hc => ?_) (fun hc => ?_)
      · replace h := h.1 hc
        exact t_X8_scanAddress_141 hC hin hO hk16 S40 x0 x1 x2 x3 x4 (x5 + 1) x6 _ _ _ h hT (lv_sub hl [1, 2, 3, 4, 5, 0, 6] rfl)
      · replace h := h.2 hc
        refine lv_iload hx hb dX8_scanAddress_131 (lv_at hl 0 rfl) ?_
        refine lv_iconst (v := 3) hx hb dX8_scanAddress_133 (by decide) ?_
        refine lv_icmp_gt (tgt := 141) hx hb dX8_scanAddress_134 (by decide) (fun hc => ?_) (fun hc => ?_)
        · replace h := h.1 hc
          exact t_X8_scanAddress_141 hC hin hO hk16 S40 x0 x1 x2 x3 x4 (x5 + 1) x6 _ _ _ h hT (lv_sub hl [1, 2, 3, 4, 5, 0, 6] rfl)
        · replace h := h.2 hc
          refine lv_iconst (v := 1) hx hb dX8_scanAddress_137 (by decide) ?_
          refine lv_goto (tgt := 142) hx hb dX8_scanAddress_138 (by decide) ?_
          exact t_X8_scanAddress_142 hC hin hO hk16 S40 x0 x1 x2 x3 x4 (x5 + 1) x6 1 _ _ _ h hT (lv_sub hl [1, 2, 3, 4, 5, 0, 6] rfl)
  · replace h := h.2 hc
    refine lv_iload hx hb dX8_scanAddress_70 (lv_at hl 7 rfl) ?_
    refine lv_if_eq (tgt := 84) hx hb dX8_scanAddress_72 (by decide) (fun hc => ?_) (fun hc => ?_)
    · replace h := h.1 hc
      exact t_X8_scanAddress_84 hC hin hO hk16 S x0 x1 x2 x3 x4 x6 _ _ _ h hT (lv_sub hl [0, 1, 2, 3, 4, 6] rfl)
    · replace h := h.2 hc
      refine lv_iload hx hb dX8_scanAddress_75 (lv_at hl 5 rfl) ?_
      refine lv_if_le (tgt := 84) hx hb dX8_scanAddress_77 (by decide) (fun hc => ?_) (fun hc => ?_)
      · replace h := h.1 hc
        exact t_X8_scanAddress_84 hC hin hO hk16 S x0 x1 x2 x3 x4 x6 _ _ _ h hT (lv_sub hl [0, 1, 2, 3, 4, 6] rfl)
      · replace h := h.2 hc
        refine lv_iconst (v := 1) hx hb dX8_scanAddress_80 (by decide) ?_
        refine lv_goto (tgt := 85) hx hb dX8_scanAddress_81 (by decide) ?_
        exact t_X8_scanAddress_85 hC hin hO hk16 S x0 x1 x2 x3 x4 x6 1 _ _ _ h hT (lv_sub hl [0, 1, 2, 3, 4, 6] rfl)
end
def w_X8_scanAddress_16 (post : Int32 → cs_S → Prop) (G : Nat → Nat) : Nat → cs_S → Nat → Int32 → Int32 → Int32 → Int32 → Int32 → Int32 → Int32 → Prop
  | 0, _, _, _, _, _, _, _, _, _ => False
  | n + 1, S, x0, x1, x2, x3, x4, x5, x6, x7 => cs_k S x0 = 10 ∧ ((cs_i S 905 x0) ≤ x2 → w_X8_scanAddress_196 post G S x0 x1 x2 x3 x4 x5 x6 x7) ∧ (¬ (cs_i S 905 x0) ≤ x2 → ∀ r42, r42 = cs_r S 904 x0 → ∃ b43, r42 = some b43 ∧ cs_k S b43 = 20 ∧ vp_in x2 (cs_n S b43) ∧ wp_X11_isLetter (fun r45 S45 => (¬ r45 = 0 → w_X8_scanAddress_59 post G (w_X8_scanAddress_16 post G n) S45 x0 x1 x2 x3 x4 x5 x6 x7) ∧ (r45 = 0 → cs_k S45 x0 = 10 ∧ ∀ r47, r47 = cs_r S45 904 x0 → ∃ b48, r47 = some b48 ∧ cs_k S45 b48 = 20 ∧ vp_in x2 (cs_n S45 b48) ∧ wp_X11_isDigit (fun r50 S50 => (¬ r50 = 0 → w_X8_scanAddress_59 post G (w_X8_scanAddress_16 post G n) S50 x0 x1 x2 x3 x4 x5 x6 x7) ∧ (r50 = 0 → cs_k S50 x0 = 10 ∧ ∀ r52, r52 = cs_r S50 904 x0 → ∃ b53, r52 = some b53 ∧ cs_k S50 b53 = 20 ∧ vp_in x2 (cs_n S50 b53) ∧ (¬ (cs_ai S50 b53 x2.toNatClampNeg) = 46 → w_X8_scanAddress_196 post G S50 x0 x1 x2 x3 x4 x5 x6 x7) ∧ ((cs_ai S50 b53 x2.toNatClampNeg) = 46 → w_X8_scanAddress_59 post G (w_X8_scanAddress_16 post G n) S50 x0 x1 x2 x3 x4 x5 x6 x7))) G S45 (cs_ai S45 b48 x2.toNatClampNeg))) G S (cs_ai S b43 x2.toNatClampNeg))
section
variable {p : Program} {l : Launch} {e : Env} {s : State} {m : MethodId} {args : Array Value} {below : List Frame} {meth : Method} {c : Code} {P : hw_G} {G : Nat → Nat} {A : Nat → Prop}
set_option maxRecDepth 100000 in
set_option maxHeartbeats 4000000 in
theorem t_X8_scanAddress_16 {post : Int32 → cs_S → Prop} (hC : rf_C P RX8 p s m meth c cX8_scanAddress 8 (some .int)) (hin : meth.name = yX8_scanAddress.name) (hO : cs_O G A s s.heap) : ∀ (n : Nat) (S : cs_S) (x0 : Nat) (x1 : Int32) (x2 : Int32) (x3 : Int32) (x4 : Int32) (x5 : Int32) (x6 : Int32) (x7 : Int32) (H : Heap) (locs : List Loc) (ls : Array Slot), w_X8_scanAddress_16 post G n S x0 x1 x2 x3 x4 x5 x6 x7 → cs_T P s A S H locs → lv_has ls 8 [(0, .ref x0), (1, .int x1), (2, .int x2), (3, .int x3), (4, .int x4), (5, .int x5), (6, .int x6), (7, .int x7)] → W p l e rm_X8_scanAddress s m args below meth c H locs 0 0 (MQ below (cs_Qi P A post) args s 0 0 A) (F0 m 16 ls []) := by
  obtain ⟨hx, hb, hml, hown, hK, -, -⟩ := id hC
  intro n
  induction n with
  | zero => intro S x0 x1 x2 x3 x4 x5 x6 x7 H locs ls h; exact False.elim h
  | succ n ih =>
    intro S x0 x1 x2 x3 x4 x5 x6 x7 H locs ls h hT hl
    refine lv_iload_n hx hb dX8_scanAddress_16 rfl (lv_at hl 2 rfl) ?_
    refine lv_aload_n (x := x0) hx hb dX8_scanAddress_17 rfl (lv_at hl 0 rfl) ?_
    obtain ⟨hk41_, h⟩ := h
    refine cs_get hx hb hK hT hown 9 hk41_ (by decide) rfl 5 (by decide) kfX8_53 (v := .int (cs_i S 905 x0)) rfl dX8_scanAddress_18 ?_
    refine lv_icmp_ge (tgt := 196) hx hb dX8_scanAddress_21 (by decide) (fun hc => ?_) (fun hc => ?_)
    · replace h := h.1 hc
      exact t_X8_scanAddress_196 hC hin hO S x0 x1 x2 x3 x4 x5 x6 x7 _ _ _ h hT (lv_sub hl [0, 1, 2, 3, 4, 5, 6, 7] rfl)
    · replace h := h.2 hc
      refine lv_aload_n (x := x0) hx hb dX8_scanAddress_24 rfl (lv_at hl 0 rfl) ?_
      refine cs_get hx hb hK hT hown 9 hk41_ (by decide) rfl 4 (by decide) kfX8_28 (v := va_rf (cs_r S 904 x0)) rfl dX8_scanAddress_25 ?_
      refine hw_topr (fun r42 er42 => ?_)
      replace h := h r42 er42
      refine lv_iload_n hx hb dX8_scanAddress_28 rfl (lv_at hl 2 rfl) ?_
      obtain ⟨b43, rfl, h⟩ := h
      obtain ⟨hk44_, h⟩ := h
      obtain ⟨hi, h⟩ := h
      refine cs_iald hx hb hK hT hk44_ hi dX8_scanAddress_29 ?_
      refine cs_calli0 (cs_runSN hx hb hml hown hK hO hT (c_X11_isLetter h) rfl rfl klnX8_71 ki_X11_isLetter kn_X11 kc_X11_isLetter 1 ⟨by decide, by decide, by decide +kernel⟩ ⟨by decide, by decide⟩ rfl hl.1 rfl (hw_cat8 (Nat.le_of_ble_eq_true rfl)) ⟨(Nat.le_refl _), (Nat.le_refl _)⟩ dX8_scanAddress_30) hT (fun r45 S45 H locs h_ hT_ => ?_)
      replace h := h_
      replace hT := hT_
      refine lv_if_ne (tgt := 59) hx hb dX8_scanAddress_33 (by decide) (fun hc => ?_) (fun hc => ?_)
      · replace h := h.1 hc
        exact t_X8_scanAddress_59 hC hin hO ih S45 x0 x1 x2 x3 x4 x5 x6 x7 _ _ _ h hT (lv_sub hl [0, 1, 2, 3, 4, 5, 6, 7] rfl)
      · replace h := h.2 hc
        refine lv_aload_n (x := x0) hx hb dX8_scanAddress_36 rfl (lv_at hl 0 rfl) ?_
        obtain ⟨hk46_, h⟩ := h
        refine cs_get hx hb hK hT hown 9 hk46_ (by decide) rfl 4 (by decide) kfX8_28 (v := va_rf (cs_r S45 904 x0)) rfl dX8_scanAddress_37 ?_
        refine hw_topr (fun r47 er47 => ?_)
        replace h := h r47 er47
        refine lv_iload_n hx hb dX8_scanAddress_40 rfl (lv_at hl 2 rfl) ?_
        obtain ⟨b48, rfl, h⟩ := h
        obtain ⟨hk49_, h⟩ := h
        obtain ⟨hi, h⟩ := h
        refine cs_iald hx hb hK hT hk49_ hi dX8_scanAddress_41 ?_
        refine cs_calli0 (cs_runSN hx hb hml hown hK hO hT (c_X11_isDigit h) rfl rfl klnX8_84 ki_X11_isDigit kn_X11 kc_X11_isDigit 1 ⟨by decide, by decide, by decide +kernel⟩ ⟨by decide, by decide⟩ rfl hl.1 rfl (hw_cat8 (Nat.le_of_ble_eq_true rfl)) ⟨(Nat.le_refl _), (Nat.le_refl _)⟩ dX8_scanAddress_42) hT (fun r50 S50 H locs h_ hT_ => ?_)
        replace h := h_
        replace hT := hT_
        refine lv_if_ne (tgt := 59) hx hb dX8_scanAddress_45 (by decide) (fun hc => ?_) (fun hc => ?_)
        · replace h := h.1 hc
          exact t_X8_scanAddress_59 hC hin hO ih S50 x0 x1 x2 x3 x4 x5 x6 x7 _ _ _ h hT (lv_sub hl [0, 1, 2, 3, 4, 5, 6, 7] rfl)
        · replace h := h.2 hc
          refine lv_aload_n (x := x0) hx hb dX8_scanAddress_48 rfl (lv_at hl 0 rfl) ?_
          obtain ⟨hk51_, h⟩ := h
          refine cs_get hx hb hK hT hown 9 hk51_ (by decide) rfl 4 (by decide) kfX8_28 (v := va_rf (cs_r S50 904 x0)) rfl dX8_scanAddress_49 ?_
          refine hw_topr (fun r52 er52 => ?_)
          replace h := h r52 er52
          refine lv_iload_n hx hb dX8_scanAddress_52 rfl (lv_at hl 2 rfl) ?_
          obtain ⟨b53, rfl, h⟩ := h
          obtain ⟨hk54_, h⟩ := h
          obtain ⟨hi, h⟩ := h
          refine cs_iald hx hb hK hT hk54_ hi dX8_scanAddress_53 ?_
          refine lv_bipush (v := 46) hx hb dX8_scanAddress_54 (by decide) ?_
          refine lv_icmp_ne (tgt := 196) hx hb dX8_scanAddress_56 (by decide) (fun hc => ?_) (fun hc => ?_)
          · replace h := h.1 hc
            exact t_X8_scanAddress_196 hC hin hO S50 x0 x1 x2 x3 x4 x5 x6 x7 _ _ _ h hT (lv_sub hl [0, 1, 2, 3, 4, 5, 6, 7] rfl)
          · replace h := h.2 hc
            exact t_X8_scanAddress_59 hC hin hO ih S50 x0 x1 x2 x3 x4 x5 x6 x7 _ _ _ h hT (lv_sub hl [0, 1, 2, 3, 4, 5, 6, 7] rfl)
end
def wp_X8_scanAddress (post : Int32 → cs_S → Prop) (G : Nat → Nat) (S : cs_S) (o : Nat) (p1 : Int32) : Prop := ∃ n9, w_X8_scanAddress_16 post G n9 S o p1 p1 0 0 0 0 1
set_option maxRecDepth 100000 in
set_option maxHeartbeats 4000000 in
theorem c_X8_scanAddress {l : Launch} {P : hw_G} {G : Nat → Nat} {S : cs_S} {sz : Nat} {o : Nat} {p1 : Int32} {post : Int32 → cs_S → Prop} (h : wp_X8_scanAddress post G S o p1) : Met l yX8_scanAddress [Cond.code yX8_scanAddress cX8_scanAddress 8 (some .int)] rm_X8_scanAddress (cs_Pc P G S sz [.ref o, .int p1]) (cs_Qi P (cs_A S sz) post) 0 0 (cs_A S sz) := by
  refine cs_met (by decide) rfl (Nat.le_of_ble_eq_true rfl) ?_
  intro p e s m below meth c ls hC hin hO hT hl
  obtain ⟨hx, hb, hml, hown, hK, -, -⟩ := id hC
  replace hl : lv_has ls 8 [(0, .ref o), (1, .int p1)] := hl
  refine lv_iload_n hx hb dX8_scanAddress_0 rfl (lv_at hl 1 rfl) ?_
  refine lv_istore_n (lv' := [(2, _), (0, _), (1, _)]) hx hb dX8_scanAddress_1 rfl hl (by decide) rfl (fun ls hl_ => ?_)
  replace hl := hl_
  refine lv_iconst (v := 0) hx hb dX8_scanAddress_2 (by decide) ?_
  refine lv_istore_n (lv' := [(3, _), (2, _), (0, _), (1, _)]) hx hb dX8_scanAddress_3 rfl hl (by decide) rfl (fun ls hl_ => ?_)
  replace hl := hl_
  refine lv_iconst (v := 0) hx hb dX8_scanAddress_4 (by decide) ?_
  refine lv_istore (lv' := [(4, _), (3, _), (2, _), (0, _), (1, _)]) hx hb dX8_scanAddress_5 hl (by decide) rfl (fun ls hl_ => ?_)
  replace hl := hl_
  refine lv_iconst (v := 0) hx hb dX8_scanAddress_7 (by decide) ?_
  refine lv_istore (lv' := [(5, _), (4, _), (3, _), (2, _), (0, _), (1, _)]) hx hb dX8_scanAddress_8 hl (by decide) rfl (fun ls hl_ => ?_)
  replace hl := hl_
  refine lv_iconst (v := 0) hx hb dX8_scanAddress_10 (by decide) ?_
  refine lv_istore (lv' := [(6, _), (5, _), (4, _), (3, _), (2, _), (0, _), (1, _)]) hx hb dX8_scanAddress_11 hl (by decide) rfl (fun ls hl_ => ?_)
  replace hl := hl_
  refine lv_iconst (v := 1) hx hb dX8_scanAddress_13 (by decide) ?_
  refine lv_istore (lv' := [(7, _), (6, _), (5, _), (4, _), (3, _), (2, _), (0, _), (1, _)]) hx hb dX8_scanAddress_14 hl (by decide) rfl (fun ls hl_ => ?_)
  replace hl := hl_
  obtain ⟨n9, h⟩ := h
  exact t_X8_scanAddress_16 hC hin hO n9 S o p1 p1 0 0 0 0 1 _ _ _ h hT (lv_sub hl [6, 7, 5, 4, 3, 2, 1, 0] rfl)
/-! X8_scanSign -/
abbrev rm_X8_scanSign : Room := { frames := 1, cells := 0, slots := 0, locals := 24 }
def w_X8_scanSign_274 (post : Int32 → cs_S → Prop) (G : Nat → Nat) (S : cs_S) (x0 : Nat) (x1 : Int32) (x4 : Int32) (x5 : Int32) : Prop := (¬ x4 = 0 → cs_k S x0 = 10 ∧ wp_X8_put (fun S5 => post (x1 + x5) S5) G S x0 x4 x1 0) ∧ (x4 = 0 → post ((-1)) S)
section
variable {p : Program} {l : Launch} {e : Env} {s : State} {m : MethodId} {args : Array Value} {below : List Frame} {meth : Method} {c : Code} {P : hw_G} {G : Nat → Nat} {A : Nat → Prop}
set_option maxRecDepth 100000 in
set_option maxHeartbeats 4000000 in
theorem t_X8_scanSign_274 {post : Int32 → cs_S → Prop} (hC : rf_C P RX8 p s m meth c cX8_scanSign 6 (some .int)) (hin : meth.name = yX8_scanSign.name) (hO : cs_O G A s s.heap) (S : cs_S) (x0 : Nat) (x1 : Int32) (x4 : Int32) (x5 : Int32) (H : Heap) (locs : List Loc) (ls : Array Slot) (h : w_X8_scanSign_274 post G S x0 x1 x4 x5) (hT : cs_T P s A S H locs) (hl : lv_has ls 6 [(0, .ref x0), (1, .int x1), (4, .int x4), (5, .int x5)]) : W p l e rm_X8_scanSign s m args below meth c H locs 0 0 (MQ below (cs_Qi P A post) args s 0 0 A) (F0 m 274 ls []) := by
  obtain ⟨hx, hb, hml, hown, hK, -, -⟩ := id hC
  refine lv_iload hx hb dX8_scanSign_274 (lv_at hl 2 rfl) ?_
  refine lv_if_ne (tgt := 281) hx hb dX8_scanSign_276 (by decide) (fun hc => ?_) (fun hc => ?_)
  · replace h := h.1 hc
    refine lv_aload_n (x := x0) hx hb dX8_scanSign_281 rfl (lv_at hl 0 rfl) ?_
    refine lv_iload hx hb dX8_scanSign_282 (lv_at hl 2 rfl) ?_
    refine lv_iload_n hx hb dX8_scanSign_284 rfl (lv_at hl 1 rfl) ?_
    refine lv_lconst (v := 0) hx hb dX8_scanSign_285 (by decide) ?_
    obtain ⟨hk6_, h⟩ := h
    refine cs_callv0 (cs_runV hx hb hml hown hK hO hT 9 hk6_ (by decide) rfl (c_X8_put h) rfl rfl klX8_64 ki_X8_put ks_X8_put kn_X8 kc_X8_put 3 ⟨rfl, by decide, by decide, by decide +kernel⟩ ⟨by decide, by decide⟩ rfl hl.1 rfl (hw_cat8 (Nat.le_of_ble_eq_true rfl)) ⟨(Nat.le_refl _), (Nat.le_refl _)⟩ dX8_scanSign_286) hT (fun S5 H locs h_ hT_ => ?_)
    replace h := h_
    replace hT := hT_
    refine lv_iload_n hx hb dX8_scanSign_289 rfl (lv_at hl 1 rfl) ?_
    refine lv_iload hx hb dX8_scanSign_290 (lv_at hl 3 rfl) ?_
    refine lv_iadd hx hb dX8_scanSign_292 ?_
    exact cs_iret hC hT h dX8_scanSign_293 (Nat.le_refl _) (Nat.le_refl _)
  · replace h := h.2 hc
    refine lv_iconst (v := (-1)) hx hb dX8_scanSign_279 (by decide) ?_
    exact cs_iret hC hT h dX8_scanSign_280 (Nat.le_refl _) (Nat.le_refl _)
end
def w_X8_scanSign_212 (post : Int32 → cs_S → Prop) (G : Nat → Nat) (S : cs_S) (x0 : Nat) (x1 : Int32) (y0 : Int32) : Prop := w_X8_scanSign_274 post G S x0 x1 y0 2
section
variable {p : Program} {l : Launch} {e : Env} {s : State} {m : MethodId} {args : Array Value} {below : List Frame} {meth : Method} {c : Code} {P : hw_G} {G : Nat → Nat} {A : Nat → Prop}
set_option maxRecDepth 100000 in
set_option maxHeartbeats 4000000 in
theorem t_X8_scanSign_212 {post : Int32 → cs_S → Prop} (hC : rf_C P RX8 p s m meth c cX8_scanSign 6 (some .int)) (hin : meth.name = yX8_scanSign.name) (hO : cs_O G A s s.heap) (S : cs_S) (x0 : Nat) (x1 : Int32) (y0 : Int32) (H : Heap) (locs : List Loc) (ls : Array Slot) (h : w_X8_scanSign_212 post G S x0 x1 y0) (hT : cs_T P s A S H locs) (hl : lv_has ls 6 [(0, .ref x0), (1, .int x1)]) : W p l e rm_X8_scanSign s m args below meth c H locs 0 0 (MQ below (cs_Qi P A post) args s 0 0 A) (F0 m 212 ls [.int y0]) := by
  obtain ⟨hx, hb, hml, hown, hK, -, -⟩ := id hC
  refine lv_istore (lv' := [(4, _), (0, _), (1, _)]) hx hb dX8_scanSign_212 hl (by decide) rfl (fun ls hl_ => ?_)
  replace hl := hl_
  refine lv_iconst (v := 2) hx hb dX8_scanSign_214 (by decide) ?_
  refine lv_istore (lv' := [(5, _), (4, _), (0, _), (1, _)]) hx hb dX8_scanSign_215 hl (by decide) rfl (fun ls hl_ => ?_)
  replace hl := hl_
  refine lv_goto (tgt := 274) hx hb dX8_scanSign_217 (by decide) ?_
  exact t_X8_scanSign_274 hC hin hO S x0 x1 y0 2 _ _ _ h hT (lv_sub hl [2, 3, 1, 0] rfl)
end
def w_X8_scanSign_242 (post : Int32 → cs_S → Prop) (G : Nat → Nat) (S : cs_S) (x0 : Nat) (x1 : Int32) (x4 : Int32) (y0 : Int32) : Prop := w_X8_scanSign_274 post G S x0 x1 x4 y0
section
variable {p : Program} {l : Launch} {e : Env} {s : State} {m : MethodId} {args : Array Value} {below : List Frame} {meth : Method} {c : Code} {P : hw_G} {G : Nat → Nat} {A : Nat → Prop}
set_option maxRecDepth 100000 in
set_option maxHeartbeats 4000000 in
theorem t_X8_scanSign_242 {post : Int32 → cs_S → Prop} (hC : rf_C P RX8 p s m meth c cX8_scanSign 6 (some .int)) (hin : meth.name = yX8_scanSign.name) (hO : cs_O G A s s.heap) (S : cs_S) (x0 : Nat) (x1 : Int32) (x4 : Int32) (y0 : Int32) (H : Heap) (locs : List Loc) (ls : Array Slot) (h : w_X8_scanSign_242 post G S x0 x1 x4 y0) (hT : cs_T P s A S H locs) (hl : lv_has ls 6 [(0, .ref x0), (1, .int x1), (4, .int x4)]) : W p l e rm_X8_scanSign s m args below meth c H locs 0 0 (MQ below (cs_Qi P A post) args s 0 0 A) (F0 m 242 ls [.int y0]) := by
  obtain ⟨hx, hb, hml, hown, hK, -, -⟩ := id hC
  refine lv_istore (lv' := [(5, _), (0, _), (1, _), (4, _)]) hx hb dX8_scanSign_242 hl (by decide) rfl (fun ls hl_ => ?_)
  replace hl := hl_
  refine lv_goto (tgt := 274) hx hb dX8_scanSign_244 (by decide) ?_
  exact t_X8_scanSign_274 hC hin hO S x0 x1 x4 y0 _ _ _ h hT (lv_sub hl [1, 2, 3, 0] rfl)
end
def w_X8_scanSign_231 (post : Int32 → cs_S → Prop) (G : Nat → Nat) (S : cs_S) (x0 : Nat) (x1 : Int32) (x3 : Int32) (y0 : Int32) : Prop := (x3 = 0 → w_X8_scanSign_242 post G S x0 x1 y0 1) ∧ (¬ x3 = 0 → w_X8_scanSign_242 post G S x0 x1 y0 2)
section
variable {p : Program} {l : Launch} {e : Env} {s : State} {m : MethodId} {args : Array Value} {below : List Frame} {meth : Method} {c : Code} {P : hw_G} {G : Nat → Nat} {A : Nat → Prop}
set_option maxRecDepth 100000 in
set_option maxHeartbeats 4000000 in
theorem t_X8_scanSign_231 {post : Int32 → cs_S → Prop} (hC : rf_C P RX8 p s m meth c cX8_scanSign 6 (some .int)) (hin : meth.name = yX8_scanSign.name) (hO : cs_O G A s s.heap) (S : cs_S) (x0 : Nat) (x1 : Int32) (x3 : Int32) (y0 : Int32) (H : Heap) (locs : List Loc) (ls : Array Slot) (h : w_X8_scanSign_231 post G S x0 x1 x3 y0) (hT : cs_T P s A S H locs) (hl : lv_has ls 6 [(0, .ref x0), (1, .int x1), (3, .int x3)]) : W p l e rm_X8_scanSign s m args below meth c H locs 0 0 (MQ below (cs_Qi P A post) args s 0 0 A) (F0 m 231 ls [.int y0]) := by
  obtain ⟨hx, hb, hml, hown, hK, -, -⟩ := id hC
  refine lv_istore (lv' := [(4, _), (0, _), (1, _), (3, _)]) hx hb dX8_scanSign_231 hl (by decide) rfl (fun ls hl_ => ?_)
  replace hl := hl_
  refine lv_iload_n hx hb dX8_scanSign_233 rfl (lv_at hl 3 rfl) ?_
  refine lv_if_eq (tgt := 241) hx hb dX8_scanSign_234 (by decide) (fun hc => ?_) (fun hc => ?_)
  · replace h := h.1 hc
    refine lv_iconst (v := 1) hx hb dX8_scanSign_241 (by decide) ?_
    exact t_X8_scanSign_242 hC hin hO S x0 x1 y0 1 _ _ _ h hT (lv_sub hl [1, 2, 0] rfl)
  · replace h := h.2 hc
    refine lv_iconst (v := 2) hx hb dX8_scanSign_237 (by decide) ?_
    refine lv_goto (tgt := 242) hx hb dX8_scanSign_238 (by decide) ?_
    exact t_X8_scanSign_242 hC hin hO S x0 x1 y0 2 _ _ _ h hT (lv_sub hl [1, 2, 0] rfl)
end
def w_X8_scanSign_269 (post : Int32 → cs_S → Prop) (G : Nat → Nat) (S : cs_S) (x0 : Nat) (x1 : Int32) (x4 : Int32) (y0 : Int32) : Prop := w_X8_scanSign_274 post G S x0 x1 x4 y0
section
variable {p : Program} {l : Launch} {e : Env} {s : State} {m : MethodId} {args : Array Value} {below : List Frame} {meth : Method} {c : Code} {P : hw_G} {G : Nat → Nat} {A : Nat → Prop}
set_option maxRecDepth 100000 in
set_option maxHeartbeats 4000000 in
theorem t_X8_scanSign_269 {post : Int32 → cs_S → Prop} (hC : rf_C P RX8 p s m meth c cX8_scanSign 6 (some .int)) (hin : meth.name = yX8_scanSign.name) (hO : cs_O G A s s.heap) (S : cs_S) (x0 : Nat) (x1 : Int32) (x4 : Int32) (y0 : Int32) (H : Heap) (locs : List Loc) (ls : Array Slot) (h : w_X8_scanSign_269 post G S x0 x1 x4 y0) (hT : cs_T P s A S H locs) (hl : lv_has ls 6 [(0, .ref x0), (1, .int x1), (4, .int x4)]) : W p l e rm_X8_scanSign s m args below meth c H locs 0 0 (MQ below (cs_Qi P A post) args s 0 0 A) (F0 m 269 ls [.int y0]) := by
  obtain ⟨hx, hb, hml, hown, hK, -, -⟩ := id hC
  refine lv_istore (lv' := [(5, _), (0, _), (1, _), (4, _)]) hx hb dX8_scanSign_269 hl (by decide) rfl (fun ls hl_ => ?_)
  replace hl := hl_
  refine lv_goto (tgt := 274) hx hb dX8_scanSign_271 (by decide) ?_
  exact t_X8_scanSign_274 hC hin hO S x0 x1 x4 y0 _ _ _ h hT (lv_sub hl [1, 2, 3, 0] rfl)
end
def w_X8_scanSign_258 (post : Int32 → cs_S → Prop) (G : Nat → Nat) (S : cs_S) (x0 : Nat) (x1 : Int32) (x3 : Int32) (y0 : Int32) : Prop := (x3 = 0 → w_X8_scanSign_269 post G S x0 x1 y0 1) ∧ (¬ x3 = 0 → w_X8_scanSign_269 post G S x0 x1 y0 2)
section
variable {p : Program} {l : Launch} {e : Env} {s : State} {m : MethodId} {args : Array Value} {below : List Frame} {meth : Method} {c : Code} {P : hw_G} {G : Nat → Nat} {A : Nat → Prop}
set_option maxRecDepth 100000 in
set_option maxHeartbeats 4000000 in
theorem t_X8_scanSign_258 {post : Int32 → cs_S → Prop} (hC : rf_C P RX8 p s m meth c cX8_scanSign 6 (some .int)) (hin : meth.name = yX8_scanSign.name) (hO : cs_O G A s s.heap) (S : cs_S) (x0 : Nat) (x1 : Int32) (x3 : Int32) (y0 : Int32) (H : Heap) (locs : List Loc) (ls : Array Slot) (h : w_X8_scanSign_258 post G S x0 x1 x3 y0) (hT : cs_T P s A S H locs) (hl : lv_has ls 6 [(0, .ref x0), (1, .int x1), (3, .int x3)]) : W p l e rm_X8_scanSign s m args below meth c H locs 0 0 (MQ below (cs_Qi P A post) args s 0 0 A) (F0 m 258 ls [.int y0]) := by
  obtain ⟨hx, hb, hml, hown, hK, -, -⟩ := id hC
  refine lv_istore (lv' := [(4, _), (0, _), (1, _), (3, _)]) hx hb dX8_scanSign_258 hl (by decide) rfl (fun ls hl_ => ?_)
  replace hl := hl_
  refine lv_iload_n hx hb dX8_scanSign_260 rfl (lv_at hl 3 rfl) ?_
  refine lv_if_eq (tgt := 268) hx hb dX8_scanSign_261 (by decide) (fun hc => ?_) (fun hc => ?_)
  · replace h := h.1 hc
    refine lv_iconst (v := 1) hx hb dX8_scanSign_268 (by decide) ?_
    exact t_X8_scanSign_269 hC hin hO S x0 x1 y0 1 _ _ _ h hT (lv_sub hl [1, 2, 0] rfl)
  · replace h := h.2 hc
    refine lv_iconst (v := 2) hx hb dX8_scanSign_264 (by decide) ?_
    refine lv_goto (tgt := 269) hx hb dX8_scanSign_265 (by decide) ?_
    exact t_X8_scanSign_269 hC hin hO S x0 x1 y0 2 _ _ _ h hT (lv_sub hl [1, 2, 0] rfl)
end
def w_X8_scanSign_17 (post : Int32 → cs_S → Prop) (G : Nat → Nat) (S : cs_S) (x0 : Nat) (x1 : Int32) (x2 : Int32) (y0 : Int32) : Prop := (x2.toInt < 33 ∨ 62 < x2.toInt → w_X8_scanSign_274 post G S x0 x1 0 1) ∧ (x2.toInt = 33 → (y0 = 0 → w_X8_scanSign_212 post G S x0 x1 0) ∧ (¬ y0 = 0 → w_X8_scanSign_212 post G S x0 x1 12)) ∧ (x2.toInt = 34 → w_X8_scanSign_274 post G S x0 x1 0 1) ∧ (x2.toInt = 35 → w_X8_scanSign_274 post G S x0 x1 0 1) ∧ (x2.toInt = 36 → w_X8_scanSign_274 post G S x0 x1 0 1) ∧ (x2.toInt = 37 → w_X8_scanSign_274 post G S x0 x1 0 1) ∧ (x2.toInt = 38 → w_X8_scanSign_274 post G S x0 x1 0 1) ∧ (x2.toInt = 39 → w_X8_scanSign_274 post G S x0 x1 0 1) ∧ (x2.toInt = 40 → w_X8_scanSign_274 post G S x0 x1 6 1) ∧ (x2.toInt = 41 → w_X8_scanSign_274 post G S x0 x1 7 1) ∧ (x2.toInt = 42 → w_X8_scanSign_274 post G S x0 x1 0 1) ∧ (x2.toInt = 43 → w_X8_scanSign_274 post G S x0 x1 0 1) ∧ (x2.toInt = 44 → w_X8_scanSign_274 post G S x0 x1 8 1) ∧ (x2.toInt = 45 → w_X8_scanSign_274 post G S x0 x1 0 1) ∧ (x2.toInt = 46 → w_X8_scanSign_274 post G S x0 x1 0 1) ∧ (x2.toInt = 47 → w_X8_scanSign_274 post G S x0 x1 10 1) ∧ (x2.toInt = 48 → w_X8_scanSign_274 post G S x0 x1 0 1) ∧ (x2.toInt = 49 → w_X8_scanSign_274 post G S x0 x1 0 1) ∧ (x2.toInt = 50 → w_X8_scanSign_274 post G S x0 x1 0 1) ∧ (x2.toInt = 51 → w_X8_scanSign_274 post G S x0 x1 0 1) ∧ (x2.toInt = 52 → w_X8_scanSign_274 post G S x0 x1 0 1) ∧ (x2.toInt = 53 → w_X8_scanSign_274 post G S x0 x1 0 1) ∧ (x2.toInt = 54 → w_X8_scanSign_274 post G S x0 x1 0 1) ∧ (x2.toInt = 55 → w_X8_scanSign_274 post G S x0 x1 0 1) ∧ (x2.toInt = 56 → w_X8_scanSign_274 post G S x0 x1 0 1) ∧ (x2.toInt = 57 → w_X8_scanSign_274 post G S x0 x1 0 1) ∧ (x2.toInt = 58 → w_X8_scanSign_274 post G S x0 x1 0 1) ∧ (x2.toInt = 59 → w_X8_scanSign_274 post G S x0 x1 9 1) ∧ (x2.toInt = 60 → (y0 = 0 → w_X8_scanSign_231 post G S x0 x1 y0 13) ∧ (¬ y0 = 0 → w_X8_scanSign_231 post G S x0 x1 y0 14)) ∧ (x2.toInt = 61 → w_X8_scanSign_274 post G S x0 x1 11 1) ∧ (x2.toInt = 62 → (y0 = 0 → w_X8_scanSign_258 post G S x0 x1 y0 15) ∧ (¬ y0 = 0 → w_X8_scanSign_258 post G S x0 x1 y0 16))
section
variable {p : Program} {l : Launch} {e : Env} {s : State} {m : MethodId} {args : Array Value} {below : List Frame} {meth : Method} {c : Code} {P : hw_G} {G : Nat → Nat} {A : Nat → Prop}
set_option maxRecDepth 100000 in
set_option maxHeartbeats 4000000 in
theorem t_X8_scanSign_17 {post : Int32 → cs_S → Prop} (hC : rf_C P RX8 p s m meth c cX8_scanSign 6 (some .int)) (hin : meth.name = yX8_scanSign.name) (hO : cs_O G A s s.heap) (S : cs_S) (x0 : Nat) (x1 : Int32) (x2 : Int32) (y0 : Int32) (H : Heap) (locs : List Loc) (ls : Array Slot) (h : w_X8_scanSign_17 post G S x0 x1 x2 y0) (hT : cs_T P s A S H locs) (hl : lv_has ls 6 [(0, .ref x0), (1, .int x1), (2, .int x2)]) : W p l e rm_X8_scanSign s m args below meth c H locs 0 0 (MQ below (cs_Qi P A post) args s 0 0 A) (F0 m 17 ls [.int y0]) := by
  obtain ⟨hx, hb, hml, hown, hK, -, -⟩ := id hC
  refine lv_istore_n (lv' := [(3, _), (0, _), (1, _), (2, _)]) hx hb dX8_scanSign_17 rfl hl (by decide) rfl (fun ls hl_ => ?_)
  replace hl := hl_
  refine lv_iconst (v := 0) hx hb dX8_scanSign_18 (by decide) ?_
  refine lv_istore (lv' := [(4, _), (3, _), (0, _), (1, _), (2, _)]) hx hb dX8_scanSign_19 hl (by decide) rfl (fun ls hl_ => ?_)
  replace hl := hl_
  refine lv_iconst (v := 1) hx hb dX8_scanSign_21 (by decide) ?_
  refine lv_istore (lv' := [(5, _), (4, _), (3, _), (0, _), (1, _), (2, _)]) hx hb dX8_scanSign_22 hl (by decide) rfl (fun ls hl_ => ?_)
  replace hl := hl_
  refine lv_iload_n hx hb dX8_scanSign_24 rfl (lv_at hl 5 rfl) ?_
  by_cases hz : x2.toInt < 33 ∨ 62 < x2.toInt
  · replace h := h.1 hz
    refine lv_tableOut (tgt := 274) hx hb dX8_scanSign_25 hz (by decide) ?_
    exact t_X8_scanSign_274 hC hin hO S x0 x1 0 1 _ _ _ h hT (lv_sub hl [3, 4, 1, 0] rfl)
  have hz : x2.toInt = 33 ∨ x2.toInt = 34 ∨ x2.toInt = 35 ∨ x2.toInt = 36 ∨ x2.toInt = 37 ∨ x2.toInt = 38 ∨ x2.toInt = 39 ∨ x2.toInt = 40 ∨ x2.toInt = 41 ∨ x2.toInt = 42 ∨ x2.toInt = 43 ∨ x2.toInt = 44 ∨ x2.toInt = 45 ∨ x2.toInt = 46 ∨ x2.toInt = 47 ∨ x2.toInt = 48 ∨ x2.toInt = 49 ∨ x2.toInt = 50 ∨ x2.toInt = 51 ∨ x2.toInt = 52 ∨ x2.toInt = 53 ∨ x2.toInt = 54 ∨ x2.toInt = 55 ∨ x2.toInt = 56 ∨ x2.toInt = 57 ∨ x2.toInt = 58 ∨ x2.toInt = 59 ∨ x2.toInt = 60 ∨ x2.toInt = 61 ∨ x2.toInt = 62 := by omega
  rcases hz with hz | hz | hz | hz | hz | hz | hz | hz | hz | hz | hz | hz | hz | hz | hz | hz | hz | hz | hz | hz | hz | hz | hz | hz | hz | hz | hz | hz | hz | hz
  · replace h := h.2.1 hz
    refine hw_tab (tgt := 202) hx hb hz dX8_scanSign_25 (by decide) (by decide) (off := 177) rfl (by decide) ?_
    refine lv_iload_n hx hb dX8_scanSign_202 rfl (lv_at hl 2 rfl) ?_
    refine lv_if_eq (tgt := 211) hx hb dX8_scanSign_203 (by decide) (fun hc => ?_) (fun hc => ?_)
    · replace h := h.1 hc
      refine lv_iconst (v := 0) hx hb dX8_scanSign_211 (by decide) ?_
      exact t_X8_scanSign_212 hC hin hO S x0 x1 0 _ _ _ h hT (lv_sub hl [3, 4] rfl)
    · replace h := h.2 hc
      refine lv_bipush (v := 12) hx hb dX8_scanSign_206 (by decide) ?_
      refine lv_goto (tgt := 212) hx hb dX8_scanSign_208 (by decide) ?_
      exact t_X8_scanSign_212 hC hin hO S x0 x1 12 _ _ _ h hT (lv_sub hl [3, 4] rfl)
  · replace h := h.2.2.1 hz
    refine hw_tab (tgt := 274) hx hb hz dX8_scanSign_25 (by decide) (by decide) (off := 249) rfl (by decide) ?_
    exact t_X8_scanSign_274 hC hin hO S x0 x1 0 1 _ _ _ h hT (lv_sub hl [3, 4, 1, 0] rfl)
  · replace h := h.2.2.2.1 hz
    refine hw_tab (tgt := 274) hx hb hz dX8_scanSign_25 (by decide) (by decide) (off := 249) rfl (by decide) ?_
    exact t_X8_scanSign_274 hC hin hO S x0 x1 0 1 _ _ _ h hT (lv_sub hl [3, 4, 1, 0] rfl)
  · replace h := h.2.2.2.2.1 hz
    refine hw_tab (tgt := 274) hx hb hz dX8_scanSign_25 (by decide) (by decide) (off := 249) rfl (by decide) ?_
    exact t_X8_scanSign_274 hC hin hO S x0 x1 0 1 _ _ _ h hT (lv_sub hl [3, 4, 1, 0] rfl)
  · replace h := h.2.2.2.2.2.1 hz
    refine hw_tab (tgt := 274) hx hb hz dX8_scanSign_25 (by decide) (by decide) (off := 249) rfl (by decide) ?_
    exact t_X8_scanSign_274 hC hin hO S x0 x1 0 1 _ _ _ h hT (lv_sub hl [3, 4, 1, 0] rfl)
  · replace h := h.2.2.2.2.2.2.1 hz
    refine hw_tab (tgt := 274) hx hb hz dX8_scanSign_25 (by decide) (by decide) (off := 249) rfl (by decide) ?_
    exact t_X8_scanSign_274 hC hin hO S x0 x1 0 1 _ _ _ h hT (lv_sub hl [3, 4, 1, 0] rfl)
  · replace h := h.2.2.2.2.2.2.2.1 hz
    refine hw_tab (tgt := 274) hx hb hz dX8_scanSign_25 (by decide) (by decide) (off := 249) rfl (by decide) ?_
    exact t_X8_scanSign_274 hC hin hO S x0 x1 0 1 _ _ _ h hT (lv_sub hl [3, 4, 1, 0] rfl)
  · replace h := h.2.2.2.2.2.2.2.2.1 hz
    refine hw_tab (tgt := 160) hx hb hz dX8_scanSign_25 (by decide) (by decide) (off := 135) rfl (by decide) ?_
    refine lv_bipush (v := 6) hx hb dX8_scanSign_160 (by decide) ?_
    refine lv_istore (lv' := [(4, _), (5, _), (3, _), (0, _), (1, _), (2, _)]) hx hb dX8_scanSign_162 hl (by decide) rfl (fun ls hl_ => ?_)
    replace hl := hl_
    refine lv_goto (tgt := 274) hx hb dX8_scanSign_164 (by decide) ?_
    exact t_X8_scanSign_274 hC hin hO S x0 x1 6 1 _ _ _ h hT (lv_sub hl [3, 4, 0, 1] rfl)
  · replace h := h.2.2.2.2.2.2.2.2.2.1 hz
    refine hw_tab (tgt := 167) hx hb hz dX8_scanSign_25 (by decide) (by decide) (off := 142) rfl (by decide) ?_
    refine lv_bipush (v := 7) hx hb dX8_scanSign_167 (by decide) ?_
    refine lv_istore (lv' := [(4, _), (5, _), (3, _), (0, _), (1, _), (2, _)]) hx hb dX8_scanSign_169 hl (by decide) rfl (fun ls hl_ => ?_)
    replace hl := hl_
    refine lv_goto (tgt := 274) hx hb dX8_scanSign_171 (by decide) ?_
    exact t_X8_scanSign_274 hC hin hO S x0 x1 7 1 _ _ _ h hT (lv_sub hl [3, 4, 0, 1] rfl)
  · replace h := h.2.2.2.2.2.2.2.2.2.2.1 hz
    refine hw_tab (tgt := 274) hx hb hz dX8_scanSign_25 (by decide) (by decide) (off := 249) rfl (by decide) ?_
    exact t_X8_scanSign_274 hC hin hO S x0 x1 0 1 _ _ _ h hT (lv_sub hl [3, 4, 1, 0] rfl)
  · replace h := h.2.2.2.2.2.2.2.2.2.2.2.1 hz
    refine hw_tab (tgt := 274) hx hb hz dX8_scanSign_25 (by decide) (by decide) (off := 249) rfl (by decide) ?_
    exact t_X8_scanSign_274 hC hin hO S x0 x1 0 1 _ _ _ h hT (lv_sub hl [3, 4, 1, 0] rfl)
  · replace h := h.2.2.2.2.2.2.2.2.2.2.2.2.1 hz
    refine hw_tab (tgt := 174) hx hb hz dX8_scanSign_25 (by decide) (by decide) (off := 149) rfl (by decide) ?_
    refine lv_bipush (v := 8) hx hb dX8_scanSign_174 (by decide) ?_
    refine lv_istore (lv' := [(4, _), (5, _), (3, _), (0, _), (1, _), (2, _)]) hx hb dX8_scanSign_176 hl (by decide) rfl (fun ls hl_ => ?_)
    replace hl := hl_
    refine lv_goto (tgt := 274) hx hb dX8_scanSign_178 (by decide) ?_
    exact t_X8_scanSign_274 hC hin hO S x0 x1 8 1 _ _ _ h hT (lv_sub hl [3, 4, 0, 1] rfl)
  · replace h := h.2.2.2.2.2.2.2.2.2.2.2.2.2.1 hz
    refine hw_tab (tgt := 274) hx hb hz dX8_scanSign_25 (by decide) (by decide) (off := 249) rfl (by decide) ?_
    exact t_X8_scanSign_274 hC hin hO S x0 x1 0 1 _ _ _ h hT (lv_sub hl [3, 4, 1, 0] rfl)
  · replace h := h.2.2.2.2.2.2.2.2.2.2.2.2.2.2.1 hz
    refine hw_tab (tgt := 274) hx hb hz dX8_scanSign_25 (by decide) (by decide) (off := 249) rfl (by decide) ?_
    exact t_X8_scanSign_274 hC hin hO S x0 x1 0 1 _ _ _ h hT (lv_sub hl [3, 4, 1, 0] rfl)
  · replace h := h.2.2.2.2.2.2.2.2.2.2.2.2.2.2.2.1 hz
    refine hw_tab (tgt := 188) hx hb hz dX8_scanSign_25 (by decide) (by decide) (off := 163) rfl (by decide) ?_
    refine lv_bipush (v := 10) hx hb dX8_scanSign_188 (by decide) ?_
    refine lv_istore (lv' := [(4, _), (5, _), (3, _), (0, _), (1, _), (2, _)]) hx hb dX8_scanSign_190 hl (by decide) rfl (fun ls hl_ => ?_)
    replace hl := hl_
    refine lv_goto (tgt := 274) hx hb dX8_scanSign_192 (by decide) ?_
    exact t_X8_scanSign_274 hC hin hO S x0 x1 10 1 _ _ _ h hT (lv_sub hl [3, 4, 0, 1] rfl)
  · replace h := h.2.2.2.2.2.2.2.2.2.2.2.2.2.2.2.2.1 hz
    refine hw_tab (tgt := 274) hx hb hz dX8_scanSign_25 (by decide) (by decide) (off := 249) rfl (by decide) ?_
    exact t_X8_scanSign_274 hC hin hO S x0 x1 0 1 _ _ _ h hT (lv_sub hl [3, 4, 1, 0] rfl)
  · replace h := h.2.2.2.2.2.2.2.2.2.2.2.2.2.2.2.2.2.1 hz
    refine hw_tab (tgt := 274) hx hb hz dX8_scanSign_25 (by decide) (by decide) (off := 249) rfl (by decide) ?_
    exact t_X8_scanSign_274 hC hin hO S x0 x1 0 1 _ _ _ h hT (lv_sub hl [3, 4, 1, 0] rfl)
  · replace h := h.2.2.2.2.2.2.2.2.2.2.2.2.2.2.2.2.2.2.1 hz
    refine hw_tab (tgt := 274) hx hb hz dX8_scanSign_25 (by decide) (by decide) (off := 249) rfl (by decide) ?_
    exact t_X8_scanSign_274 hC hin hO S x0 x1 0 1 _ _ _ h hT (lv_sub hl [3, 4, 1, 0] rfl)
  · replace h := h.2.2.2.2.2.2.2.2.2.2.2.2.2.2.2.2.2.2.2.1 hz
    refine hw_tab (tgt := 274) hx hb hz dX8_scanSign_25 (by decide) (by decide) (off := 249) rfl (by decide) ?_
    exact t_X8_scanSign_274 hC hin hO S x0 x1 0 1 _ _ _ h hT (lv_sub hl [3, 4, 1, 0] rfl)
  · replace h := h.2.2.2.2.2.2.2.2.2.2.2.2.2.2.2.2.2.2.2.2.1 hz
    refine hw_tab (tgt := 274) hx hb hz dX8_scanSign_25 (by decide) (by decide) (off := 249) rfl (by decide) ?_
    exact t_X8_scanSign_274 hC hin hO S x0 x1 0 1 _ _ _ h hT (lv_sub hl [3, 4, 1, 0] rfl)
  · replace h := h.2.2.2.2.2.2.2.2.2.2.2.2.2.2.2.2.2.2.2.2.2.1 hz
    refine hw_tab (tgt := 274) hx hb hz dX8_scanSign_25 (by decide) (by decide) (off := 249) rfl (by decide) ?_
    exact t_X8_scanSign_274 hC hin hO S x0 x1 0 1 _ _ _ h hT (lv_sub hl [3, 4, 1, 0] rfl)
  · replace h := h.2.2.2.2.2.2.2.2.2.2.2.2.2.2.2.2.2.2.2.2.2.2.1 hz
    refine hw_tab (tgt := 274) hx hb hz dX8_scanSign_25 (by decide) (by decide) (off := 249) rfl (by decide) ?_
    exact t_X8_scanSign_274 hC hin hO S x0 x1 0 1 _ _ _ h hT (lv_sub hl [3, 4, 1, 0] rfl)
  · replace h := h.2.2.2.2.2.2.2.2.2.2.2.2.2.2.2.2.2.2.2.2.2.2.2.1 hz
    refine hw_tab (tgt := 274) hx hb hz dX8_scanSign_25 (by decide) (by decide) (off := 249) rfl (by decide) ?_
    exact t_X8_scanSign_274 hC hin hO S x0 x1 0 1 _ _ _ h hT (lv_sub hl [3, 4, 1, 0] rfl)
  · replace h := h.2.2.2.2.2.2.2.2.2.2.2.2.2.2.2.2.2.2.2.2.2.2.2.2.1 hz
    refine hw_tab (tgt := 274) hx hb hz dX8_scanSign_25 (by decide) (by decide) (off := 249) rfl (by decide) ?_
    exact t_X8_scanSign_274 hC hin hO S x0 x1 0 1 _ _ _ h hT (lv_sub hl [3, 4, 1, 0] rfl)
  · replace h := h.2.2.2.2.2.2.2.2.2.2.2.2.2.2.2.2.2.2.2.2.2.2.2.2.2.1 hz
    refine hw_tab (tgt := 274) hx hb hz dX8_scanSign_25 (by decide) (by decide) (off := 249) rfl (by decide) ?_
    exact t_X8_scanSign_274 hC hin hO S x0 x1 0 1 _ _ _ h hT (lv_sub hl [3, 4, 1, 0] rfl)
  · replace h := h.2.2.2.2.2.2.2.2.2.2.2.2.2.2.2.2.2.2.2.2.2.2.2.2.2.2.1 hz
    refine hw_tab (tgt := 274) hx hb hz dX8_scanSign_25 (by decide) (by decide) (off := 249) rfl (by decide) ?_
    exact t_X8_scanSign_274 hC hin hO S x0 x1 0 1 _ _ _ h hT (lv_sub hl [3, 4, 1, 0] rfl)
  · replace h := h.2.2.2.2.2.2.2.2.2.2.2.2.2.2.2.2.2.2.2.2.2.2.2.2.2.2.2.1 hz
    refine hw_tab (tgt := 181) hx hb hz dX8_scanSign_25 (by decide) (by decide) (off := 156) rfl (by decide) ?_
    refine lv_bipush (v := 9) hx hb dX8_scanSign_181 (by decide) ?_
    refine lv_istore (lv' := [(4, _), (5, _), (3, _), (0, _), (1, _), (2, _)]) hx hb dX8_scanSign_183 hl (by decide) rfl (fun ls hl_ => ?_)
    replace hl := hl_
    refine lv_goto (tgt := 274) hx hb dX8_scanSign_185 (by decide) ?_
    exact t_X8_scanSign_274 hC hin hO S x0 x1 9 1 _ _ _ h hT (lv_sub hl [3, 4, 0, 1] rfl)
  · replace h := h.2.2.2.2.2.2.2.2.2.2.2.2.2.2.2.2.2.2.2.2.2.2.2.2.2.2.2.2.1 hz
    refine hw_tab (tgt := 220) hx hb hz dX8_scanSign_25 (by decide) (by decide) (off := 195) rfl (by decide) ?_
    refine lv_iload_n hx hb dX8_scanSign_220 rfl (lv_at hl 2 rfl) ?_
    refine lv_if_eq (tgt := 229) hx hb dX8_scanSign_221 (by decide) (fun hc => ?_) (fun hc => ?_)
    · replace h := h.1 hc
      refine lv_bipush (v := 13) hx hb dX8_scanSign_229 (by decide) ?_
      exact t_X8_scanSign_231 hC hin hO S x0 x1 y0 13 _ _ _ h hT (lv_sub hl [3, 4, 2] rfl)
    · replace h := h.2 hc
      refine lv_bipush (v := 14) hx hb dX8_scanSign_224 (by decide) ?_
      refine lv_goto (tgt := 231) hx hb dX8_scanSign_226 (by decide) ?_
      exact t_X8_scanSign_231 hC hin hO S x0 x1 y0 14 _ _ _ h hT (lv_sub hl [3, 4, 2] rfl)
  · replace h := h.2.2.2.2.2.2.2.2.2.2.2.2.2.2.2.2.2.2.2.2.2.2.2.2.2.2.2.2.2.1 hz
    refine hw_tab (tgt := 195) hx hb hz dX8_scanSign_25 (by decide) (by decide) (off := 170) rfl (by decide) ?_
    refine lv_bipush (v := 11) hx hb dX8_scanSign_195 (by decide) ?_
    refine lv_istore (lv' := [(4, _), (5, _), (3, _), (0, _), (1, _), (2, _)]) hx hb dX8_scanSign_197 hl (by decide) rfl (fun ls hl_ => ?_)
    replace hl := hl_
    refine lv_goto (tgt := 274) hx hb dX8_scanSign_199 (by decide) ?_
    exact t_X8_scanSign_274 hC hin hO S x0 x1 11 1 _ _ _ h hT (lv_sub hl [3, 4, 0, 1] rfl)
  · replace h := h.2.2.2.2.2.2.2.2.2.2.2.2.2.2.2.2.2.2.2.2.2.2.2.2.2.2.2.2.2.2 hz
    refine hw_tab (tgt := 247) hx hb hz dX8_scanSign_25 (by decide) (by decide) (off := 222) rfl (by decide) ?_
    refine lv_iload_n hx hb dX8_scanSign_247 rfl (lv_at hl 2 rfl) ?_
    refine lv_if_eq (tgt := 256) hx hb dX8_scanSign_248 (by decide) (fun hc => ?_) (fun hc => ?_)
    · replace h := h.1 hc
      refine lv_bipush (v := 15) hx hb dX8_scanSign_256 (by decide) ?_
      exact t_X8_scanSign_258 hC hin hO S x0 x1 y0 15 _ _ _ h hT (lv_sub hl [3, 4, 2] rfl)
    · replace h := h.2 hc
      refine lv_bipush (v := 16) hx hb dX8_scanSign_251 (by decide) ?_
      refine lv_goto (tgt := 258) hx hb dX8_scanSign_253 (by decide) ?_
      exact t_X8_scanSign_258 hC hin hO S x0 x1 y0 16 _ _ _ h hT (lv_sub hl [3, 4, 2] rfl)
end
def wp_X8_scanSign (post : Int32 → cs_S → Prop) (G : Nat → Nat) (S : cs_S) (o : Nat) (p1 : Int32) (p2 : Int32) : Prop := cs_k S o = 10 ∧ wp_X8_octetAt (fun r7 S7 => (¬ r7 = 61 → w_X8_scanSign_17 post G S7 o p1 p2 0) ∧ (r7 = 61 → w_X8_scanSign_17 post G S7 o p1 p2 1)) G S o (p1 + 1)
set_option maxRecDepth 100000 in
set_option maxHeartbeats 4000000 in
theorem c_X8_scanSign {l : Launch} {P : hw_G} {G : Nat → Nat} {S : cs_S} {sz : Nat} {o : Nat} {p1 : Int32} {p2 : Int32} {post : Int32 → cs_S → Prop} (h : wp_X8_scanSign post G S o p1 p2) : Met l yX8_scanSign [Cond.code yX8_scanSign cX8_scanSign 6 (some .int)] rm_X8_scanSign (cs_Pc P G S sz [.ref o, .int p1, .int p2]) (cs_Qi P (cs_A S sz) post) 0 0 (cs_A S sz) := by
  refine cs_met (by decide) rfl (Nat.le_of_ble_eq_true rfl) ?_
  intro p e s m below meth c ls hC hin hO hT hl
  obtain ⟨hx, hb, hml, hown, hK, -, -⟩ := id hC
  replace hl : lv_has ls 6 [(0, .ref o), (1, .int p1), (2, .int p2)] := hl
  refine lv_aload_n (x := o) hx hb dX8_scanSign_0 rfl (lv_at hl 0 rfl) ?_
  refine lv_iload_n hx hb dX8_scanSign_1 rfl (lv_at hl 1 rfl) ?_
  refine lv_iconst (v := 1) hx hb dX8_scanSign_2 (by decide) ?_
  refine lv_iadd hx hb dX8_scanSign_3 ?_
  obtain ⟨hk8_, h⟩ := h
  refine cs_calli0 (cs_runV hx hb hml hown hK hO hT 9 hk8_ (by decide) rfl (c_X8_octetAt h) rfl rfl klX8_68 ki_X8_octetAt ks_X8_octetAt kn_X8 kc_X8_octetAt 1 ⟨rfl, by decide, by decide, by decide +kernel⟩ ⟨by decide, by decide⟩ rfl hl.1 rfl (hw_cat8 (Nat.le_of_ble_eq_true rfl)) ⟨(Nat.le_refl _), (Nat.le_refl _)⟩ dX8_scanSign_4) hT (fun r7 S7 H locs h_ hT_ => ?_)
  replace h := h_
  replace hT := hT_
  refine lv_bipush (v := 61) hx hb dX8_scanSign_7 (by decide) ?_
  refine lv_icmp_ne (tgt := 16) hx hb dX8_scanSign_9 (by decide) (fun hc => ?_) (fun hc => ?_)
  · replace h := h.1 hc
    refine lv_iconst (v := 0) hx hb dX8_scanSign_16 (by decide) ?_
    exact t_X8_scanSign_17 hC hin hO S7 o p1 p2 0 _ _ _ h hT (lv_sub hl [0, 1, 2] rfl)
  · replace h := h.2 hc
    refine lv_iconst (v := 1) hx hb dX8_scanSign_12 (by decide) ?_
    refine lv_goto (tgt := 17) hx hb dX8_scanSign_13 (by decide) ?_
    exact t_X8_scanSign_17 hC hin hO S7 o p1 p2 1 _ _ _ h hT (lv_sub hl [0, 1, 2] rfl)
/-! X8_scanToken -/
abbrev rm_X8_scanToken : Room := { frames := 2, cells := 0, slots := 0, locals := 51 }
def w_X8_scanToken_105 (post : Int32 → cs_S → Prop) (G : Nat → Nat) (S : cs_S) (y0 : Int32) : Prop := post y0 S
section
variable {p : Program} {l : Launch} {e : Env} {s : State} {m : MethodId} {args : Array Value} {below : List Frame} {meth : Method} {c : Code} {P : hw_G} {G : Nat → Nat} {A : Nat → Prop}
set_option maxRecDepth 100000 in
set_option maxHeartbeats 4000000 in
theorem t_X8_scanToken_105 {post : Int32 → cs_S → Prop} (hC : rf_C P RX8 p s m meth c cX8_scanToken 4 (some .int)) (hin : meth.name = yX8_scanToken.name) (hO : cs_O G A s s.heap) (S : cs_S) (y0 : Int32) (H : Heap) (locs : List Loc) (ls : Array Slot) (h : w_X8_scanToken_105 post G S y0) (hT : cs_T P s A S H locs) (hl : lv_has ls 4 []) : W p l e rm_X8_scanToken s m args below meth c H locs 0 0 (MQ below (cs_Qi P A post) args s 0 0 A) (F0 m 105 ls [.int y0]) := by
  obtain ⟨hx, hb, hml, hown, hK, -, -⟩ := id hC
  exact cs_iret hC hT h dX8_scanToken_105 (Nat.le_refl _) (Nat.le_refl _)
end
def w_X8_scanToken_81 (post : Int32 → cs_S → Prop) (G : Nat → Nat) (S : cs_S) (x0 : Nat) (x1 : Int32) (x3 : Int32) : Prop := cs_k S x0 = 10 ∧ wp_X8_octetAt (fun r23 S23 => (¬ r23 = 46 → cs_k S23 x0 = 10 ∧ wp_X8_scanNumber (fun r25 S25 => w_X8_scanToken_105 post G S25 r25) G S23 x0 x1 x1) ∧ (r23 = 46 → cs_k S23 x0 = 10 ∧ wp_X8_scanAddress (fun r27 S27 => w_X8_scanToken_105 post G S27 r27) G S23 x0 x1)) G S x0 x3
section
variable {p : Program} {l : Launch} {e : Env} {s : State} {m : MethodId} {args : Array Value} {below : List Frame} {meth : Method} {c : Code} {P : hw_G} {G : Nat → Nat} {A : Nat → Prop}
set_option maxRecDepth 100000 in
set_option maxHeartbeats 4000000 in
theorem t_X8_scanToken_81 {post : Int32 → cs_S → Prop} (hC : rf_C P RX8 p s m meth c cX8_scanToken 4 (some .int)) (hin : meth.name = yX8_scanToken.name) (hO : cs_O G A s s.heap) (S : cs_S) (x0 : Nat) (x1 : Int32) (x3 : Int32) (H : Heap) (locs : List Loc) (ls : Array Slot) (h : w_X8_scanToken_81 post G S x0 x1 x3) (hT : cs_T P s A S H locs) (hl : lv_has ls 4 [(0, .ref x0), (1, .int x1), (3, .int x3)]) : W p l e rm_X8_scanToken s m args below meth c H locs 0 0 (MQ below (cs_Qi P A post) args s 0 0 A) (F0 m 81 ls []) := by
  obtain ⟨hx, hb, hml, hown, hK, -, -⟩ := id hC
  refine lv_aload_n (x := x0) hx hb dX8_scanToken_81 rfl (lv_at hl 0 rfl) ?_
  refine lv_iload_n hx hb dX8_scanToken_82 rfl (lv_at hl 2 rfl) ?_
  obtain ⟨hk24_, h⟩ := h
  refine cs_calli0 (cs_runV hx hb hml hown hK hO hT 9 hk24_ (by decide) rfl (c_X8_octetAt h) rfl rfl klX8_68 ki_X8_octetAt ks_X8_octetAt kn_X8 kc_X8_octetAt 1 ⟨rfl, by decide, by decide, by decide +kernel⟩ ⟨by decide, by decide⟩ rfl hl.1 rfl (hw_cat8 (Nat.le_of_ble_eq_true rfl)) ⟨(Nat.le_refl _), (Nat.le_refl _)⟩ dX8_scanToken_83) hT (fun r23 S23 H locs h_ hT_ => ?_)
  replace h := h_
  replace hT := hT_
  refine lv_bipush (v := 46) hx hb dX8_scanToken_86 (by decide) ?_
  refine lv_icmp_ne (tgt := 99) hx hb dX8_scanToken_88 (by decide) (fun hc => ?_) (fun hc => ?_)
  · replace h := h.1 hc
    refine lv_aload_n (x := x0) hx hb dX8_scanToken_99 rfl (lv_at hl 0 rfl) ?_
    refine lv_iload_n hx hb dX8_scanToken_100 rfl (lv_at hl 1 rfl) ?_
    refine lv_iload_n hx hb dX8_scanToken_101 rfl (lv_at hl 1 rfl) ?_
    obtain ⟨hk26_, h⟩ := h
    refine cs_calli0 (cs_runV hx hb hml hown hK hO hT 9 hk26_ (by decide) rfl (c_X8_scanNumber h) rfl rfl klX8_81 ki_X8_scanNumber ks_X8_scanNumber kn_X8 kc_X8_scanNumber 2 ⟨rfl, by decide, by decide, by decide +kernel⟩ ⟨by decide, by decide⟩ rfl hl.1 rfl (hw_cat8 (Nat.le_of_ble_eq_true rfl)) ⟨(Nat.le_refl _), (Nat.le_refl _)⟩ dX8_scanToken_102) hT (fun r25 S25 H locs h_ hT_ => ?_)
    replace h := h_
    replace hT := hT_
    exact t_X8_scanToken_105 hC hin hO S25 r25 _ _ _ h hT (lv_sub hl [] rfl)
  · replace h := h.2 hc
    refine lv_aload_n (x := x0) hx hb dX8_scanToken_91 rfl (lv_at hl 0 rfl) ?_
    refine lv_iload_n hx hb dX8_scanToken_92 rfl (lv_at hl 1 rfl) ?_
    obtain ⟨hk28_, h⟩ := h
    refine cs_calli0 (cs_runV hx hb hml hown hK hO hT 9 hk28_ (by decide) rfl (c_X8_scanAddress h) rfl rfl klX8_87 ki_X8_scanAddress ks_X8_scanAddress kn_X8 kc_X8_scanAddress 1 ⟨rfl, by decide, by decide, by decide +kernel⟩ ⟨by decide, by decide⟩ rfl hl.1 rfl (hw_cat8 (Nat.le_of_ble_eq_true rfl)) ⟨(Nat.le_refl _), (Nat.le_refl _)⟩ dX8_scanToken_93) hT (fun r27 S27 H locs h_ hT_ => ?_)
    replace h := h_
    replace hT := hT_
    refine lv_goto (tgt := 105) hx hb dX8_scanToken_96 (by decide) ?_
    exact t_X8_scanToken_105 hC hin hO S27 r27 _ _ _ h hT (lv_sub hl [] rfl)
end
def w_X8_scanToken_55 (post : Int32 → cs_S → Prop) (G : Nat → Nat) : Nat → cs_S → Nat → Int32 → Int32 → Prop
  | 0, _, _, _, _ => False
  | n + 1, S, x0, x1, x3 => cs_k S x0 = 10 ∧ ((cs_i S 905 x0) ≤ x3 → w_X8_scanToken_81 post G S x0 x1 x3) ∧ (¬ (cs_i S 905 x0) ≤ x3 → ∀ r30, r30 = cs_r S 904 x0 → ∃ b31, r30 = some b31 ∧ cs_k S b31 = 20 ∧ vp_in x3 (cs_n S b31) ∧ wp_X11_isDigit (fun r33 S33 => (r33 = 0 → w_X8_scanToken_81 post G S33 x0 x1 x3) ∧ (¬ r33 = 0 → w_X8_scanToken_55 post G n S33 x0 x1 (x3 + 1))) G S (cs_ai S b31 x3.toNatClampNeg))
section
variable {p : Program} {l : Launch} {e : Env} {s : State} {m : MethodId} {args : Array Value} {below : List Frame} {meth : Method} {c : Code} {P : hw_G} {G : Nat → Nat} {A : Nat → Prop}
set_option maxRecDepth 100000 in
set_option maxHeartbeats 4000000 in
theorem t_X8_scanToken_55 {post : Int32 → cs_S → Prop} (hC : rf_C P RX8 p s m meth c cX8_scanToken 4 (some .int)) (hin : meth.name = yX8_scanToken.name) (hO : cs_O G A s s.heap) : ∀ (n : Nat) (S : cs_S) (x0 : Nat) (x1 : Int32) (x3 : Int32) (H : Heap) (locs : List Loc) (ls : Array Slot), w_X8_scanToken_55 post G n S x0 x1 x3 → cs_T P s A S H locs → lv_has ls 4 [(0, .ref x0), (1, .int x1), (3, .int x3)] → W p l e rm_X8_scanToken s m args below meth c H locs 0 0 (MQ below (cs_Qi P A post) args s 0 0 A) (F0 m 55 ls []) := by
  obtain ⟨hx, hb, hml, hown, hK, -, -⟩ := id hC
  intro n
  induction n with
  | zero => intro S x0 x1 x3 H locs ls h; exact False.elim h
  | succ n ih =>
    intro S x0 x1 x3 H locs ls h hT hl
    refine lv_iload_n hx hb dX8_scanToken_55 rfl (lv_at hl 2 rfl) ?_
    refine lv_aload_n (x := x0) hx hb dX8_scanToken_56 rfl (lv_at hl 0 rfl) ?_
    obtain ⟨hk29_, h⟩ := h
    refine cs_get hx hb hK hT hown 9 hk29_ (by decide) rfl 5 (by decide) kfX8_53 (v := .int (cs_i S 905 x0)) rfl dX8_scanToken_57 ?_
    refine lv_icmp_ge (tgt := 81) hx hb dX8_scanToken_60 (by decide) (fun hc => ?_) (fun hc => ?_)
    · replace h := h.1 hc
      exact t_X8_scanToken_81 hC hin hO S x0 x1 x3 _ _ _ h hT (lv_sub hl [0, 1, 2] rfl)
    · replace h := h.2 hc
      refine lv_aload_n (x := x0) hx hb dX8_scanToken_63 rfl (lv_at hl 0 rfl) ?_
      refine cs_get hx hb hK hT hown 9 hk29_ (by decide) rfl 4 (by decide) kfX8_28 (v := va_rf (cs_r S 904 x0)) rfl dX8_scanToken_64 ?_
      refine hw_topr (fun r30 er30 => ?_)
      replace h := h r30 er30
      refine lv_iload_n hx hb dX8_scanToken_67 rfl (lv_at hl 2 rfl) ?_
      obtain ⟨b31, rfl, h⟩ := h
      obtain ⟨hk32_, h⟩ := h
      obtain ⟨hi, h⟩ := h
      refine cs_iald hx hb hK hT hk32_ hi dX8_scanToken_68 ?_
      refine cs_calli0 (cs_runSN hx hb hml hown hK hO hT (c_X11_isDigit h) rfl rfl klnX8_84 ki_X11_isDigit kn_X11 kc_X11_isDigit 1 ⟨by decide, by decide, by decide +kernel⟩ ⟨by decide, by decide⟩ rfl hl.1 rfl (hw_cat8 (Nat.le_of_ble_eq_true rfl)) ⟨(Nat.le_refl _), (Nat.le_refl _)⟩ dX8_scanToken_69) hT (fun r33 S33 H locs h_ hT_ => ?_)
      replace h := h_
      replace hT := hT_
      refine lv_if_eq (tgt := 81) hx hb dX8_scanToken_72 (by decide) (fun hc => ?_) (fun hc => ?_)
      · replace h := h.1 hc
        exact t_X8_scanToken_81 hC hin hO S33 x0 x1 x3 _ _ _ h hT (lv_sub hl [0, 1, 2] rfl)
      · replace h := h.2 hc
        refine lv_iinc (v := x3 + 1) (lv' := [(3, _), (0, _), (1, _)]) hx hb dX8_scanToken_75 hl (k := 2) rfl rfl (by decide) rfl (fun ls hl_ => ?_)
        replace hl := hl_
        refine lv_goto (tgt := 55) hx hb dX8_scanToken_78 (by decide) ?_
        exact ih S33 x0 x1 (x3 + 1) _ _ _ h hT (lv_sub hl [1, 2, 0] rfl)
end
def wp_X8_scanToken (post : Int32 → cs_S → Prop) (G : Nat → Nat) (S : cs_S) (o : Nat) (p1 : Int32) : Prop := cs_k S o = 10 ∧ wp_X8_octetAt (fun r34 S34 => wp_X11_isLetter (fun r36 S36 => (r36 = 0 → (¬ r34 = 34 → (¬ r34 = 45 → wp_X11_isDigit (fun r37 S37 => (r37 = 0 → cs_k S37 o = 10 ∧ wp_X8_scanSign (fun r38 S38 => post r38 S38) G S37 o p1 r34) ∧ (¬ r37 = 0 → ∃ n9, w_X8_scanToken_55 post G n9 S37 o p1 p1)) G S36 r34) ∧ (r34 = 45 → cs_k S36 o = 10 ∧ wp_X8_scanNumber (fun r40 S40 => post r40 S40) G S36 o p1 (p1 + 1))) ∧ (r34 = 34 → cs_k S36 o = 10 ∧ wp_X8_scanQuoted (fun r42 S42 => post r42 S42) G S36 o p1)) ∧ (¬ r36 = 0 → cs_k S36 o = 10 ∧ wp_X8_scanWord (fun r44 S44 => post r44 S44) G S36 o p1)) G S34 r34) G S o p1
set_option maxRecDepth 100000 in
set_option maxHeartbeats 4000000 in
theorem c_X8_scanToken {l : Launch} {P : hw_G} {G : Nat → Nat} {S : cs_S} {sz : Nat} {o : Nat} {p1 : Int32} {post : Int32 → cs_S → Prop} (h : wp_X8_scanToken post G S o p1) : Met l yX8_scanToken [Cond.code yX8_scanToken cX8_scanToken 4 (some .int)] rm_X8_scanToken (cs_Pc P G S sz [.ref o, .int p1]) (cs_Qi P (cs_A S sz) post) 0 0 (cs_A S sz) := by
  refine cs_met (by decide) rfl (Nat.le_of_ble_eq_true rfl) ?_
  intro p e s m below meth c ls hC hin hO hT hl
  obtain ⟨hx, hb, hml, hown, hK, -, -⟩ := id hC
  replace hl : lv_has ls 4 [(0, .ref o), (1, .int p1)] := hl
  refine lv_aload_n (x := o) hx hb dX8_scanToken_0 rfl (lv_at hl 0 rfl) ?_
  refine lv_iload_n hx hb dX8_scanToken_1 rfl (lv_at hl 1 rfl) ?_
  obtain ⟨hk35_, h⟩ := h
  refine cs_calli0 (cs_runV hx hb hml hown hK hO hT 9 hk35_ (by decide) rfl (c_X8_octetAt h) rfl rfl klX8_68 ki_X8_octetAt ks_X8_octetAt kn_X8 kc_X8_octetAt 1 ⟨rfl, by decide, by decide, by decide +kernel⟩ ⟨by decide, by decide⟩ rfl hl.1 rfl (hw_cat8 (Nat.le_of_ble_eq_true rfl)) ⟨(Nat.le_refl _), (Nat.le_refl _)⟩ dX8_scanToken_2) hT (fun r34 S34 H locs h_ hT_ => ?_)
  replace h := h_
  replace hT := hT_
  refine lv_istore_n (lv' := [(2, _), (0, _), (1, _)]) hx hb dX8_scanToken_5 rfl hl (by decide) rfl (fun ls hl_ => ?_)
  replace hl := hl_
  refine lv_iload_n hx hb dX8_scanToken_6 rfl (lv_at hl 0 rfl) ?_
  refine cs_calli0 (cs_runSN hx hb hml hown hK hO hT (c_X11_isLetter h) rfl rfl klnX8_71 ki_X11_isLetter kn_X11 kc_X11_isLetter 1 ⟨by decide, by decide, by decide +kernel⟩ ⟨by decide, by decide⟩ rfl hl.1 rfl (hw_cat8 (Nat.le_of_ble_eq_true rfl)) ⟨(Nat.le_refl _), (Nat.le_refl _)⟩ dX8_scanToken_7) hT (fun r36 S36 H locs h_ hT_ => ?_)
  replace h := h_
  replace hT := hT_
  refine lv_if_eq (tgt := 19) hx hb dX8_scanToken_10 (by decide) (fun hc => ?_) (fun hc => ?_)
  · replace h := h.1 hc
    refine lv_iload_n hx hb dX8_scanToken_19 rfl (lv_at hl 0 rfl) ?_
    refine lv_bipush (v := 34) hx hb dX8_scanToken_20 (by decide) ?_
    refine lv_icmp_ne (tgt := 31) hx hb dX8_scanToken_22 (by decide) (fun hc => ?_) (fun hc => ?_)
    · replace h := h.1 hc
      refine lv_iload_n hx hb dX8_scanToken_31 rfl (lv_at hl 0 rfl) ?_
      refine lv_bipush (v := 45) hx hb dX8_scanToken_32 (by decide) ?_
      refine lv_icmp_ne (tgt := 46) hx hb dX8_scanToken_34 (by decide) (fun hc => ?_) (fun hc => ?_)
      · replace h := h.1 hc
        refine lv_iload_n hx hb dX8_scanToken_46 rfl (lv_at hl 0 rfl) ?_
        refine cs_calli0 (cs_runSN hx hb hml hown hK hO hT (c_X11_isDigit h) rfl rfl klnX8_84 ki_X11_isDigit kn_X11 kc_X11_isDigit 1 ⟨by decide, by decide, by decide +kernel⟩ ⟨by decide, by decide⟩ rfl hl.1 rfl (hw_cat8 (Nat.le_of_ble_eq_true rfl)) ⟨(Nat.le_refl _), (Nat.le_refl _)⟩ dX8_scanToken_47) hT (fun r37 S37 H locs h_ hT_ => ?_)
        replace h := h_
        replace hT := hT_
        refine lv_if_eq (tgt := 106) hx hb dX8_scanToken_50 (by decide) (fun hc => ?_) (fun hc => ?_)
        · replace h := h.1 hc
          refine lv_aload_n (x := o) hx hb dX8_scanToken_106 rfl (lv_at hl 1 rfl) ?_
          refine lv_iload_n hx hb dX8_scanToken_107 rfl (lv_at hl 2 rfl) ?_
          refine lv_iload_n hx hb dX8_scanToken_108 rfl (lv_at hl 0 rfl) ?_
          obtain ⟨hk39_, h⟩ := h
          refine cs_calli0 (cs_runV hx hb hml hown hK hO hT 9 hk39_ (by decide) rfl (c_X8_scanSign h) rfl rfl klX8_90 ki_X8_scanSign ks_X8_scanSign kn_X8 kc_X8_scanSign 2 ⟨rfl, by decide, by decide, by decide +kernel⟩ ⟨by decide, by decide⟩ rfl hl.1 rfl (hw_cat8 (Nat.le_of_ble_eq_true rfl)) ⟨(Nat.le_refl _), (Nat.le_refl _)⟩ dX8_scanToken_109) hT (fun r38 S38 H locs h_ hT_ => ?_)
          replace h := h_
          replace hT := hT_
          exact cs_iret hC hT h dX8_scanToken_112 (Nat.le_refl _) (Nat.le_refl _)
        · replace h := h.2 hc
          refine lv_iload_n hx hb dX8_scanToken_53 rfl (lv_at hl 2 rfl) ?_
          refine lv_istore_n (lv' := [(3, _), (2, _), (0, _), (1, _)]) hx hb dX8_scanToken_54 rfl hl (by decide) rfl (fun ls hl_ => ?_)
          replace hl := hl_
          obtain ⟨n9, h⟩ := h
          exact t_X8_scanToken_55 hC hin hO n9 S37 o p1 p1 _ _ _ h hT (lv_sub hl [2, 3, 0] rfl)
      · replace h := h.2 hc
        refine lv_aload_n (x := o) hx hb dX8_scanToken_37 rfl (lv_at hl 1 rfl) ?_
        refine lv_iload_n hx hb dX8_scanToken_38 rfl (lv_at hl 2 rfl) ?_
        refine lv_iload_n hx hb dX8_scanToken_39 rfl (lv_at hl 2 rfl) ?_
        refine lv_iconst (v := 1) hx hb dX8_scanToken_40 (by decide) ?_
        refine lv_iadd hx hb dX8_scanToken_41 ?_
        obtain ⟨hk41_, h⟩ := h
        refine cs_calli0 (cs_runV hx hb hml hown hK hO hT 9 hk41_ (by decide) rfl (c_X8_scanNumber h) rfl rfl klX8_81 ki_X8_scanNumber ks_X8_scanNumber kn_X8 kc_X8_scanNumber 2 ⟨rfl, by decide, by decide, by decide +kernel⟩ ⟨by decide, by decide⟩ rfl hl.1 rfl (hw_cat8 (Nat.le_of_ble_eq_true rfl)) ⟨(Nat.le_refl _), (Nat.le_refl _)⟩ dX8_scanToken_42) hT (fun r40 S40 H locs h_ hT_ => ?_)
        replace h := h_
        replace hT := hT_
        exact cs_iret hC hT h dX8_scanToken_45 (Nat.le_refl _) (Nat.le_refl _)
    · replace h := h.2 hc
      refine lv_aload_n (x := o) hx hb dX8_scanToken_25 rfl (lv_at hl 1 rfl) ?_
      refine lv_iload_n hx hb dX8_scanToken_26 rfl (lv_at hl 2 rfl) ?_
      obtain ⟨hk43_, h⟩ := h
      refine cs_calli0 (cs_runV hx hb hml hown hK hO hT 9 hk43_ (by decide) rfl (c_X8_scanQuoted h) rfl rfl klX8_78 ki_X8_scanQuoted ks_X8_scanQuoted kn_X8 kc_X8_scanQuoted 1 ⟨rfl, by decide, by decide, by decide +kernel⟩ ⟨by decide, by decide⟩ rfl hl.1 rfl (hw_cat8 (Nat.le_of_ble_eq_true rfl)) ⟨(Nat.le_refl _), (Nat.le_refl _)⟩ dX8_scanToken_27) hT (fun r42 S42 H locs h_ hT_ => ?_)
      replace h := h_
      replace hT := hT_
      exact cs_iret hC hT h dX8_scanToken_30 (Nat.le_refl _) (Nat.le_refl _)
  · replace h := h.2 hc
    refine lv_aload_n (x := o) hx hb dX8_scanToken_13 rfl (lv_at hl 1 rfl) ?_
    refine lv_iload_n hx hb dX8_scanToken_14 rfl (lv_at hl 2 rfl) ?_
    obtain ⟨hk45_, h⟩ := h
    refine cs_calli0 (cs_runV hx hb hml hown hK hO hT 9 hk45_ (by decide) rfl (c_X8_scanWord h) rfl rfl klX8_75 ki_X8_scanWord ks_X8_scanWord kn_X8 kc_X8_scanWord 1 ⟨rfl, by decide, by decide, by decide +kernel⟩ ⟨by decide, by decide⟩ rfl hl.1 rfl (hw_cat8 (Nat.le_of_ble_eq_true rfl)) ⟨(Nat.le_refl _), (Nat.le_refl _)⟩ dX8_scanToken_15) hT (fun r44 S44 H locs h_ hT_ => ?_)
    replace h := h_
    replace hT := hT_
    exact cs_iret hC hT h dX8_scanToken_18 (Nat.le_refl _) (Nat.le_refl _)
/-! X8_scan -/
abbrev rm_X8_scan : Room := { frames := 3, cells := 0, slots := 0, locals := 74 }
def w_X8_scan_124 (post : cs_S → Prop) (G : Nat → Nat) (S : cs_S)  : Prop := post S
section
variable {p : Program} {l : Launch} {e : Env} {s : State} {m : MethodId} {args : Array Value} {below : List Frame} {meth : Method} {c : Code} {P : hw_G} {G : Nat → Nat} {A : Nat → Prop}
set_option maxRecDepth 100000 in
set_option maxHeartbeats 4000000 in
theorem t_X8_scan_124 {post : cs_S → Prop} (hC : rf_C P RX8 p s m meth c cX8_scan 5 none) (hin : meth.name = yX8_scan.name) (hO : cs_O G A s s.heap) (S : cs_S)  (H : Heap) (locs : List Loc) (ls : Array Slot) (h : w_X8_scan_124 post G S ) (hT : cs_T P s A S H locs) (hl : lv_has ls 5 []) : W p l e rm_X8_scan s m args below meth c H locs 0 0 (MQ below (cs_Qv P A post) args s 0 0 A) (F0 m 124 ls []) := by
  obtain ⟨hx, hb, hml, hown, hK, -, -⟩ := id hC
  exact cs_vret hC hT h dX8_scan_124 (Nat.le_refl _) (Nat.le_refl _)
end
def w_X8_scan_92 (post : cs_S → Prop) (G : Nat → Nat) (S : cs_S) (x0 : Nat) : Prop := cs_k S x0 = 10 ∧ ((cs_i S 905 x0) ≤ 2000 → wp_X8_put (fun S22 => w_X8_scan_124 post G S22) G S x0 1 (cs_i S 905 x0) 0) ∧ (¬ (cs_i S 905 x0) ≤ 2000 → wp_X8_put (fun S23 => w_X8_scan_124 post G S23) G S x0 0 2000 0)
section
variable {p : Program} {l : Launch} {e : Env} {s : State} {m : MethodId} {args : Array Value} {below : List Frame} {meth : Method} {c : Code} {P : hw_G} {G : Nat → Nat} {A : Nat → Prop}
set_option maxRecDepth 100000 in
set_option maxHeartbeats 4000000 in
theorem t_X8_scan_92 {post : cs_S → Prop} (hC : rf_C P RX8 p s m meth c cX8_scan 5 none) (hin : meth.name = yX8_scan.name) (hO : cs_O G A s s.heap) (S : cs_S) (x0 : Nat) (H : Heap) (locs : List Loc) (ls : Array Slot) (h : w_X8_scan_92 post G S x0) (hT : cs_T P s A S H locs) (hl : lv_has ls 5 [(0, .ref x0)]) : W p l e rm_X8_scan s m args below meth c H locs 0 0 (MQ below (cs_Qv P A post) args s 0 0 A) (F0 m 92 ls []) := by
  obtain ⟨hx, hb, hml, hown, hK, -, -⟩ := id hC
  refine lv_aload_n (x := x0) hx hb dX8_scan_92 rfl (lv_at hl 0 rfl) ?_
  obtain ⟨hk21_, h⟩ := h
  refine cs_get hx hb hK hT hown 9 hk21_ (by decide) rfl 5 (by decide) kfX8_53 (v := .int (cs_i S 905 x0)) rfl dX8_scan_93 ?_
  refine lv_sipush (v := 2000) hx hb dX8_scan_96 (by decide) ?_
  refine lv_icmp_le (tgt := 114) hx hb dX8_scan_99 (by decide) (fun hc => ?_) (fun hc => ?_)
  · replace h := h.1 hc
    refine lv_aload_n (x := x0) hx hb dX8_scan_114 rfl (lv_at hl 0 rfl) ?_
    refine lv_iconst (v := 1) hx hb dX8_scan_115 (by decide) ?_
    refine lv_aload_n (x := x0) hx hb dX8_scan_116 rfl (lv_at hl 0 rfl) ?_
    refine cs_get hx hb hK hT hown 9 hk21_ (by decide) rfl 5 (by decide) kfX8_53 (v := .int (cs_i S 905 x0)) rfl dX8_scan_117 ?_
    refine lv_lconst (v := 0) hx hb dX8_scan_120 (by decide) ?_
    refine cs_callv0 (cs_runV hx hb hml hown hK hO hT 9 hk21_ (by decide) rfl (c_X8_put h) rfl rfl klX8_64 ki_X8_put ks_X8_put kn_X8 kc_X8_put 3 ⟨rfl, by decide, by decide, by decide +kernel⟩ ⟨by decide, by decide⟩ rfl hl.1 rfl (hw_cat8 (Nat.le_of_ble_eq_true rfl)) ⟨(Nat.le_refl _), (Nat.le_refl _)⟩ dX8_scan_121) hT (fun S22 H locs h_ hT_ => ?_)
    replace h := h_
    replace hT := hT_
    exact t_X8_scan_124 hC hin hO S22 _ _ _ h hT (lv_sub hl [] rfl)
  · replace h := h.2 hc
    refine lv_aload_n (x := x0) hx hb dX8_scan_102 rfl (lv_at hl 0 rfl) ?_
    refine lv_iconst (v := 0) hx hb dX8_scan_103 (by decide) ?_
    refine lv_sipush (v := 2000) hx hb dX8_scan_104 (by decide) ?_
    refine lv_lconst (v := 0) hx hb dX8_scan_107 (by decide) ?_
    refine cs_callv0 (cs_runV hx hb hml hown hK hO hT 9 hk21_ (by decide) rfl (c_X8_put h) rfl rfl klX8_64 ki_X8_put ks_X8_put kn_X8 kc_X8_put 3 ⟨rfl, by decide, by decide, by decide +kernel⟩ ⟨by decide, by decide⟩ rfl hl.1 rfl (hw_cat8 (Nat.le_of_ble_eq_true rfl)) ⟨(Nat.le_refl _), (Nat.le_refl _)⟩ dX8_scan_108) hT (fun S23 H locs h_ hT_ => ?_)
    replace h := h_
    replace hT := hT_
    refine lv_goto (tgt := 124) hx hb dX8_scan_111 (by decide) ?_
    exact t_X8_scan_124 hC hin hO S23 _ _ _ h hT (lv_sub hl [] rfl)
end
def w_X8_scan_59 (post : cs_S → Prop) (G : Nat → Nat) (k22 : cs_S → Nat → Int32 → Prop) (S : cs_S) (x0 : Nat) (x3 : Int32) : Prop := k22 S x0 (x3 + 1)
section
variable {p : Program} {l : Launch} {e : Env} {s : State} {m : MethodId} {args : Array Value} {below : List Frame} {meth : Method} {c : Code} {P : hw_G} {G : Nat → Nat} {A : Nat → Prop}
set_option maxRecDepth 100000 in
set_option maxHeartbeats 4000000 in
theorem t_X8_scan_59 {post : cs_S → Prop} {k22 : cs_S → Nat → Int32 → Prop} (hC : rf_C P RX8 p s m meth c cX8_scan 5 none) (hin : meth.name = yX8_scan.name) (hO : cs_O G A s s.heap) (hk22 : ∀ (S : cs_S) (x0 : Nat) (x3 : Int32) (H : Heap) (locs : List Loc) (ls : Array Slot), k22 S x0 x3 → cs_T P s A S H locs → lv_has ls 5 [(0, .ref x0), (3, .int x3)] → W p l e rm_X8_scan s m args below meth c H locs 0 0 (MQ below (cs_Qv P A post) args s 0 0 A) (F0 m 22 ls [])) (S : cs_S) (x0 : Nat) (x3 : Int32) (H : Heap) (locs : List Loc) (ls : Array Slot) (h : w_X8_scan_59 post G k22 S x0 x3) (hT : cs_T P s A S H locs) (hl : lv_has ls 5 [(0, .ref x0), (3, .int x3)]) : W p l e rm_X8_scan s m args below meth c H locs 0 0 (MQ below (cs_Qv P A post) args s 0 0 A) (F0 m 59 ls []) := by
  obtain ⟨hx, hb, hml, hown, hK, -, -⟩ := id hC
  refine lv_iinc (v := x3 + 1) (lv' := [(3, _), (0, _)]) hx hb dX8_scan_59 hl (k := 1) rfl rfl (by decide) rfl (fun ls hl_ => ?_)
  replace hl := hl_
  refine lv_goto (tgt := 22) hx hb dX8_scan_62 (by decide) ?_
  exact hk22 S x0 (x3 + 1) _ _ _ h hT (lv_sub hl [1, 0] rfl)
end
def w_X8_scan_22 (post : cs_S → Prop) (G : Nat → Nat) : Nat → cs_S → Nat → Int32 → Prop
  | 0, _, _, _ => False
  | n + 1, S, x0, x3 => cs_k S x0 = 10 ∧ ((cs_i S 905 x0) ≤ x3 → w_X8_scan_92 post G S x0) ∧ (¬ (cs_i S 905 x0) ≤ x3 → (2000 ≤ x3 → w_X8_scan_92 post G S x0) ∧ (¬ 2000 ≤ x3 → ∀ r25, r25 = cs_r S 904 x0 → ∃ b26, r25 = some b26 ∧ cs_k S b26 = 20 ∧ vp_in x3 (cs_n S b26) ∧ ((cs_ai S b26 x3.toNatClampNeg) = 32 → w_X8_scan_59 post G (w_X8_scan_22 post G n) S x0 x3) ∧ (¬ (cs_ai S b26 x3.toNatClampNeg) = 32 → ∀ r28, r28 = cs_r S 904 x0 → ∃ b29, r28 = some b29 ∧ cs_k S b29 = 20 ∧ vp_in x3 (cs_n S b29) ∧ (¬ (cs_ai S b29 x3.toNatClampNeg) = 10 → wp_X8_scanToken (fun r31 S31 => (x3 < r31 → w_X8_scan_22 post G n S31 x0 r31) ∧ (¬ x3 < r31 → cs_k S31 x0 = 10 ∧ wp_X8_put (fun S32 => post S32) G S31 x0 0 x3 0)) G S x0 x3) ∧ ((cs_ai S b29 x3.toNatClampNeg) = 10 → w_X8_scan_59 post G (w_X8_scan_22 post G n) S x0 x3))))
section
variable {p : Program} {l : Launch} {e : Env} {s : State} {m : MethodId} {args : Array Value} {below : List Frame} {meth : Method} {c : Code} {P : hw_G} {G : Nat → Nat} {A : Nat → Prop}
set_option maxRecDepth 100000 in
set_option maxHeartbeats 4000000 in
theorem t_X8_scan_22 {post : cs_S → Prop} (hC : rf_C P RX8 p s m meth c cX8_scan 5 none) (hin : meth.name = yX8_scan.name) (hO : cs_O G A s s.heap) : ∀ (n : Nat) (S : cs_S) (x0 : Nat) (x3 : Int32) (H : Heap) (locs : List Loc) (ls : Array Slot), w_X8_scan_22 post G n S x0 x3 → cs_T P s A S H locs → lv_has ls 5 [(0, .ref x0), (3, .int x3)] → W p l e rm_X8_scan s m args below meth c H locs 0 0 (MQ below (cs_Qv P A post) args s 0 0 A) (F0 m 22 ls []) := by
  obtain ⟨hx, hb, hml, hown, hK, -, -⟩ := id hC
  intro n
  induction n with
  | zero => intro S x0 x3 H locs ls h; exact False.elim h
  | succ n ih =>
    intro S x0 x3 H locs ls h hT hl
    refine lv_iload_n hx hb dX8_scan_22 rfl (lv_at hl 1 rfl) ?_
    refine lv_aload_n (x := x0) hx hb dX8_scan_23 rfl (lv_at hl 0 rfl) ?_
    obtain ⟨hk24_, h⟩ := h
    refine cs_get hx hb hK hT hown 9 hk24_ (by decide) rfl 5 (by decide) kfX8_53 (v := .int (cs_i S 905 x0)) rfl dX8_scan_24 ?_
    refine lv_icmp_ge (tgt := 92) hx hb dX8_scan_27 (by decide) (fun hc => ?_) (fun hc => ?_)
    · replace h := h.1 hc
      exact t_X8_scan_92 hC hin hO S x0 _ _ _ h hT (lv_sub hl [0] rfl)
    · replace h := h.2 hc
      refine lv_iload_n hx hb dX8_scan_30 rfl (lv_at hl 1 rfl) ?_
      refine lv_sipush (v := 2000) hx hb dX8_scan_31 (by decide) ?_
      refine lv_icmp_ge (tgt := 92) hx hb dX8_scan_34 (by decide) (fun hc => ?_) (fun hc => ?_)
      · replace h := h.1 hc
        exact t_X8_scan_92 hC hin hO S x0 _ _ _ h hT (lv_sub hl [0] rfl)
      · replace h := h.2 hc
        refine lv_aload_n (x := x0) hx hb dX8_scan_37 rfl (lv_at hl 0 rfl) ?_
        refine cs_get hx hb hK hT hown 9 hk24_ (by decide) rfl 4 (by decide) kfX8_28 (v := va_rf (cs_r S 904 x0)) rfl dX8_scan_38 ?_
        refine hw_topr (fun r25 er25 => ?_)
        replace h := h r25 er25
        refine lv_iload_n hx hb dX8_scan_41 rfl (lv_at hl 1 rfl) ?_
        obtain ⟨b26, rfl, h⟩ := h
        obtain ⟨hk27_, h⟩ := h
        obtain ⟨hi, h⟩ := h
        refine cs_iald hx hb hK hT hk27_ hi dX8_scan_42 ?_
        refine lv_bipush (v := 32) hx hb dX8_scan_43 (by decide) ?_
        refine lv_icmp_eq (tgt := 59) hx hb dX8_scan_45 (by decide) (fun hc => ?_) (fun hc => ?_)
        · replace h := h.1 hc
          exact t_X8_scan_59 hC hin hO ih S x0 x3 _ _ _ h hT (lv_sub hl [0, 1] rfl)
        · replace h := h.2 hc
          refine lv_aload_n (x := x0) hx hb dX8_scan_48 rfl (lv_at hl 0 rfl) ?_
          refine cs_get hx hb hK hT hown 9 hk24_ (by decide) rfl 4 (by decide) kfX8_28 (v := va_rf (cs_r S 904 x0)) rfl dX8_scan_49 ?_
          refine hw_topr (fun r28 er28 => ?_)
          replace h := h r28 er28
          refine lv_iload_n hx hb dX8_scan_52 rfl (lv_at hl 1 rfl) ?_
          obtain ⟨b29, rfl, h⟩ := h
          obtain ⟨hk30_, h⟩ := h
          obtain ⟨hi, h⟩ := h
          refine cs_iald hx hb hK hT hk30_ hi dX8_scan_53 ?_
          refine lv_bipush (v := 10) hx hb dX8_scan_54 (by decide) ?_
          refine lv_icmp_ne (tgt := 65) hx hb dX8_scan_56 (by decide) (fun hc => ?_) (fun hc => ?_)
          · replace h := h.1 hc
            refine lv_aload_n (x := x0) hx hb dX8_scan_65 rfl (lv_at hl 0 rfl) ?_
            refine lv_iload_n hx hb dX8_scan_66 rfl (lv_at hl 1 rfl) ?_
            refine cs_calli0 (cs_runV hx hb hml hown hK hO hT 9 hk24_ (by decide) rfl (c_X8_scanToken h) rfl rfl klX8_60 ki_X8_scanToken ks_X8_scanToken kn_X8 kc_X8_scanToken 1 ⟨rfl, by decide, by decide, by decide +kernel⟩ ⟨by decide, by decide⟩ rfl hl.1 rfl (hw_cat8 (Nat.le_of_ble_eq_true rfl)) ⟨(Nat.le_refl _), (Nat.le_refl _)⟩ dX8_scan_67) hT (fun r31 S31 H locs h_ hT_ => ?_)
            replace h := h_
            replace hT := hT_
            refine lv_istore (lv' := [(4, _), (0, _), (3, _)]) hx hb dX8_scan_70 hl (by decide) rfl (fun ls hl_ => ?_)
            replace hl := hl_
            refine lv_iload hx hb dX8_scan_72 (lv_at hl 0 rfl) ?_
            refine lv_iload_n hx hb dX8_scan_74 rfl (lv_at hl 2 rfl) ?_
            refine lv_icmp_gt (tgt := 86) hx hb dX8_scan_75 (by decide) (fun hc => ?_) (fun hc => ?_)
            · replace h := h.1 hc
              refine lv_iload hx hb dX8_scan_86 (lv_at hl 0 rfl) ?_
              refine lv_istore_n (lv' := [(3, _), (4, _), (0, _)]) hx hb dX8_scan_88 rfl hl (by decide) rfl (fun ls hl_ => ?_)
              replace hl := hl_
              refine lv_goto (tgt := 22) hx hb dX8_scan_89 (by decide) ?_
              exact ih S31 x0 r31 _ _ _ h hT (lv_sub hl [2, 0] rfl)
            · replace h := h.2 hc
              refine lv_aload_n (x := x0) hx hb dX8_scan_78 rfl (lv_at hl 1 rfl) ?_
              refine lv_iconst (v := 0) hx hb dX8_scan_79 (by decide) ?_
              refine lv_iload_n hx hb dX8_scan_80 rfl (lv_at hl 2 rfl) ?_
              refine lv_lconst (v := 0) hx hb dX8_scan_81 (by decide) ?_
              obtain ⟨hk33_, h⟩ := h
              refine cs_callv0 (cs_runV hx hb hml hown hK hO hT 9 hk33_ (by decide) rfl (c_X8_put h) rfl rfl klX8_64 ki_X8_put ks_X8_put kn_X8 kc_X8_put 3 ⟨rfl, by decide, by decide, by decide +kernel⟩ ⟨by decide, by decide⟩ rfl hl.1 rfl (hw_cat8 (Nat.le_of_ble_eq_true rfl)) ⟨(Nat.le_refl _), (Nat.le_refl _)⟩ dX8_scan_82) hT (fun S32 H locs h_ hT_ => ?_)
              replace h := h_
              replace hT := hT_
              exact cs_vret hC hT h dX8_scan_85 (Nat.le_refl _) (Nat.le_refl _)
          · replace h := h.2 hc
            exact t_X8_scan_59 hC hin hO ih S x0 x3 _ _ _ h hT (lv_sub hl [0, 1] rfl)
end
def wp_X8_scan (post : cs_S → Prop) (G : Nat → Nat) (S : cs_S) (o : Nat) (p1 : Option Nat) (p2 : Int32) : Prop := cs_k S o = 10 ∧ ∀ S35, S35 = cs_ur S 904 o p1 → ∃ b36, p1 = some b36 ∧ cs_k S35 b36 = 20 ∧ cs_k S35 o = 10 ∧ ∀ S39, S39 = cs_ui S35 905 o (if Int32.ofNat (cs_n S35 b36) < p2 then Int32.ofNat (cs_n S35 b36) else p2) → cs_k S39 o = 10 ∧ ∀ S41, S41 = cs_ui S39 906 o 0 → ∃ n9, w_X8_scan_22 post G n9 S41 o 0
set_option maxRecDepth 100000 in
set_option maxHeartbeats 4000000 in
theorem c_X8_scan {l : Launch} {P : hw_G} {G : Nat → Nat} {S : cs_S} {sz : Nat} {o : Nat} {p1 : Option Nat} {p2 : Int32} {post : cs_S → Prop} (h : wp_X8_scan post G S o p1 p2) : Met l yX8_scan [Cond.code yX8_scan cX8_scan 5 none] rm_X8_scan (cs_Pc P G S sz [.ref o, va_rf p1, .int p2]) (cs_Qv P (cs_A S sz) post) 0 0 (cs_A S sz) := by
  refine cs_met (by decide) rfl (by cases p1 <;> exact Nat.le_of_ble_eq_true rfl) ?_
  intro p e s m below meth c ls hC hin hO hT hl
  obtain ⟨hx, hb, hml, hown, hK, -, -⟩ := id hC
  replace hl : lv_has ls 5 [(0, .ref o), (1, va_rf p1), (2, .int p2)] := by cases p1 <;> exact hl
  refine lv_aload_n (x := o) hx hb dX8_scan_0 rfl (lv_at hl 0 rfl) ?_
  refine hw_aload_n (x := p1) hx hb dX8_scan_1 rfl (lv_at hl 1 rfl) ?_
  obtain ⟨hk34_, h⟩ := h
  refine cs_putr (x := p1) hx hb hK hT hown 9 hk34_ (by decide) rfl 4 (by decide) kfX8_28 rfl (tyX8_ok 4 (by decide)) rfl 904 rfl dX8_scan_2 (fun H locs hT_ => ?_)
  replace hT := hT_
  obtain ⟨S35, eS35⟩ : ∃ z, z = cs_ur S 904 o p1 := ⟨_, rfl⟩
  rw [← eS35] at hT
  replace h := h S35 eS35
  refine lv_aload_n (x := o) hx hb dX8_scan_5 rfl (lv_at hl 0 rfl) ?_
  refine lv_iload_n hx hb dX8_scan_6 rfl (lv_at hl 2 rfl) ?_
  refine hw_aload_n (x := p1) hx hb dX8_scan_7 rfl (lv_at hl 1 rfl) ?_
  obtain ⟨b36, rfl, h⟩ := h
  obtain ⟨hk37_, h⟩ := h
  refine cs_alen hx hb hK hT 20 hk37_ (by decide) (by decide) dX8_scan_8 ?_
  refine va_mmin hx hb (hml.trans hl.1.symm) hown (hK.word klX8_47m rfl) (hK.word ki_mmin rfl) (hK.word kn_J9 rfl) (hK.word kc_mmin rfl) (Nat.le_of_ble_eq_true rfl) (hw_catN (Nat.le_of_ble_eq_true rfl) (Nat.le_of_ble_eq_true rfl)) (Nat.le_refl _) (Nat.le_refl _) dX8_scan_9 ?_
  obtain ⟨hk38_, h⟩ := h
  refine cs_puti (x := (if Int32.ofNat (cs_n S35 b36) < p2 then Int32.ofNat (cs_n S35 b36) else p2)) hx hb hK hT hown 9 hk38_ (by decide) rfl 5 (by decide) kfX8_53 rfl (tyX8_ok 5 (by decide)) rfl 905 rfl dX8_scan_12 (fun H locs hT_ => ?_)
  replace hT := hT_
  obtain ⟨S39, eS39⟩ : ∃ z, z = cs_ui S35 905 o (if Int32.ofNat (cs_n S35 b36) < p2 then Int32.ofNat (cs_n S35 b36) else p2) := ⟨_, rfl⟩
  rw [← eS39] at hT
  replace h := h S39 eS39
  refine lv_aload_n (x := o) hx hb dX8_scan_15 rfl (lv_at hl 0 rfl) ?_
  refine lv_iconst (v := 0) hx hb dX8_scan_16 (by decide) ?_
  obtain ⟨hk40_, h⟩ := h
  refine cs_puti (x := 0) hx hb hK hT hown 9 hk40_ (by decide) rfl 6 (by decide) kfX8_57 rfl (tyX8_ok 6 (by decide)) rfl 906 rfl dX8_scan_17 (fun H locs hT_ => ?_)
  replace hT := hT_
  obtain ⟨S41, eS41⟩ : ∃ z, z = cs_ui S39 906 o 0 := ⟨_, rfl⟩
  rw [← eS41] at hT
  replace h := h S41 eS41
  refine lv_iconst (v := 0) hx hb dX8_scan_20 (by decide) ?_
  refine lv_istore_n (lv' := [(3, _), (0, _), (1, _), (2, _)]) hx hb dX8_scan_21 rfl hl (by decide) rfl (fun ls hl_ => ?_)
  replace hl := hl_
  obtain ⟨n9, h⟩ := h
  exact t_X8_scan_22 hC hin hO n9 S41 o 0 _ _ _ h hT (lv_sub hl [1, 0] rfl)
/-! Jxa1e45_init_da8c8 -/
abbrev rm_Jxa1e45_init_da8c8 : Room := { frames := 1, cells := 0, slots := 0, locals := 24 }
def wp_Jxa1e45_init_da8c8 (post : cs_S → Prop) (G : Nat → Nat) (S : cs_S) (o : Nat) : Prop := post S
set_option maxRecDepth 100000 in
set_option maxHeartbeats 4000000 in
theorem c_Jxa1e45_init_da8c8 {l : Launch} {P : hw_G} {G : Nat → Nat} {S : cs_S} {sz : Nat} {o : Nat} {post : cs_S → Prop} (h : wp_Jxa1e45_init_da8c8 post G S o) : Met l yJxa1e45_init_da8c8 [Cond.code yJxa1e45_init_da8c8 cJxa1e45_init_da8c8 1 none] rm_Jxa1e45_init_da8c8 (cs_Pc P G S sz [.ref o]) (cs_Qv P (cs_A S sz) post) 0 0 (cs_A S sz) := by
  refine cs_met (by decide) rfl (Nat.le_of_ble_eq_true rfl) ?_
  intro p e s m below meth c ls hC hin hO hT hl
  obtain ⟨hx, hb, hml, hown, hK, -, -⟩ := id hC
  replace hl : lv_has ls 1 [(0, .ref o)] := hl
  refine lv_aload_n (x := o) hx hb dJxa1e45_init_da8c8_0 rfl (lv_at hl 0 rfl) ?_
  refine cs_objInit hx hb hml hown hK hl.1 klJxa1e45_1 ki_obj kc_obj dJxa1e45_init_da8c8_1 (Nat.le_of_ble_eq_true rfl) (hw_catN (Nat.le_of_ble_eq_true rfl) (Nat.le_of_ble_eq_true rfl)) ?_
  exact cs_vret hC hT h dJxa1e45_init_da8c8_4 (Nat.le_refl _) (Nat.le_refl _)
/-! Jxc12de_init_da8c8 -/
abbrev rm_Jxc12de_init_da8c8 : Room := { frames := 2, cells := 0, slots := 0, locals := 44 }
def wp_Jxc12de_init_da8c8 (post : cs_S → Prop) (G : Nat → Nat) (S : cs_S) (o : Nat) : Prop := wp_Jxa1e45_init_da8c8 (fun S4 => cs_k S4 o = 1 ∧ ∀ S6, S6 = cs_ui S4 0 o 0 → post S6) G S o
set_option maxRecDepth 100000 in
set_option maxHeartbeats 4000000 in
theorem c_Jxc12de_init_da8c8 {l : Launch} {P : hw_G} {G : Nat → Nat} {S : cs_S} {sz : Nat} {o : Nat} {post : cs_S → Prop} (h : wp_Jxc12de_init_da8c8 post G S o) : Met l yJxc12de_init_da8c8 [Cond.code yJxc12de_init_da8c8 cJxc12de_init_da8c8 1 none] rm_Jxc12de_init_da8c8 (cs_Pc P G S sz [.ref o]) (cs_Qv P (cs_A S sz) post) 0 0 (cs_A S sz) := by
  refine cs_met (by decide) rfl (Nat.le_of_ble_eq_true rfl) ?_
  intro p e s m below meth c ls hC hin hO hT hl
  obtain ⟨hx, hb, hml, hown, hK, -, -⟩ := id hC
  replace hl : lv_has ls 1 [(0, .ref o)] := hl
  refine lv_aload_n (x := o) hx hb dJxc12de_init_da8c8_0 rfl (lv_at hl 0 rfl) ?_
  refine cs_callv0 (cs_runI hx hb hml hown hK hO hT (c_Jxa1e45_init_da8c8 h) rfl rfl klJxc12de_1 ki_Jxa1e45_init_da8c8 kn_Jxa1e45 kc_Jxa1e45_init_da8c8 rfl 0 ⟨by decide, by decide, by decide +kernel⟩ ⟨by decide, by decide⟩ rfl hl.1 rfl (hw_cat8 (Nat.le_of_ble_eq_true rfl)) ⟨(Nat.le_refl _), (Nat.le_refl _)⟩ dJxc12de_init_da8c8_1) hT (fun S4 H locs h_ hT_ => ?_)
  replace h := h_
  replace hT := hT_
  refine lv_aload_n (x := o) hx hb dJxc12de_init_da8c8_4 rfl (lv_at hl 0 rfl) ?_
  refine lv_iconst (v := 0) hx hb dJxc12de_init_da8c8_5 (by decide) ?_
  obtain ⟨hk5_, h⟩ := h
  refine cs_puti (x := 0) hx hb hK hT hown 0 hk5_ (by decide) rfl 0 (by decide) kfJxc12de_7 rfl (tyJx4a65c_ok 0 (by decide)) rfl 0 rfl dJxc12de_init_da8c8_6 (fun H locs hT_ => ?_)
  replace hT := hT_
  obtain ⟨S6, eS6⟩ : ∃ z, z = cs_ui S4 0 o 0 := ⟨_, rfl⟩
  rw [← eS6] at hT
  replace h := h S6 eS6
  exact cs_vret hC hT h dJxc12de_init_da8c8_9 (Nat.le_refl _) (Nat.le_refl _)
/-! Jx4a65c_init_da8c8 -/
abbrev rm_Jx4a65c_init_da8c8 : Room := { frames := 3, cells := 0, slots := 0, locals := 64 }
def wp_Jx4a65c_init_da8c8 (post : cs_S → Prop) (G : Nat → Nat) (S : cs_S) (o : Nat) : Prop := wp_Jxc12de_init_da8c8 (fun S4 => cs_k S4 o = 1 ∧ ∀ S6, S6 = cs_ur S4 1 o (some (G 1)) → post S6) G S o
set_option maxRecDepth 100000 in
set_option maxHeartbeats 4000000 in
theorem c_Jx4a65c_init_da8c8 {l : Launch} {P : hw_G} {G : Nat → Nat} {S : cs_S} {sz : Nat} {o : Nat} {post : cs_S → Prop} (h : wp_Jx4a65c_init_da8c8 post G S o) : Met l yJx4a65c_init_da8c8 [Cond.code yJx4a65c_init_da8c8 cJx4a65c_init_da8c8 1 none] rm_Jx4a65c_init_da8c8 (cs_Pc P G S sz [.ref o]) (cs_Qv P (cs_A S sz) post) 0 0 (cs_A S sz) := by
  refine cs_met (by decide) rfl (Nat.le_of_ble_eq_true rfl) ?_
  intro p e s m below meth c ls hC hin hO hT hl
  obtain ⟨hx, hb, hml, hown, hK, -, -⟩ := id hC
  replace hl : lv_has ls 1 [(0, .ref o)] := hl
  refine lv_aload_n (x := o) hx hb dJx4a65c_init_da8c8_0 rfl (lv_at hl 0 rfl) ?_
  refine cs_callv0 (cs_runI hx hb hml hown hK hO hT (c_Jxc12de_init_da8c8 h) rfl rfl klJx4a65c_1 ki_Jxc12de_init_da8c8 kn_Jxc12de kc_Jxc12de_init_da8c8 rfl 0 ⟨by decide, by decide, by decide +kernel⟩ ⟨by decide, by decide⟩ rfl hl.1 rfl (hw_cat8 (Nat.le_of_ble_eq_true rfl)) ⟨(Nat.le_refl _), (Nat.le_refl _)⟩ dJx4a65c_init_da8c8_1) hT (fun S4 H locs h_ hT_ => ?_)
  replace h := h_
  replace hT := hT_
  refine lv_aload_n (x := o) hx hb dJx4a65c_init_da8c8_4 rfl (lv_at hl 0 rfl) ?_
  refine cs_gets hx hb hO.2.1 hK hT hown kfJx4a65c_39 dJx4a65c_init_da8c8_5 ?_
  obtain ⟨hk5_, h⟩ := h
  refine cs_putr (x := (some (G 1))) hx hb hK hT hown 0 hk5_ (by decide) rfl 1 (by decide) kfJx4a65c_9 rfl (tyJx4a65c_ok 1 (by decide)) rfl 1 rfl dJx4a65c_init_da8c8_8 (fun H locs hT_ => ?_)
  replace hT := hT_
  obtain ⟨S6, eS6⟩ : ∃ z, z = cs_ur S4 1 o (some (G 1)) := ⟨_, rfl⟩
  rw [← eS6] at hT
  replace h := h S6 eS6
  exact cs_vret hC hT h dJx4a65c_init_da8c8_11 (Nat.le_refl _) (Nat.le_refl _)
/-! X10_init -/
abbrev rm_X10_init (mc ms : Nat) : Room := { frames := 4, cells := mc, slots := ms, locals := 84 }
def wp_X10_init (post : cs_S → Prop) (G : Nat → Nat) (mc ms : Nat) (S : cs_S) (o : Nat) (p1 : Option Nat) (p2 : Int32) : Prop := cs_k S o = 12 ∧ ∀ S17, S17 = cs_ur S 1100 o p1 → ∃ b18, p1 = some b18 ∧ cs_k S17 b18 = 22 ∧ cs_k S17 o = 12 ∧ ∀ S21, S21 = cs_ui S17 1101 o (if Int32.ofNat (cs_n S17 b18) < p2 then Int32.ofNat (cs_n S17 b18) else p2) → ¬ (64 : Int32) < 0 ∧ (64 : Int32).toNatClampNeg * 4 ≤ 536870912 ∧ 0 + 1 ≤ mc ∧ 0 + (64 : Int32).toNatClampNeg ≤ ms ∧ ∀ q22, cs_k S21 q22 = 0 → ∀ S23, S23 = cs_newA S21 q22 23 (64 : Int32).toNatClampNeg → cs_k S23 o = 12 ∧ ∀ S25, S25 = cs_ur S23 1102 o (some q22) → 0 + 1 + 1 ≤ mc ∧ 0 + (64 : Int32).toNatClampNeg + 3 ≤ ms ∧ ∀ q26, cs_k S25 q26 = 0 → ∀ S27, S27 = cs_new S25 q26 0 → wp_Jx4a65c_init_da8c8 (fun S28 => cs_k S28 o = 12 ∧ ∀ S30, S30 = cs_ur S28 1103 o (some q26) → post S30) G S27 q26
set_option maxRecDepth 100000 in
set_option maxHeartbeats 4000000 in
theorem c_X10_init {l : Launch} {P : hw_G} {G : Nat → Nat} {S : cs_S} {sz : Nat} {mc ms : Nat} {o : Nat} {p1 : Option Nat} {p2 : Int32} {post : cs_S → Prop} (h : wp_X10_init post G mc ms S o p1 p2) : Met l yX10_init [Cond.code yX10_init cX10_init 3 none] (rm_X10_init mc ms) (cs_Pc P G S sz [.ref o, va_rf p1, .int p2]) (cs_Qv P (cs_A S sz) post) mc ms (cs_A S sz) := by
  refine cs_met (by decide) rfl (by cases p1 <;> exact Nat.le_of_ble_eq_true rfl) ?_
  intro p e s m below meth c ls hC hin hO hT hl
  obtain ⟨hx, hb, hml, hown, hK, -, -⟩ := id hC
  replace hl : lv_has ls 3 [(0, .ref o), (1, va_rf p1), (2, .int p2)] := by cases p1 <;> exact hl
  refine lv_aload_n (x := o) hx hb dX10_init_0 rfl (lv_at hl 0 rfl) ?_
  refine cs_objInit hx hb hml hown hK hl.1 klX10_3 ki_obj kc_obj dX10_init_1 (Nat.le_of_ble_eq_true rfl) (hw_catN (Nat.le_of_ble_eq_true rfl) (Nat.le_of_ble_eq_true rfl)) ?_
  refine lv_aload_n (x := o) hx hb dX10_init_4 rfl (lv_at hl 0 rfl) ?_
  refine hw_aload_n (x := p1) hx hb dX10_init_5 rfl (lv_at hl 1 rfl) ?_
  obtain ⟨hk16_, h⟩ := h
  refine cs_putFr (x := p1) hx hb hK hT hown hin 11 hk16_ (by decide) rfl 0 (by decide) kfX10_9 rfl rfl (tyX10_ok 0 (by decide)) rfl 1100 rfl dX10_init_6 (fun H locs hT_ => ?_)
  replace hT := hT_
  obtain ⟨S17, eS17⟩ : ∃ z, z = cs_ur S 1100 o p1 := ⟨_, rfl⟩
  rw [← eS17] at hT
  replace h := h S17 eS17
  refine lv_aload_n (x := o) hx hb dX10_init_9 rfl (lv_at hl 0 rfl) ?_
  refine lv_iload_n hx hb dX10_init_10 rfl (lv_at hl 2 rfl) ?_
  refine hw_aload_n (x := p1) hx hb dX10_init_11 rfl (lv_at hl 1 rfl) ?_
  obtain ⟨b18, rfl, h⟩ := h
  obtain ⟨hk19_, h⟩ := h
  refine cs_alen hx hb hK hT 22 hk19_ (by decide) (by decide) dX10_init_12 ?_
  refine va_mmin hx hb (hml.trans hl.1.symm) hown (hK.word klX10_15m rfl) (hK.word ki_mmin rfl) (hK.word kn_J9 rfl) (hK.word kc_mmin rfl) (Nat.le_of_ble_eq_true rfl) (hw_catN (Nat.le_of_ble_eq_true rfl) (Nat.le_of_ble_eq_true rfl)) (Nat.zero_le _) (Nat.zero_le _) dX10_init_13 ?_
  obtain ⟨hk20_, h⟩ := h
  refine cs_putFi (x := (if Int32.ofNat (cs_n S17 b18) < p2 then Int32.ofNat (cs_n S17 b18) else p2)) hx hb hK hT hown hin 11 hk20_ (by decide) rfl 1 (by decide) kfX10_21 rfl rfl (tyX10_ok 1 (by decide)) rfl 1101 rfl dX10_init_16 (fun H locs hT_ => ?_)
  replace hT := hT_
  obtain ⟨S21, eS21⟩ : ∃ z, z = cs_ui S17 1101 o (if Int32.ofNat (cs_n S17 b18) < p2 then Int32.ofNat (cs_n S17 b18) else p2) := ⟨_, rfl⟩
  rw [← eS21] at hT
  replace h := h S21 eS21
  refine lv_aload_n (x := o) hx hb dX10_init_19 rfl (lv_at hl 0 rfl) ?_
  refine lv_bipush (v := 64) hx hb dX10_init_20 (by decide) ?_
  obtain ⟨hn1, hn2, hu22, hv22, h⟩ := h
  refine cs_anew hx hb hK hT hown 23 rfl kxX10_25 (by decide) (by decide) (by decide) hn1 hn2 hu22 hv22 dX10_init_22 (fun q22 H hq22 hT_ => ?_)
  replace h := h q22 hq22
  replace hT := hT_
  obtain ⟨S23, eS23⟩ : ∃ z, z = cs_newA S21 q22 23 (64 : Int32).toNatClampNeg := ⟨_, rfl⟩
  rw [← eS23] at hT
  replace h := h S23 eS23
  obtain ⟨hk24_, h⟩ := h
  refine cs_putFr (x := (some q22)) hx hb hK hT hown hin 11 hk24_ (by decide) rfl 2 (by decide) kfX10_27 rfl rfl (tyX10_ok 2 (by decide)) rfl 1102 rfl dX10_init_25 (fun H locs hT_ => ?_)
  replace hT := hT_
  obtain ⟨S25, eS25⟩ : ∃ z, z = cs_ur S23 1102 o (some q22) := ⟨_, rfl⟩
  rw [← eS25] at hT
  replace h := h S25 eS25
  refine lv_aload_n (x := o) hx hb dX10_init_28 rfl (lv_at hl 0 rfl) ?_
  obtain ⟨hu26, hv26, h⟩ := h
  refine cs_newo hx hb hK hT hown 0 (by decide) rfl tyJx4a65c_ok cs_df0 kxX10_31 kj_Jx4a65c kn_Jx4a65c hu26 hv26 dX10_init_29 (fun q26 H hq26 hT_ => ?_)
  replace h := h q26 hq26
  replace hT := hT_
  obtain ⟨S27, eS27⟩ : ∃ z, z = cs_new S25 q26 0 := ⟨_, rfl⟩
  rw [← eS27] at hT
  replace h := h S27 eS27
  refine lv_dup hx hb dX10_init_32 rfl ?_
  refine cs_callv0 (cs_runI hx hb hml hown hK hO hT (c_Jx4a65c_init_da8c8 h) rfl rfl klX10_33 ki_Jx4a65c_init_da8c8 kn_Jx4a65c kc_Jx4a65c_init_da8c8 rfl 0 ⟨by decide, by decide, by decide +kernel⟩ ⟨Nat.le_of_ble_eq_true rfl, Nat.le_of_ble_eq_true rfl⟩ rfl hl.1 rfl (hw_cat8 (Nat.le_of_ble_eq_true rfl)) ⟨hu26, hv26⟩ dX10_init_33) hT (fun S28 H locs h_ hT_ => ?_)
  replace h := h_
  replace hT := hT_
  obtain ⟨hk29_, h⟩ := h
  refine cs_putFr (x := (some q26)) hx hb hK hT hown hin 11 hk29_ (by decide) rfl 3 (by decide) kfX10_34 rfl rfl (tyX10_ok 3 (by decide)) rfl 1103 rfl dX10_init_36 (fun H locs hT_ => ?_)
  replace hT := hT_
  obtain ⟨S30, eS30⟩ : ∃ z, z = cs_ur S28 1103 o (some q26) := ⟨_, rfl⟩
  rw [← eS30] at hT
  replace h := h S30 eS30
  exact cs_vret hC hT h dX10_init_39 hu26 hv26
/-! Jx4a65c_size_8abf5 -/
abbrev rm_Jx4a65c_size_8abf5 : Room := { frames := 0, cells := 0, slots := 0, locals := 0 }
def wp_Jx4a65c_size_8abf5 (post : Int32 → cs_S → Prop) (G : Nat → Nat) (S : cs_S) (o : Nat) : Prop := cs_k S o = 1 ∧ post (cs_i S 2 o) S
set_option maxRecDepth 100000 in
set_option maxHeartbeats 4000000 in
theorem c_Jx4a65c_size_8abf5 {l : Launch} {P : hw_G} {G : Nat → Nat} {S : cs_S} {sz : Nat} {o : Nat} {post : Int32 → cs_S → Prop} (h : wp_Jx4a65c_size_8abf5 post G S o) : Met l yJx4a65c_size_8abf5 [Cond.code yJx4a65c_size_8abf5 cJx4a65c_size_8abf5 1 (some .int)] rm_Jx4a65c_size_8abf5 (cs_Pc P G S sz [.ref o]) (cs_Qi P (cs_A S sz) post) 0 0 (cs_A S sz) := by
  refine cs_met (by decide) rfl (Nat.le_of_ble_eq_true rfl) ?_
  intro p e s m below meth c ls hC hin hO hT hl
  obtain ⟨hx, hb, hml, hown, hK, -, -⟩ := id hC
  replace hl : lv_has ls 1 [(0, .ref o)] := hl
  refine lv_aload_n (x := o) hx hb dJx4a65c_size_8abf5_0 rfl (lv_at hl 0 rfl) ?_
  obtain ⟨hk2_, h⟩ := h
  refine cs_get hx hb hK hT hown 0 hk2_ (by decide) rfl 2 (by decide) kfJx4a65c_48 (v := .int (cs_i S 2 o)) rfl dJx4a65c_size_8abf5_1 ?_
  exact cs_iret hC hT h dJx4a65c_size_8abf5_4 (Nat.le_refl _) (Nat.le_refl _)
/-! X10_toldAt -/
abbrev rm_X10_toldAt : Room := { frames := 1, cells := 0, slots := 0, locals := 20 }
def w_X10_toldAt_30 (post : Option Nat → cs_S → Prop) (G : Nat → Nat) (S : cs_S) (y0 : Option Nat) : Prop := post y0 S
section
variable {p : Program} {l : Launch} {e : Env} {s : State} {m : MethodId} {args : Array Value} {below : List Frame} {meth : Method} {c : Code} {P : hw_G} {G : Nat → Nat} {A : Nat → Prop}
set_option maxRecDepth 100000 in
set_option maxHeartbeats 4000000 in
theorem t_X10_toldAt_30 {post : Option Nat → cs_S → Prop} (hC : rf_C P RX10 p s m meth c cX10_toldAt 2 (some (.object "WatchHouse$Alert"))) (hin : meth.name = yX10_toldAt.name) (hO : cs_O G A s s.heap) (S : cs_S) (y0 : Option Nat) (H : Heap) (locs : List Loc) (ls : Array Slot) (h : w_X10_toldAt_30 post G S y0) (hT : cs_T P s A S H locs) (hl : lv_has ls 2 []) : W p l e rm_X10_toldAt s m args below meth c H locs 0 0 (MQ below (cs_Qr P A post) args s 0 0 A) (F0 m 30 ls [va_rf y0]) := by
  obtain ⟨hx, hb, hml, hown, hK, -, -⟩ := id hC
  exact cs_aret (v := y0) hC (Or.inl ⟨_, rfl⟩) hT h dX10_toldAt_30 (Nat.le_refl _) (Nat.le_refl _)
end
def w_X10_toldAt_15 (post : Option Nat → cs_S → Prop) (G : Nat → Nat) (S : cs_S)  : Prop := w_X10_toldAt_30 post G S none
section
variable {p : Program} {l : Launch} {e : Env} {s : State} {m : MethodId} {args : Array Value} {below : List Frame} {meth : Method} {c : Code} {P : hw_G} {G : Nat → Nat} {A : Nat → Prop}
set_option maxRecDepth 100000 in
set_option maxHeartbeats 4000000 in
theorem t_X10_toldAt_15 {post : Option Nat → cs_S → Prop} (hC : rf_C P RX10 p s m meth c cX10_toldAt 2 (some (.object "WatchHouse$Alert"))) (hin : meth.name = yX10_toldAt.name) (hO : cs_O G A s s.heap) (S : cs_S)  (H : Heap) (locs : List Loc) (ls : Array Slot) (h : w_X10_toldAt_15 post G S ) (hT : cs_T P s A S H locs) (hl : lv_has ls 2 []) : W p l e rm_X10_toldAt s m args below meth c H locs 0 0 (MQ below (cs_Qr P A post) args s 0 0 A) (F0 m 15 ls []) := by
  obtain ⟨hx, hb, hml, hown, hK, -, -⟩ := id hC
  refine hw_null hx hb dX10_toldAt_15 ?_
  refine lv_goto (tgt := 30) hx hb dX10_toldAt_16 (by decide) ?_
  exact t_X10_toldAt_30 hC hin hO S none _ _ _ h hT (lv_sub hl [] rfl)
end
def wp_X10_toldAt (post : Option Nat → cs_S → Prop) (G : Nat → Nat) (S : cs_S) (o : Nat) (p1 : Int32) : Prop := (p1 < 0 → w_X10_toldAt_15 post G S) ∧ (¬ p1 < 0 → cs_k S o = 12 ∧ ∀ r9, r9 = cs_r S 1103 o → ∃ b10, r9 = some b10 ∧ cs_k S b10 = 1 ∧ wp_Jx4a65c_size_8abf5 (fun r11 S11 => (p1 < r11 → cs_k S11 o = 12 ∧ ∀ r14, r14 = cs_r S11 1103 o → False) ∧ (¬ p1 < r11 → w_X10_toldAt_15 post G S11)) G S b10)
set_option maxRecDepth 100000 in
set_option maxHeartbeats 4000000 in
theorem c_X10_toldAt {l : Launch} {P : hw_G} {G : Nat → Nat} {S : cs_S} {sz : Nat} {o : Nat} {p1 : Int32} {post : Option Nat → cs_S → Prop} (h : wp_X10_toldAt post G S o p1) : Met l yX10_toldAt [Cond.code yX10_toldAt cX10_toldAt 2 (some (.object "WatchHouse$Alert"))] rm_X10_toldAt (cs_Pc P G S sz [.ref o, .int p1]) (cs_Qr P (cs_A S sz) post) 0 0 (cs_A S sz) := by
  refine cs_met (by decide) rfl (Nat.le_of_ble_eq_true rfl) ?_
  intro p e s m below meth c ls hC hin hO hT hl
  obtain ⟨hx, hb, hml, hown, hK, -, -⟩ := id hC
  replace hl : lv_has ls 2 [(0, .ref o), (1, .int p1)] := hl
  refine lv_iload_n hx hb dX10_toldAt_0 rfl (lv_at hl 1 rfl) ?_
  refine lv_if_lt (tgt := 15) hx hb dX10_toldAt_1 (by decide) (fun hc => ?_) (fun hc => ?_)
  · replace h := h.1 hc
    exact t_X10_toldAt_15 hC hin hO S _ _ _ h hT (lv_sub hl [] rfl)
  · replace h := h.2 hc
    refine lv_iload_n hx hb dX10_toldAt_4 rfl (lv_at hl 1 rfl) ?_
    refine lv_aload_n (x := o) hx hb dX10_toldAt_5 rfl (lv_at hl 0 rfl) ?_
    obtain ⟨hk8_, h⟩ := h
    refine cs_get hx hb hK hT hown 11 hk8_ (by decide) rfl 3 (by decide) kfX10_34 (v := va_rf (cs_r S 1103 o)) rfl dX10_toldAt_6 ?_
    refine hw_topr (fun r9 er9 => ?_)
    replace h := h r9 er9
    obtain ⟨b10, rfl, h⟩ := h
    obtain ⟨hk12_, h⟩ := h
    refine cs_calli0 (cs_runV hx hb hml hown hK hO hT 0 hk12_ (by decide) rfl (c_Jx4a65c_size_8abf5 h) rfl rfl klX10_38 ki_Jx4a65c_size_8abf5 ks_Jx4a65c_size_8abf5 kn_Jx4a65c kc_Jx4a65c_size_8abf5 0 ⟨rfl, by decide, by decide, by decide +kernel⟩ ⟨by decide, by decide⟩ rfl hl.1 rfl (hw_cat8 (Nat.le_of_ble_eq_true rfl)) ⟨(Nat.le_refl _), (Nat.le_refl _)⟩ dX10_toldAt_9) hT (fun r11 S11 H locs h_ hT_ => ?_)
    replace h := h_
    replace hT := hT_
    refine lv_icmp_lt (tgt := 19) hx hb dX10_toldAt_12 (by decide) (fun hc => ?_) (fun hc => ?_)
    · replace h := h.1 hc
      refine lv_aload_n (x := o) hx hb dX10_toldAt_19 rfl (lv_at hl 0 rfl) ?_
      obtain ⟨hk13_, h⟩ := h
      refine cs_get hx hb hK hT hown 11 hk13_ (by decide) rfl 3 (by decide) kfX10_34 (v := va_rf (cs_r S11 1103 o)) rfl dX10_toldAt_20 ?_
      refine hw_topr (fun r14 er14 => ?_)
      replace h := h r14 er14
      refine lv_iload_n hx hb dX10_toldAt_23 rfl (lv_at hl 1 rfl) ?_
      exact h.elim
    · replace h := h.2 hc
      exact t_X10_toldAt_15 hC hin hO S11 _ _ _ h hT (lv_sub hl [] rfl)
/-! X10_latestAt -/
abbrev rm_X10_latestAt : Room := { frames := 0, cells := 0, slots := 0, locals := 0 }
def w_X10_latestAt_36 (post : Option Nat → cs_S → Prop) (G : Nat → Nat) (S : cs_S) (y0 : Option Nat) : Prop := post y0 S
section
variable {p : Program} {l : Launch} {e : Env} {s : State} {m : MethodId} {args : Array Value} {below : List Frame} {meth : Method} {c : Code} {P : hw_G} {G : Nat → Nat} {A : Nat → Prop}
set_option maxRecDepth 100000 in
set_option maxHeartbeats 4000000 in
theorem t_X10_latestAt_36 {post : Option Nat → cs_S → Prop} (hC : rf_C P RX10 p s m meth c cX10_latestAt 2 (some (.object "WatchHouse$Event"))) (hin : meth.name = yX10_latestAt.name) (hO : cs_O G A s s.heap) (S : cs_S) (y0 : Option Nat) (H : Heap) (locs : List Loc) (ls : Array Slot) (h : w_X10_latestAt_36 post G S y0) (hT : cs_T P s A S H locs) (hl : lv_has ls 2 []) : W p l e rm_X10_latestAt s m args below meth c H locs 0 0 (MQ below (cs_Qr P A post) args s 0 0 A) (F0 m 36 ls [va_rf y0]) := by
  obtain ⟨hx, hb, hml, hown, hK, -, -⟩ := id hC
  exact cs_aret (v := y0) hC (Or.inl ⟨_, rfl⟩) hT h dX10_latestAt_36 (Nat.le_refl _) (Nat.le_refl _)
end
def w_X10_latestAt_23 (post : Option Nat → cs_S → Prop) (G : Nat → Nat) (S : cs_S)  : Prop := w_X10_latestAt_36 post G S none
section
variable {p : Program} {l : Launch} {e : Env} {s : State} {m : MethodId} {args : Array Value} {below : List Frame} {meth : Method} {c : Code} {P : hw_G} {G : Nat → Nat} {A : Nat → Prop}
set_option maxRecDepth 100000 in
set_option maxHeartbeats 4000000 in
theorem t_X10_latestAt_23 {post : Option Nat → cs_S → Prop} (hC : rf_C P RX10 p s m meth c cX10_latestAt 2 (some (.object "WatchHouse$Event"))) (hin : meth.name = yX10_latestAt.name) (hO : cs_O G A s s.heap) (S : cs_S)  (H : Heap) (locs : List Loc) (ls : Array Slot) (h : w_X10_latestAt_23 post G S ) (hT : cs_T P s A S H locs) (hl : lv_has ls 2 []) : W p l e rm_X10_latestAt s m args below meth c H locs 0 0 (MQ below (cs_Qr P A post) args s 0 0 A) (F0 m 23 ls []) := by
  obtain ⟨hx, hb, hml, hown, hK, -, -⟩ := id hC
  refine hw_null hx hb dX10_latestAt_23 ?_
  refine lv_goto (tgt := 36) hx hb dX10_latestAt_24 (by decide) ?_
  exact t_X10_latestAt_36 hC hin hO S none _ _ _ h hT (lv_sub hl [] rfl)
end
def wp_X10_latestAt (post : Option Nat → cs_S → Prop) (G : Nat → Nat) (S : cs_S) (o : Nat) (p1 : Int32) : Prop := (p1 < 0 → w_X10_latestAt_23 post G S) ∧ (¬ p1 < 0 → cs_k S o = 12 ∧ ((cs_i S 1104 o) ≤ p1 → w_X10_latestAt_23 post G S) ∧ (¬ (cs_i S 1104 o) ≤ p1 → (((cs_i S 1104 o) - 64) ≤ p1 → ∀ r7, r7 = cs_r S 1102 o → ¬ (64 : Int32) = 0 ∧ ∃ b8, r7 = some b8 ∧ cs_k S b8 = 23 ∧ vp_in (p1 - p1 / 64 * 64) (cs_n S b8) ∧ ∀ r10, r10 = cs_ar S b8 (p1 - p1 / 64 * 64).toNatClampNeg → w_X10_latestAt_36 post G S r10) ∧ (¬ ((cs_i S 1104 o) - 64) ≤ p1 → w_X10_latestAt_23 post G S)))
set_option maxRecDepth 100000 in
set_option maxHeartbeats 4000000 in
theorem c_X10_latestAt {l : Launch} {P : hw_G} {G : Nat → Nat} {S : cs_S} {sz : Nat} {o : Nat} {p1 : Int32} {post : Option Nat → cs_S → Prop} (h : wp_X10_latestAt post G S o p1) : Met l yX10_latestAt [Cond.code yX10_latestAt cX10_latestAt 2 (some (.object "WatchHouse$Event"))] rm_X10_latestAt (cs_Pc P G S sz [.ref o, .int p1]) (cs_Qr P (cs_A S sz) post) 0 0 (cs_A S sz) := by
  refine cs_met (by decide) rfl (Nat.le_of_ble_eq_true rfl) ?_
  intro p e s m below meth c ls hC hin hO hT hl
  obtain ⟨hx, hb, hml, hown, hK, -, -⟩ := id hC
  replace hl : lv_has ls 2 [(0, .ref o), (1, .int p1)] := hl
  refine lv_iload_n hx hb dX10_latestAt_0 rfl (lv_at hl 1 rfl) ?_
  refine lv_if_lt (tgt := 23) hx hb dX10_latestAt_1 (by decide) (fun hc => ?_) (fun hc => ?_)
  · replace h := h.1 hc
    exact t_X10_latestAt_23 hC hin hO S _ _ _ h hT (lv_sub hl [] rfl)
  · replace h := h.2 hc
    refine lv_iload_n hx hb dX10_latestAt_4 rfl (lv_at hl 1 rfl) ?_
    refine lv_aload_n (x := o) hx hb dX10_latestAt_5 rfl (lv_at hl 0 rfl) ?_
    obtain ⟨hk6_, h⟩ := h
    refine cs_get hx hb hK hT hown 11 hk6_ (by decide) rfl 4 (by decide) kfX10_48 (v := .int (cs_i S 1104 o)) rfl dX10_latestAt_6 ?_
    refine lv_icmp_ge (tgt := 23) hx hb dX10_latestAt_9 (by decide) (fun hc => ?_) (fun hc => ?_)
    · replace h := h.1 hc
      exact t_X10_latestAt_23 hC hin hO S _ _ _ h hT (lv_sub hl [] rfl)
    · replace h := h.2 hc
      refine lv_iload_n hx hb dX10_latestAt_12 rfl (lv_at hl 1 rfl) ?_
      refine lv_aload_n (x := o) hx hb dX10_latestAt_13 rfl (lv_at hl 0 rfl) ?_
      refine cs_get hx hb hK hT hown 11 hk6_ (by decide) rfl 4 (by decide) kfX10_48 (v := .int (cs_i S 1104 o)) rfl dX10_latestAt_14 ?_
      refine lv_bipush (v := 64) hx hb dX10_latestAt_17 (by decide) ?_
      refine lv_isub hx hb dX10_latestAt_19 ?_
      refine lv_icmp_ge (tgt := 27) hx hb dX10_latestAt_20 (by decide) (fun hc => ?_) (fun hc => ?_)
      · replace h := h.1 hc
        refine lv_aload_n (x := o) hx hb dX10_latestAt_27 rfl (lv_at hl 0 rfl) ?_
        refine cs_get hx hb hK hT hown 11 hk6_ (by decide) rfl 2 (by decide) kfX10_27 (v := va_rf (cs_r S 1102 o)) rfl dX10_latestAt_28 ?_
        refine hw_topr (fun r7 er7 => ?_)
        replace h := h r7 er7
        refine lv_iload_n hx hb dX10_latestAt_31 rfl (lv_at hl 1 rfl) ?_
        refine lv_bipush (v := 64) hx hb dX10_latestAt_32 (by decide) ?_
        obtain ⟨hi, h⟩ := h
        refine lv_irem hx hb dX10_latestAt_34 hi ?_
        obtain ⟨b8, rfl, h⟩ := h
        obtain ⟨hk9_, h⟩ := h
        obtain ⟨hi, h⟩ := h
        refine cs_aald hx hb hK hT 23 hk9_ (by decide) rfl (by decide) hi dX10_latestAt_35 ?_
        refine hw_topr (fun r10 er10 => ?_)
        replace h := h r10 er10
        exact t_X10_latestAt_36 hC hin hO S r10 _ _ _ h hT (lv_sub hl [] rfl)
      · replace h := h.2 hc
        exact t_X10_latestAt_23 hC hin hO S _ _ _ h hT (lv_sub hl [] rfl)
/-! X10_leastDue -/
abbrev rm_X10_leastDue : Room := { frames := 1, cells := 0, slots := 0, locals := 20 }
def w_X10_leastDue_49 (post : Int32 → cs_S → Prop) (G : Nat → Nat) (k4 : cs_S → Nat → Int32 → Int32 → Int32 → Prop) (S : cs_S) (x0 : Nat) (x1 : Int32) (x2 : Int32) (x3 : Int32) : Prop := k4 S x0 x1 x2 (x3 + 1)
section
variable {p : Program} {l : Launch} {e : Env} {s : State} {m : MethodId} {args : Array Value} {below : List Frame} {meth : Method} {c : Code} {P : hw_G} {G : Nat → Nat} {A : Nat → Prop}
set_option maxRecDepth 100000 in
set_option maxHeartbeats 4000000 in
theorem t_X10_leastDue_49 {post : Int32 → cs_S → Prop} {k4 : cs_S → Nat → Int32 → Int32 → Int32 → Prop} (hC : rf_C P RX10 p s m meth c cX10_leastDue 5 (some .int)) (hin : meth.name = yX10_leastDue.name) (hO : cs_O G A s s.heap) (hk4 : ∀ (S : cs_S) (x0 : Nat) (x1 : Int32) (x2 : Int32) (x3 : Int32) (H : Heap) (locs : List Loc) (ls : Array Slot), k4 S x0 x1 x2 x3 → cs_T P s A S H locs → lv_has ls 5 [(0, .ref x0), (1, .int x1), (2, .int x2), (3, .int x3)] → W p l e rm_X10_leastDue s m args below meth c H locs 0 0 (MQ below (cs_Qi P A post) args s 0 0 A) (F0 m 4 ls [])) (S : cs_S) (x0 : Nat) (x1 : Int32) (x2 : Int32) (x3 : Int32) (H : Heap) (locs : List Loc) (ls : Array Slot) (h : w_X10_leastDue_49 post G k4 S x0 x1 x2 x3) (hT : cs_T P s A S H locs) (hl : lv_has ls 5 [(0, .ref x0), (1, .int x1), (2, .int x2), (3, .int x3)]) : W p l e rm_X10_leastDue s m args below meth c H locs 0 0 (MQ below (cs_Qi P A post) args s 0 0 A) (F0 m 49 ls []) := by
  obtain ⟨hx, hb, hml, hown, hK, -, -⟩ := id hC
  refine lv_iinc (v := x3 + 1) (lv' := [(3, _), (0, _), (1, _), (2, _)]) hx hb dX10_leastDue_49 hl (k := 3) rfl rfl (by decide) rfl (fun ls hl_ => ?_)
  replace hl := hl_
  refine lv_goto (tgt := 4) hx hb dX10_leastDue_52 (by decide) ?_
  exact hk4 S x0 x1 x2 (x3 + 1) _ _ _ h hT (lv_sub hl [1, 2, 3, 0] rfl)
end
def w_X10_leastDue_46 (post : Int32 → cs_S → Prop) (G : Nat → Nat) (k4 : cs_S → Nat → Int32 → Int32 → Int32 → Prop) (S : cs_S) (x0 : Nat) (x1 : Int32) (x3 : Int32) (x4 : Int32) : Prop := w_X10_leastDue_49 post G k4 S x0 x1 x4 x3
section
variable {p : Program} {l : Launch} {e : Env} {s : State} {m : MethodId} {args : Array Value} {below : List Frame} {meth : Method} {c : Code} {P : hw_G} {G : Nat → Nat} {A : Nat → Prop}
set_option maxRecDepth 100000 in
set_option maxHeartbeats 4000000 in
theorem t_X10_leastDue_46 {post : Int32 → cs_S → Prop} {k4 : cs_S → Nat → Int32 → Int32 → Int32 → Prop} (hC : rf_C P RX10 p s m meth c cX10_leastDue 5 (some .int)) (hin : meth.name = yX10_leastDue.name) (hO : cs_O G A s s.heap) (hk4 : ∀ (S : cs_S) (x0 : Nat) (x1 : Int32) (x2 : Int32) (x3 : Int32) (H : Heap) (locs : List Loc) (ls : Array Slot), k4 S x0 x1 x2 x3 → cs_T P s A S H locs → lv_has ls 5 [(0, .ref x0), (1, .int x1), (2, .int x2), (3, .int x3)] → W p l e rm_X10_leastDue s m args below meth c H locs 0 0 (MQ below (cs_Qi P A post) args s 0 0 A) (F0 m 4 ls [])) (S : cs_S) (x0 : Nat) (x1 : Int32) (x3 : Int32) (x4 : Int32) (H : Heap) (locs : List Loc) (ls : Array Slot) (h : w_X10_leastDue_46 post G k4 S x0 x1 x3 x4) (hT : cs_T P s A S H locs) (hl : lv_has ls 5 [(0, .ref x0), (1, .int x1), (3, .int x3), (4, .int x4)]) : W p l e rm_X10_leastDue s m args below meth c H locs 0 0 (MQ below (cs_Qi P A post) args s 0 0 A) (F0 m 46 ls []) := by
  obtain ⟨hx, hb, hml, hown, hK, -, -⟩ := id hC
  refine lv_iload hx hb dX10_leastDue_46 (lv_at hl 3 rfl) ?_
  refine lv_istore_n (lv' := [(2, _), (0, _), (1, _), (3, _), (4, _)]) hx hb dX10_leastDue_48 rfl hl (by decide) rfl (fun ls hl_ => ?_)
  replace hl := hl_
  exact t_X10_leastDue_49 hC hin hO hk4 S x0 x1 x4 x3 _ _ _ h hT (lv_sub hl [1, 2, 0, 3] rfl)
end
def w_X10_leastDue_4 (post : Int32 → cs_S → Prop) (G : Nat → Nat) : Nat → cs_S → Nat → Int32 → Int32 → Int32 → Prop
  | 0, _, _, _, _, _ => False
  | n + 1, S, x0, x1, x2, x3 => cs_k S x0 = 12 ∧ ((cs_i S 1101 x0) ≤ x3 → post x2 S) ∧ (¬ (cs_i S 1101 x0) ≤ x3 → ∀ r10, r10 = cs_r S 1100 x0 → ∃ b11, r10 = some b11 ∧ cs_k S b11 = 22 ∧ vp_in x3 (cs_n S b11) ∧ ∀ r13, r13 = cs_ar S b11 x3.toNatClampNeg → ∃ b14, r13 = some b14 ∧ cs_k S b14 = 9 ∧ wp_X7_nextDue (fun r15 S15 => (r15 = ((-1)) → w_X10_leastDue_49 post G (w_X10_leastDue_4 post G n) S15 x0 x1 x2 x3) ∧ (¬ r15 = ((-1)) → (x1 ≤ r15 → w_X10_leastDue_49 post G (w_X10_leastDue_4 post G n) S15 x0 x1 x2 x3) ∧ (¬ x1 ≤ r15 → (x2 = ((-1)) → w_X10_leastDue_46 post G (w_X10_leastDue_4 post G n) S15 x0 x1 x3 r15) ∧ (¬ x2 = ((-1)) → (x2 ≤ r15 → w_X10_leastDue_49 post G (w_X10_leastDue_4 post G n) S15 x0 x1 x2 x3) ∧ (¬ x2 ≤ r15 → w_X10_leastDue_46 post G (w_X10_leastDue_4 post G n) S15 x0 x1 x3 r15))))) G S b14)
section
variable {p : Program} {l : Launch} {e : Env} {s : State} {m : MethodId} {args : Array Value} {below : List Frame} {meth : Method} {c : Code} {P : hw_G} {G : Nat → Nat} {A : Nat → Prop}
set_option maxRecDepth 100000 in
set_option maxHeartbeats 4000000 in
theorem t_X10_leastDue_4 {post : Int32 → cs_S → Prop} (hC : rf_C P RX10 p s m meth c cX10_leastDue 5 (some .int)) (hin : meth.name = yX10_leastDue.name) (hO : cs_O G A s s.heap) : ∀ (n : Nat) (S : cs_S) (x0 : Nat) (x1 : Int32) (x2 : Int32) (x3 : Int32) (H : Heap) (locs : List Loc) (ls : Array Slot), w_X10_leastDue_4 post G n S x0 x1 x2 x3 → cs_T P s A S H locs → lv_has ls 5 [(0, .ref x0), (1, .int x1), (2, .int x2), (3, .int x3)] → W p l e rm_X10_leastDue s m args below meth c H locs 0 0 (MQ below (cs_Qi P A post) args s 0 0 A) (F0 m 4 ls []) := by
  obtain ⟨hx, hb, hml, hown, hK, -, -⟩ := id hC
  intro n
  induction n with
  | zero => intro S x0 x1 x2 x3 H locs ls h; exact False.elim h
  | succ n ih =>
    intro S x0 x1 x2 x3 H locs ls h hT hl
    refine lv_iload_n hx hb dX10_leastDue_4 rfl (lv_at hl 3 rfl) ?_
    refine lv_aload_n (x := x0) hx hb dX10_leastDue_5 rfl (lv_at hl 0 rfl) ?_
    obtain ⟨hk9_, h⟩ := h
    refine cs_get hx hb hK hT hown 11 hk9_ (by decide) rfl 1 (by decide) kfX10_21 (v := .int (cs_i S 1101 x0)) rfl dX10_leastDue_6 ?_
    refine lv_icmp_ge (tgt := 55) hx hb dX10_leastDue_9 (by decide) (fun hc => ?_) (fun hc => ?_)
    · replace h := h.1 hc
      refine lv_iload_n hx hb dX10_leastDue_55 rfl (lv_at hl 2 rfl) ?_
      exact cs_iret hC hT h dX10_leastDue_56 (Nat.le_refl _) (Nat.le_refl _)
    · replace h := h.2 hc
      refine lv_aload_n (x := x0) hx hb dX10_leastDue_12 rfl (lv_at hl 0 rfl) ?_
      refine cs_get hx hb hK hT hown 11 hk9_ (by decide) rfl 0 (by decide) kfX10_9 (v := va_rf (cs_r S 1100 x0)) rfl dX10_leastDue_13 ?_
      refine hw_topr (fun r10 er10 => ?_)
      replace h := h r10 er10
      refine lv_iload_n hx hb dX10_leastDue_16 rfl (lv_at hl 3 rfl) ?_
      obtain ⟨b11, rfl, h⟩ := h
      obtain ⟨hk12_, h⟩ := h
      obtain ⟨hi, h⟩ := h
      refine cs_aald hx hb hK hT 22 hk12_ (by decide) rfl (by decide) hi dX10_leastDue_17 ?_
      refine hw_topr (fun r13 er13 => ?_)
      replace h := h r13 er13
      obtain ⟨b14, rfl, h⟩ := h
      obtain ⟨hk16_, h⟩ := h
      refine cs_calli0 (cs_runV hx hb hml hown hK hO hT 8 hk16_ (by decide) rfl (c_X7_nextDue h) rfl rfl klX10_66 ki_X7_nextDue ks_X7_nextDue kn_X7 kc_X7_nextDue 0 ⟨rfl, by decide, by decide, by decide +kernel⟩ ⟨by decide, by decide⟩ rfl hl.1 rfl (hw_cat8 (Nat.le_of_ble_eq_true rfl)) ⟨(Nat.le_refl _), (Nat.le_refl _)⟩ dX10_leastDue_18) hT (fun r15 S15 H locs h_ hT_ => ?_)
      replace h := h_
      replace hT := hT_
      refine lv_istore (lv' := [(4, _), (0, _), (1, _), (2, _), (3, _)]) hx hb dX10_leastDue_21 hl (by decide) rfl (fun ls hl_ => ?_)
      replace hl := hl_
      refine lv_iload hx hb dX10_leastDue_23 (lv_at hl 0 rfl) ?_
      refine lv_iconst (v := (-1)) hx hb dX10_leastDue_25 (by decide) ?_
      refine lv_icmp_eq (tgt := 49) hx hb dX10_leastDue_26 (by decide) (fun hc => ?_) (fun hc => ?_)
      · replace h := h.1 hc
        exact t_X10_leastDue_49 hC hin hO ih S15 x0 x1 x2 x3 _ _ _ h hT (lv_sub hl [1, 2, 3, 4] rfl)
      · replace h := h.2 hc
        refine lv_iload hx hb dX10_leastDue_29 (lv_at hl 0 rfl) ?_
        refine lv_iload_n hx hb dX10_leastDue_31 rfl (lv_at hl 2 rfl) ?_
        refine lv_icmp_ge (tgt := 49) hx hb dX10_leastDue_32 (by decide) (fun hc => ?_) (fun hc => ?_)
        · replace h := h.1 hc
          exact t_X10_leastDue_49 hC hin hO ih S15 x0 x1 x2 x3 _ _ _ h hT (lv_sub hl [1, 2, 3, 4] rfl)
        · replace h := h.2 hc
          refine lv_iload_n hx hb dX10_leastDue_35 rfl (lv_at hl 3 rfl) ?_
          refine lv_iconst (v := (-1)) hx hb dX10_leastDue_36 (by decide) ?_
          refine lv_icmp_eq (tgt := 46) hx hb dX10_leastDue_37 (by decide) (fun hc => ?_) (fun hc => ?_)
          · replace h := h.1 hc
            exact t_X10_leastDue_46 hC hin hO ih S15 x0 x1 x3 r15 _ _ _ h hT (lv_sub hl [1, 2, 4, 0] rfl)
          · replace h := h.2 hc
            refine lv_iload hx hb dX10_leastDue_40 (lv_at hl 0 rfl) ?_
            refine lv_iload_n hx hb dX10_leastDue_42 rfl (lv_at hl 3 rfl) ?_
            refine lv_icmp_ge (tgt := 49) hx hb dX10_leastDue_43 (by decide) (fun hc => ?_) (fun hc => ?_)
            · replace h := h.1 hc
              exact t_X10_leastDue_49 hC hin hO ih S15 x0 x1 x2 x3 _ _ _ h hT (lv_sub hl [1, 2, 3, 4] rfl)
            · replace h := h.2 hc
              exact t_X10_leastDue_46 hC hin hO ih S15 x0 x1 x3 r15 _ _ _ h hT (lv_sub hl [1, 2, 4, 0] rfl)
end
def wp_X10_leastDue (post : Int32 → cs_S → Prop) (G : Nat → Nat) (S : cs_S) (o : Nat) (p1 : Int32) : Prop := ∃ n9, w_X10_leastDue_4 post G n9 S o p1 ((-1)) 0
set_option maxRecDepth 100000 in
set_option maxHeartbeats 4000000 in
theorem c_X10_leastDue {l : Launch} {P : hw_G} {G : Nat → Nat} {S : cs_S} {sz : Nat} {o : Nat} {p1 : Int32} {post : Int32 → cs_S → Prop} (h : wp_X10_leastDue post G S o p1) : Met l yX10_leastDue [Cond.code yX10_leastDue cX10_leastDue 5 (some .int)] rm_X10_leastDue (cs_Pc P G S sz [.ref o, .int p1]) (cs_Qi P (cs_A S sz) post) 0 0 (cs_A S sz) := by
  refine cs_met (by decide) rfl (Nat.le_of_ble_eq_true rfl) ?_
  intro p e s m below meth c ls hC hin hO hT hl
  obtain ⟨hx, hb, hml, hown, hK, -, -⟩ := id hC
  replace hl : lv_has ls 5 [(0, .ref o), (1, .int p1)] := hl
  refine lv_iconst (v := (-1)) hx hb dX10_leastDue_0 (by decide) ?_
  refine lv_istore_n (lv' := [(2, _), (0, _), (1, _)]) hx hb dX10_leastDue_1 rfl hl (by decide) rfl (fun ls hl_ => ?_)
  replace hl := hl_
  refine lv_iconst (v := 0) hx hb dX10_leastDue_2 (by decide) ?_
  refine lv_istore_n (lv' := [(3, _), (2, _), (0, _), (1, _)]) hx hb dX10_leastDue_3 rfl hl (by decide) rfl (fun ls hl_ => ?_)
  replace hl := hl_
  obtain ⟨n9, h⟩ := h
  exact t_X10_leastDue_4 hC hin hO n9 S o p1 ((-1)) 0 _ _ _ h hT (lv_sub hl [2, 3, 1, 0] rfl)
/-! X10_makeEvent -/
abbrev rm_X10_makeEvent (mc ms : Nat) : Room := { frames := 2, cells := mc, slots := ms, locals := 50 }
def w_X10_makeEvent_177 (post : cs_S → Prop) (G : Nat → Nat) (mc ms : Nat) (S : cs_S) (u v : Nat) (x0 : Nat) (x7 : Option Nat) : Prop := u ≤ mc ∧ v ≤ ms ∧ cs_k S x0 = 12 ∧ ∀ S49, S49 = cs_ur S 1111 x0 x7 → post S49
section
variable {p : Program} {l : Launch} {e : Env} {s : State} {m : MethodId} {args : Array Value} {below : List Frame} {meth : Method} {c : Code} {P : hw_G} {G : Nat → Nat} {A : Nat → Prop}
set_option maxRecDepth 100000 in
set_option maxHeartbeats 4000000 in
theorem t_X10_makeEvent_177 {post : cs_S → Prop} {mc ms : Nat} (hC : rf_C P RX10 p s m meth c cX10_makeEvent 9 none) (hin : meth.name = yX10_makeEvent.name) (hO : cs_O G A s s.heap) (S : cs_S) (u v : Nat) (x0 : Nat) (x7 : Option Nat) (H : Heap) (locs : List Loc) (ls : Array Slot) (h : w_X10_makeEvent_177 post G mc ms S u v x0 x7) (hT : cs_T P s A S H locs) (hl : lv_has ls 9 [(0, .ref x0), (7, va_rf x7)]) : W p l e (rm_X10_makeEvent mc ms) s m args below meth c H locs u v (MQ below (cs_Qv P A post) args s mc ms A) (F0 m 177 ls []) := by
  obtain ⟨hx, hb, hml, hown, hK, -, -⟩ := id hC
  obtain ⟨hu, hv, h⟩ := h
  refine lv_aload_n (x := x0) hx hb dX10_makeEvent_177 rfl (lv_at hl 0 rfl) ?_
  refine hw_aload (x := x7) hx hb dX10_makeEvent_178 (lv_at hl 1 rfl) ?_
  obtain ⟨hk48_, h⟩ := h
  refine cs_putr (x := x7) hx hb hK hT hown 11 hk48_ (by decide) rfl 11 (by decide) kfX10_122 rfl (tyX10_ok 11 (by decide)) rfl 1111 rfl dX10_makeEvent_180 (fun H locs hT_ => ?_)
  replace hT := hT_
  obtain ⟨S49, eS49⟩ : ∃ z, z = cs_ur S 1111 x0 x7 := ⟨_, rfl⟩
  rw [← eS49] at hT
  replace h := h S49 eS49
  exact cs_vret hC hT h dX10_makeEvent_183 hu hv
end
def w_X10_makeEvent_159 (post : cs_S → Prop) (G : Nat → Nat) (mc ms : Nat) (S : cs_S) (u v : Nat) (x0 : Nat) (x7 : Option Nat) : Prop := u ≤ mc ∧ v ≤ ms ∧ cs_k S x0 = 12 ∧ ∀ S51, S51 = cs_ur S 1110 x0 x7 → w_X10_makeEvent_177 post G mc ms S51 u v x0 x7
section
variable {p : Program} {l : Launch} {e : Env} {s : State} {m : MethodId} {args : Array Value} {below : List Frame} {meth : Method} {c : Code} {P : hw_G} {G : Nat → Nat} {A : Nat → Prop}
set_option maxRecDepth 100000 in
set_option maxHeartbeats 4000000 in
theorem t_X10_makeEvent_159 {post : cs_S → Prop} {mc ms : Nat} (hC : rf_C P RX10 p s m meth c cX10_makeEvent 9 none) (hin : meth.name = yX10_makeEvent.name) (hO : cs_O G A s s.heap) (S : cs_S) (u v : Nat) (x0 : Nat) (x7 : Option Nat) (H : Heap) (locs : List Loc) (ls : Array Slot) (h : w_X10_makeEvent_159 post G mc ms S u v x0 x7) (hT : cs_T P s A S H locs) (hl : lv_has ls 9 [(0, .ref x0), (7, va_rf x7)]) : W p l e (rm_X10_makeEvent mc ms) s m args below meth c H locs u v (MQ below (cs_Qv P A post) args s mc ms A) (F0 m 159 ls []) := by
  obtain ⟨hx, hb, hml, hown, hK, -, -⟩ := id hC
  obtain ⟨hu, hv, h⟩ := h
  refine lv_aload_n (x := x0) hx hb dX10_makeEvent_159 rfl (lv_at hl 0 rfl) ?_
  refine hw_aload (x := x7) hx hb dX10_makeEvent_160 (lv_at hl 1 rfl) ?_
  obtain ⟨hk50_, h⟩ := h
  refine cs_putr (x := x7) hx hb hK hT hown 11 hk50_ (by decide) rfl 10 (by decide) kfX10_113 rfl (tyX10_ok 10 (by decide)) rfl 1110 rfl dX10_makeEvent_162 (fun H locs hT_ => ?_)
  replace hT := hT_
  obtain ⟨S51, eS51⟩ : ∃ z, z = cs_ur S 1110 x0 x7 := ⟨_, rfl⟩
  rw [← eS51] at hT
  replace h := h S51 eS51
  refine lv_goto (tgt := 177) hx hb dX10_makeEvent_165 (by decide) ?_
  exact t_X10_makeEvent_177 hC hin hO S51 u v x0 x7 _ _ _ h hT (lv_sub hl [0, 1] rfl)
end
def w_X10_makeEvent_94 (post : cs_S → Prop) (G : Nat → Nat) (mc ms : Nat) (k30 : cs_S → Nat → Nat → Nat → Option Nat → Option Nat → Int32 → Int32 → Option Nat → Option Nat → Int32 → Prop) (S : cs_S) (u v : Nat) (x0 : Nat) (x1 : Option Nat) (x2 : Option Nat) (x3 : Int32) (x4 : Int32) (x5 : Option Nat) (x6 : Option Nat) (x7 : Int32) (x8 : Int32) : Prop := u ≤ mc ∧ v ≤ ms ∧ ∃ b52, x1 = some b52 ∧ cs_k S b52 = 9 ∧ ∀ r54, r54 = cs_r S 808 b52 → ∃ b55, r54 = some b55 ∧ cs_k S b55 = 21 ∧ vp_in x7 (cs_n S b55) ∧ ∃ b57, x5 = some b57 ∧ cs_k S b57 = 21 ∧ vp_in x8 (cs_n S b57) ∧ ∀ S59, S59 = cs_ual S b57 x8.toNatClampNeg (cs_al S b55 x7.toNatClampNeg) → ∃ b60, x2 = some b60 ∧ cs_k S59 b60 = 6 ∧ ∀ r62, r62 = cs_r S59 500 b60 → ∃ b63, r62 = some b63 ∧ cs_k S59 b63 = 26 ∧ vp_in x7 (cs_n S59 b63) ∧ ∀ r65, r65 = cs_ar S59 b63 x7.toNatClampNeg → ∃ b66, x6 = some b66 ∧ cs_k S59 b66 = 26 ∧ vp_in x8 (cs_n S59 b66) ∧ (∀ b, r65 = some b → cs_k S59 b = 11) ∧ ∀ S68, S68 = cs_uar S59 b66 x8.toNatClampNeg r65 → k30 S68 u v x0 (some b52) (some b60) x3 x4 (some b57) (some b66) (x7 + 1)
section
variable {p : Program} {l : Launch} {e : Env} {s : State} {m : MethodId} {args : Array Value} {below : List Frame} {meth : Method} {c : Code} {P : hw_G} {G : Nat → Nat} {A : Nat → Prop}
set_option maxRecDepth 100000 in
set_option maxHeartbeats 4000000 in
theorem t_X10_makeEvent_94 {post : cs_S → Prop} {mc ms : Nat} {k30 : cs_S → Nat → Nat → Nat → Option Nat → Option Nat → Int32 → Int32 → Option Nat → Option Nat → Int32 → Prop} (hC : rf_C P RX10 p s m meth c cX10_makeEvent 9 none) (hin : meth.name = yX10_makeEvent.name) (hO : cs_O G A s s.heap) (hk30 : ∀ (S : cs_S) (u v : Nat) (x0 : Nat) (x1 : Option Nat) (x2 : Option Nat) (x3 : Int32) (x4 : Int32) (x5 : Option Nat) (x6 : Option Nat) (x7 : Int32) (H : Heap) (locs : List Loc) (ls : Array Slot), k30 S u v x0 x1 x2 x3 x4 x5 x6 x7 → cs_T P s A S H locs → lv_has ls 9 [(0, .ref x0), (1, va_rf x1), (2, va_rf x2), (3, .int x3), (4, .int x4), (5, va_rf x5), (6, va_rf x6), (7, .int x7)] → W p l e (rm_X10_makeEvent mc ms) s m args below meth c H locs u v (MQ below (cs_Qv P A post) args s mc ms A) (F0 m 30 ls [])) (S : cs_S) (u v : Nat) (x0 : Nat) (x1 : Option Nat) (x2 : Option Nat) (x3 : Int32) (x4 : Int32) (x5 : Option Nat) (x6 : Option Nat) (x7 : Int32) (x8 : Int32) (H : Heap) (locs : List Loc) (ls : Array Slot) (h : w_X10_makeEvent_94 post G mc ms k30 S u v x0 x1 x2 x3 x4 x5 x6 x7 x8) (hT : cs_T P s A S H locs) (hl : lv_has ls 9 [(0, .ref x0), (1, va_rf x1), (2, va_rf x2), (3, .int x3), (4, .int x4), (5, va_rf x5), (6, va_rf x6), (7, .int x7), (8, .int x8)]) : W p l e (rm_X10_makeEvent mc ms) s m args below meth c H locs u v (MQ below (cs_Qv P A post) args s mc ms A) (F0 m 94 ls []) := by
  obtain ⟨hx, hb, hml, hown, hK, -, -⟩ := id hC
  obtain ⟨hu, hv, h⟩ := h
  refine hw_aload (x := x5) hx hb dX10_makeEvent_94 (lv_at hl 5 rfl) ?_
  refine lv_iload hx hb dX10_makeEvent_96 (lv_at hl 8 rfl) ?_
  refine hw_aload_n (x := x1) hx hb dX10_makeEvent_98 rfl (lv_at hl 1 rfl) ?_
  obtain ⟨b52, rfl, h⟩ := h
  obtain ⟨hk53_, h⟩ := h
  refine cs_get hx hb hK hT hown 8 hk53_ (by decide) rfl 8 (by decide) kfX10_166 (v := va_rf (cs_r S 808 b52)) rfl dX10_makeEvent_99 ?_
  refine hw_topr (fun r54 er54 => ?_)
  replace h := h r54 er54
  refine lv_iload hx hb dX10_makeEvent_102 (lv_at hl 7 rfl) ?_
  obtain ⟨b55, rfl, h⟩ := h
  obtain ⟨hk56_, h⟩ := h
  obtain ⟨hi, h⟩ := h
  refine cs_lald hx hb hK hT hk56_ hi dX10_makeEvent_104 ?_
  obtain ⟨b57, rfl, h⟩ := h
  obtain ⟨hk58_, h⟩ := h
  obtain ⟨hi, h⟩ := h
  refine cs_last hx hb hK hT hk58_ hi dX10_makeEvent_105 (fun H locs hT_ => ?_)
  replace hT := hT_
  obtain ⟨S59, eS59⟩ : ∃ z, z = cs_ual S b57 x8.toNatClampNeg (cs_al S b55 x7.toNatClampNeg) := ⟨_, rfl⟩
  rw [← eS59] at hT
  replace h := h S59 eS59
  refine hw_aload (x := x6) hx hb dX10_makeEvent_106 (lv_at hl 6 rfl) ?_
  refine lv_iload hx hb dX10_makeEvent_108 (lv_at hl 8 rfl) ?_
  refine hw_aload_n (x := x2) hx hb dX10_makeEvent_110 rfl (lv_at hl 2 rfl) ?_
  obtain ⟨b60, rfl, h⟩ := h
  obtain ⟨hk61_, h⟩ := h
  refine cs_get hx hb hK hT hown 5 hk61_ (by decide) rfl 0 (by decide) kfX10_160 (v := va_rf (cs_r S59 500 b60)) rfl dX10_makeEvent_111 ?_
  refine hw_topr (fun r62 er62 => ?_)
  replace h := h r62 er62
  refine lv_iload hx hb dX10_makeEvent_114 (lv_at hl 7 rfl) ?_
  obtain ⟨b63, rfl, h⟩ := h
  obtain ⟨hk64_, h⟩ := h
  obtain ⟨hi, h⟩ := h
  refine cs_aald hx hb hK hT 26 hk64_ (by decide) rfl (by decide) hi dX10_makeEvent_116 ?_
  refine hw_topr (fun r65 er65 => ?_)
  replace h := h r65 er65
  obtain ⟨b66, rfl, h⟩ := h
  obtain ⟨hk67_, h⟩ := h
  obtain ⟨hi, h⟩ := h
  obtain ⟨he, h⟩ := h
  refine cs_aast (x := r65) hx hb hK hT 26 hk67_ (by decide) (ci := 10) rfl (by decide) rfl (by decide) hi he dX10_makeEvent_117 (fun H locs hT_ => ?_)
  replace hT := hT_
  obtain ⟨S68, eS68⟩ : ∃ z, z = cs_uar S59 b66 x8.toNatClampNeg r65 := ⟨_, rfl⟩
  rw [← eS68] at hT
  replace h := h S68 eS68
  refine lv_iinc (v := x7 + 1) (lv' := [(7, _), (0, _), (1, _), (2, _), (3, _), (4, _), (5, _), (6, _), (8, _)]) hx hb dX10_makeEvent_118 hl (k := 7) rfl rfl (by decide) rfl (fun ls hl_ => ?_)
  replace hl := hl_
  refine lv_goto (tgt := 30) hx hb dX10_makeEvent_121 (by decide) ?_
  exact hk30 S68 u v x0 (some b52) (some b60) x3 x4 (some b57) (some b66) (x7 + 1) _ _ _ h hT (lv_sub hl [1, 2, 3, 4, 5, 6, 7, 0] rfl)
end
def w_X10_makeEvent_41 (post : cs_S → Prop) (G : Nat → Nat) (mc ms : Nat) (k30 : cs_S → Nat → Nat → Nat → Option Nat → Option Nat → Int32 → Int32 → Option Nat → Option Nat → Int32 → Prop) : Nat → cs_S → Nat → Nat → Nat → Option Nat → Option Nat → Int32 → Int32 → Option Nat → Option Nat → Int32 → Int32 → Prop
  | 0, _, _, _, _, _, _, _, _, _, _, _, _ => False
  | n + 1, S, u, v, x0, x1, x2, x3, x4, x5, x6, x7, x8 => u ≤ mc ∧ v ≤ ms ∧ (x8 ≤ 0 → w_X10_makeEvent_94 post G mc ms k30 S u v x0 x1 x2 x3 x4 x5 x6 x7 x8) ∧ (¬ x8 ≤ 0 → ∃ b69, x5 = some b69 ∧ cs_k S b69 = 21 ∧ vp_in (x8 - 1) (cs_n S b69) ∧ ∃ b71, x1 = some b71 ∧ cs_k S b71 = 9 ∧ ∀ r73, r73 = cs_r S 808 b71 → ∃ b74, r73 = some b74 ∧ cs_k S b74 = 21 ∧ vp_in x7 (cs_n S b74) ∧ ((lg_cmp (cs_al S b69 (x8 - 1).toNatClampNeg) (cs_al S b74 x7.toNatClampNeg)) ≤ 0 → w_X10_makeEvent_94 post G mc ms k30 S u v x0 (some b71) x2 x3 x4 (some b69) x6 x7 x8) ∧ (¬ (lg_cmp (cs_al S b69 (x8 - 1).toNatClampNeg) (cs_al S b74 x7.toNatClampNeg)) ≤ 0 → vp_in (x8 - 1) (cs_n S b69) ∧ vp_in x8 (cs_n S b69) ∧ ∀ S76, S76 = cs_ual S b69 x8.toNatClampNeg (cs_al S b69 (x8 - 1).toNatClampNeg) → ∃ b77, x6 = some b77 ∧ cs_k S76 b77 = 26 ∧ vp_in (x8 - 1) (cs_n S76 b77) ∧ ∀ r79, r79 = cs_ar S76 b77 (x8 - 1).toNatClampNeg → vp_in x8 (cs_n S76 b77) ∧ (∀ b, r79 = some b → cs_k S76 b = 11) ∧ ∀ S80, S80 = cs_uar S76 b77 x8.toNatClampNeg r79 → w_X10_makeEvent_41 post G mc ms k30 n S80 u v x0 (some b71) x2 x3 x4 (some b69) (some b77) x7 (x8 + (-1))))
section
variable {p : Program} {l : Launch} {e : Env} {s : State} {m : MethodId} {args : Array Value} {below : List Frame} {meth : Method} {c : Code} {P : hw_G} {G : Nat → Nat} {A : Nat → Prop}
set_option maxRecDepth 100000 in
set_option maxHeartbeats 4000000 in
theorem t_X10_makeEvent_41 {post : cs_S → Prop} {mc ms : Nat} {k30 : cs_S → Nat → Nat → Nat → Option Nat → Option Nat → Int32 → Int32 → Option Nat → Option Nat → Int32 → Prop} (hC : rf_C P RX10 p s m meth c cX10_makeEvent 9 none) (hin : meth.name = yX10_makeEvent.name) (hO : cs_O G A s s.heap) (hk30 : ∀ (S : cs_S) (u v : Nat) (x0 : Nat) (x1 : Option Nat) (x2 : Option Nat) (x3 : Int32) (x4 : Int32) (x5 : Option Nat) (x6 : Option Nat) (x7 : Int32) (H : Heap) (locs : List Loc) (ls : Array Slot), k30 S u v x0 x1 x2 x3 x4 x5 x6 x7 → cs_T P s A S H locs → lv_has ls 9 [(0, .ref x0), (1, va_rf x1), (2, va_rf x2), (3, .int x3), (4, .int x4), (5, va_rf x5), (6, va_rf x6), (7, .int x7)] → W p l e (rm_X10_makeEvent mc ms) s m args below meth c H locs u v (MQ below (cs_Qv P A post) args s mc ms A) (F0 m 30 ls [])) : ∀ (n : Nat) (S : cs_S) (u v : Nat) (x0 : Nat) (x1 : Option Nat) (x2 : Option Nat) (x3 : Int32) (x4 : Int32) (x5 : Option Nat) (x6 : Option Nat) (x7 : Int32) (x8 : Int32) (H : Heap) (locs : List Loc) (ls : Array Slot), w_X10_makeEvent_41 post G mc ms k30 n S u v x0 x1 x2 x3 x4 x5 x6 x7 x8 → cs_T P s A S H locs → lv_has ls 9 [(0, .ref x0), (1, va_rf x1), (2, va_rf x2), (3, .int x3), (4, .int x4), (5, va_rf x5), (6, va_rf x6), (7, .int x7), (8, .int x8)] → W p l e (rm_X10_makeEvent mc ms) s m args below meth c H locs u v (MQ below (cs_Qv P A post) args s mc ms A) (F0 m 41 ls []) := by
  obtain ⟨hx, hb, hml, hown, hK, -, -⟩ := id hC
  intro n
  induction n with
  | zero => intro S u v x0 x1 x2 x3 x4 x5 x6 x7 x8 H locs ls h; exact False.elim h
  | succ n ih =>
    intro S u v x0 x1 x2 x3 x4 x5 x6 x7 x8 H locs ls h hT hl
    obtain ⟨hu, hv, h⟩ := h
    refine lv_iload hx hb dX10_makeEvent_41 (lv_at hl 8 rfl) ?_
    refine lv_if_le (tgt := 94) hx hb dX10_makeEvent_43 (by decide) (fun hc => ?_) (fun hc => ?_)
    · replace h := h.1 hc
      exact t_X10_makeEvent_94 hC hin hO hk30 S u v x0 x1 x2 x3 x4 x5 x6 x7 x8 _ _ _ h hT (lv_sub hl [0, 1, 2, 3, 4, 5, 6, 7, 8] rfl)
    · replace h := h.2 hc
      refine hw_aload (x := x5) hx hb dX10_makeEvent_46 (lv_at hl 5 rfl) ?_
      refine lv_iload hx hb dX10_makeEvent_48 (lv_at hl 8 rfl) ?_
      refine lv_iconst (v := 1) hx hb dX10_makeEvent_50 (by decide) ?_
      refine lv_isub hx hb dX10_makeEvent_51 ?_
      obtain ⟨b69, rfl, h⟩ := h
      obtain ⟨hk70_, h⟩ := h
      obtain ⟨hi, h⟩ := h
      refine cs_lald hx hb hK hT hk70_ hi dX10_makeEvent_52 ?_
      refine hw_aload_n (x := x1) hx hb dX10_makeEvent_53 rfl (lv_at hl 1 rfl) ?_
      obtain ⟨b71, rfl, h⟩ := h
      obtain ⟨hk72_, h⟩ := h
      refine cs_get hx hb hK hT hown 8 hk72_ (by decide) rfl 8 (by decide) kfX10_166 (v := va_rf (cs_r S 808 b71)) rfl dX10_makeEvent_54 ?_
      refine hw_topr (fun r73 er73 => ?_)
      replace h := h r73 er73
      refine lv_iload hx hb dX10_makeEvent_57 (lv_at hl 7 rfl) ?_
      obtain ⟨b74, rfl, h⟩ := h
      obtain ⟨hk75_, h⟩ := h
      obtain ⟨hi, h⟩ := h
      refine cs_lald hx hb hK hT hk75_ hi dX10_makeEvent_59 ?_
      refine W.lcmp hx hb dX10_makeEvent_60 ?_
      refine lv_if_le (tgt := 94) hx hb dX10_makeEvent_61 (by decide) (fun hc => ?_) (fun hc => ?_)
      · replace h := h.1 hc
        exact t_X10_makeEvent_94 hC hin hO hk30 S u v x0 (some b71) x2 x3 x4 (some b69) x6 x7 x8 _ _ _ h hT (lv_sub hl [0, 1, 2, 3, 4, 5, 6, 7, 8] rfl)
      · replace h := h.2 hc
        refine lv_aload (x := b69) hx hb dX10_makeEvent_64 (lv_at hl 5 rfl) ?_
        refine lv_iload hx hb dX10_makeEvent_66 (lv_at hl 8 rfl) ?_
        refine lv_aload (x := b69) hx hb dX10_makeEvent_68 (lv_at hl 5 rfl) ?_
        refine lv_iload hx hb dX10_makeEvent_70 (lv_at hl 8 rfl) ?_
        refine lv_iconst (v := 1) hx hb dX10_makeEvent_72 (by decide) ?_
        refine lv_isub hx hb dX10_makeEvent_73 ?_
        obtain ⟨hi, h⟩ := h
        refine cs_lald hx hb hK hT hk70_ hi dX10_makeEvent_74 ?_
        obtain ⟨hi, h⟩ := h
        refine cs_last hx hb hK hT hk70_ hi dX10_makeEvent_75 (fun H locs hT_ => ?_)
        replace hT := hT_
        obtain ⟨S76, eS76⟩ : ∃ z, z = cs_ual S b69 x8.toNatClampNeg (cs_al S b69 (x8 - 1).toNatClampNeg) := ⟨_, rfl⟩
        rw [← eS76] at hT
        replace h := h S76 eS76
        refine hw_aload (x := x6) hx hb dX10_makeEvent_76 (lv_at hl 6 rfl) ?_
        refine lv_iload hx hb dX10_makeEvent_78 (lv_at hl 8 rfl) ?_
        refine hw_aload (x := x6) hx hb dX10_makeEvent_80 (lv_at hl 6 rfl) ?_
        refine lv_iload hx hb dX10_makeEvent_82 (lv_at hl 8 rfl) ?_
        refine lv_iconst (v := 1) hx hb dX10_makeEvent_84 (by decide) ?_
        refine lv_isub hx hb dX10_makeEvent_85 ?_
        obtain ⟨b77, rfl, h⟩ := h
        obtain ⟨hk78_, h⟩ := h
        obtain ⟨hi, h⟩ := h
        refine cs_aald hx hb hK hT 26 hk78_ (by decide) rfl (by decide) hi dX10_makeEvent_86 ?_
        refine hw_topr (fun r79 er79 => ?_)
        replace h := h r79 er79
        obtain ⟨hi, h⟩ := h
        obtain ⟨he, h⟩ := h
        refine cs_aast (x := r79) hx hb hK hT 26 hk78_ (by decide) (ci := 10) rfl (by decide) rfl (by decide) hi he dX10_makeEvent_87 (fun H locs hT_ => ?_)
        replace hT := hT_
        obtain ⟨S80, eS80⟩ : ∃ z, z = cs_uar S76 b77 x8.toNatClampNeg r79 := ⟨_, rfl⟩
        rw [← eS80] at hT
        replace h := h S80 eS80
        refine lv_iinc (v := x8 + (-1)) (lv' := [(8, _), (0, _), (1, _), (2, _), (3, _), (4, _), (5, _), (6, _), (7, _)]) hx hb dX10_makeEvent_88 hl (k := 8) rfl rfl (by decide) rfl (fun ls hl_ => ?_)
        replace hl := hl_
        refine lv_goto (tgt := 41) hx hb dX10_makeEvent_91 (by decide) ?_
        exact ih S80 u v x0 (some b71) x2 x3 x4 (some b69) (some b77) x7 (x8 + (-1)) _ _ _ h hT (lv_sub hl [1, 2, 3, 4, 5, 6, 7, 8, 0] rfl)
end
def w_X10_makeEvent_30 (post : cs_S → Prop) (G : Nat → Nat) (mc ms : Nat) : Nat → cs_S → Nat → Nat → Nat → Option Nat → Option Nat → Int32 → Int32 → Option Nat → Option Nat → Int32 → Prop
  | 0, _, _, _, _, _, _, _, _, _, _, _ => False
  | n + 1, S, u, v, x0, x1, x2, x3, x4, x5, x6, x7 => u ≤ mc ∧ v ≤ ms ∧ (x4 ≤ x7 → u + 1 ≤ mc ∧ v + 7 ≤ ms ∧ ∀ q81, cs_k S q81 = 0 → ∀ S82, S82 = cs_new S q81 4 → ∃ b83, x1 = some b83 ∧ cs_k S82 b83 = 9 ∧ wp_X3_init (fun S85 => cs_k S85 x0 = 12 ∧ ∀ r87, r87 = cs_r S85 1110 x0 → (r87 = none → w_X10_makeEvent_159 post G mc ms S85 (u + 1) (v + 7) x0 (some q81)) ∧ (∀ b88, r87 = some b88 → ∀ r89, r89 = cs_r S85 1111 x0 → (r89 = none → w_X10_makeEvent_159 post G mc ms S85 (u + 1) (v + 7) x0 (some q81)) ∧ (∀ b90, r89 = some b90 → ∀ r91, r91 = cs_r S85 1111 x0 → ∃ b92, r91 = some b92 ∧ cs_k S85 b92 = 5 ∧ ∀ S94, S94 = cs_ur S85 406 b92 (some q81) → w_X10_makeEvent_177 post G mc ms S94 (u + 1) (v + 7) x0 (some q81)))) G S82 q81 x3 49735996165586944 (cs_i S82 800 b83) x5 x6) ∧ (¬ x4 ≤ x7 → ∃ n9, w_X10_makeEvent_41 post G mc ms (w_X10_makeEvent_30 post G mc ms n) n9 S u v x0 x1 x2 x3 x4 x5 x6 x7 x7)
section
variable {p : Program} {l : Launch} {e : Env} {s : State} {m : MethodId} {args : Array Value} {below : List Frame} {meth : Method} {c : Code} {P : hw_G} {G : Nat → Nat} {A : Nat → Prop}
set_option maxRecDepth 100000 in
set_option maxHeartbeats 4000000 in
theorem t_X10_makeEvent_30 {post : cs_S → Prop} {mc ms : Nat} (hC : rf_C P RX10 p s m meth c cX10_makeEvent 9 none) (hin : meth.name = yX10_makeEvent.name) (hO : cs_O G A s s.heap) : ∀ (n : Nat) (S : cs_S) (u v : Nat) (x0 : Nat) (x1 : Option Nat) (x2 : Option Nat) (x3 : Int32) (x4 : Int32) (x5 : Option Nat) (x6 : Option Nat) (x7 : Int32) (H : Heap) (locs : List Loc) (ls : Array Slot), w_X10_makeEvent_30 post G mc ms n S u v x0 x1 x2 x3 x4 x5 x6 x7 → cs_T P s A S H locs → lv_has ls 9 [(0, .ref x0), (1, va_rf x1), (2, va_rf x2), (3, .int x3), (4, .int x4), (5, va_rf x5), (6, va_rf x6), (7, .int x7)] → W p l e (rm_X10_makeEvent mc ms) s m args below meth c H locs u v (MQ below (cs_Qv P A post) args s mc ms A) (F0 m 30 ls []) := by
  obtain ⟨hx, hb, hml, hown, hK, -, -⟩ := id hC
  intro n
  induction n with
  | zero => intro S u v x0 x1 x2 x3 x4 x5 x6 x7 H locs ls h; exact False.elim h
  | succ n ih =>
    intro S u v x0 x1 x2 x3 x4 x5 x6 x7 H locs ls h hT hl
    obtain ⟨hu, hv, h⟩ := h
    refine lv_iload hx hb dX10_makeEvent_30 (lv_at hl 7 rfl) ?_
    refine lv_iload hx hb dX10_makeEvent_32 (lv_at hl 4 rfl) ?_
    refine lv_icmp_ge (tgt := 124) hx hb dX10_makeEvent_34 (by decide) (fun hc => ?_) (fun hc => ?_)
    · replace h := h.1 hc
      obtain ⟨hu81, hv81, h⟩ := h
      refine cs_newo hx hb hK hT hown 4 (by decide) rfl tyX3_ok cs_df4 kxX10_25 kj_X3 kn_X3 hu81 hv81 dX10_makeEvent_124 (fun q81 H hq81 hT_ => ?_)
      replace h := h q81 hq81
      replace hT := hT_
      obtain ⟨S82, eS82⟩ : ∃ z, z = cs_new S q81 4 := ⟨_, rfl⟩
      rw [← eS82] at hT
      replace h := h S82 eS82
      refine lv_dup hx hb dX10_makeEvent_127 rfl ?_
      refine lv_iload_n hx hb dX10_makeEvent_128 rfl (lv_at hl 3 rfl) ?_
      refine lv_ldc2 (v := 49735996165586944) hx hb hown (hK.word kkX10_170 rfl) dX10_makeEvent_129 ?_
      refine hw_aload_n (x := x1) hx hb dX10_makeEvent_132 rfl (lv_at hl 1 rfl) ?_
      obtain ⟨b83, rfl, h⟩ := h
      obtain ⟨hk84_, h⟩ := h
      refine cs_get hx hb hK hT hown 8 hk84_ (by decide) rfl 0 (by decide) kfX10_140 (v := .int (cs_i S82 800 b83)) rfl dX10_makeEvent_133 ?_
      refine hw_aload (x := x5) hx hb dX10_makeEvent_136 (lv_at hl 5 rfl) ?_
      refine hw_aload (x := x6) hx hb dX10_makeEvent_138 (lv_at hl 6 rfl) ?_
      refine cs_callv0 (cs_runI hx hb hml hown hK hO hT (c_X3_init h) rfl rfl klX10_172 ki_X3_init kn_X3 kc_X3_init rfl 5 ⟨by decide, by decide, by decide +kernel⟩ ⟨Nat.le_of_ble_eq_true rfl, Nat.le_of_ble_eq_true rfl⟩ rfl hl.1 rfl (hw_cat8 (Nat.le_of_ble_eq_true rfl)) ⟨hu81, hv81⟩ dX10_makeEvent_140) hT (fun S85 H locs h_ hT_ => ?_)
      replace h := h_
      replace hT := hT_
      refine lv_astore (lv' := [(7, _), (0, _), (1, _), (2, _), (3, _), (4, _), (5, _), (6, _)]) (x := q81) hx hb dX10_makeEvent_143 hl (by decide) (congrArg (List.cons _) ((hw_flt (fun q hq => by simp only [List.mem_cons, List.not_mem_nil, or_false] at hq; rcases hq with rfl | rfl | rfl | rfl | rfl | rfl | rfl | rfl <;> first | exact fun _ => rfl | exact fun _ => va_rf_cat _ | (intro h; simp at h))).trans rfl)) (fun ls hl_ => ?_)
      replace hl := hl_
      refine lv_aload_n (x := x0) hx hb dX10_makeEvent_145 rfl (lv_at hl 1 rfl) ?_
      obtain ⟨hk86_, h⟩ := h
      refine cs_get hx hb hK hT hown 11 hk86_ (by decide) rfl 10 (by decide) kfX10_113 (v := va_rf (cs_r S85 1110 x0)) rfl dX10_makeEvent_146 ?_
      refine hw_topr (fun r87 er87 => ?_)
      replace h := h r87 er87
      refine hw_ifnull (tgt := 159) hx hb dX10_makeEvent_149 (by decide) (fun hc => ?_) (fun b88 hc => ?_)
      · replace h := h.1 hc
        subst hc
        exact t_X10_makeEvent_159 hC hin hO S85 (u + 1) (v + 7) x0 (some q81) _ _ _ h hT (lv_sub hl [1, 0] rfl)
      · replace h := h.2 b88 hc
        subst hc
        refine lv_aload_n (x := x0) hx hb dX10_makeEvent_152 rfl (lv_at hl 1 rfl) ?_
        refine cs_get hx hb hK hT hown 11 hk86_ (by decide) rfl 11 (by decide) kfX10_122 (v := va_rf (cs_r S85 1111 x0)) rfl dX10_makeEvent_153 ?_
        refine hw_topr (fun r89 er89 => ?_)
        replace h := h r89 er89
        refine hw_ifnonnull (tgt := 168) hx hb dX10_makeEvent_156 (by decide) (fun b90 hc => ?_) (fun hc => ?_)
        · replace h := h.2 b90 hc
          subst hc
          refine lv_aload_n (x := x0) hx hb dX10_makeEvent_168 rfl (lv_at hl 1 rfl) ?_
          refine cs_get hx hb hK hT hown 11 hk86_ (by decide) rfl 11 (by decide) kfX10_122 (v := va_rf (cs_r S85 1111 x0)) rfl dX10_makeEvent_169 ?_
          refine hw_topr (fun r91 er91 => ?_)
          replace h := h r91 er91
          refine lv_aload (x := q81) hx hb dX10_makeEvent_172 (lv_at hl 0 rfl) ?_
          obtain ⟨b92, rfl, h⟩ := h
          obtain ⟨hk93_, h⟩ := h
          refine cs_putr (x := (some q81)) hx hb hK hT hown 4 hk93_ (by decide) rfl 6 (by decide) kfX10_116 rfl (tyX3_ok 6 (by decide)) rfl 406 rfl dX10_makeEvent_174 (fun H locs hT_ => ?_)
          replace hT := hT_
          obtain ⟨S94, eS94⟩ : ∃ z, z = cs_ur S85 406 b92 (some q81) := ⟨_, rfl⟩
          rw [← eS94] at hT
          replace h := h S94 eS94
          exact t_X10_makeEvent_177 hC hin hO S94 (u + 1) (v + 7) x0 (some q81) _ _ _ h hT (lv_sub hl [1, 0] rfl)
        · replace h := h.1 hc
          subst hc
          exact t_X10_makeEvent_159 hC hin hO S85 (u + 1) (v + 7) x0 (some q81) _ _ _ h hT (lv_sub hl [1, 0] rfl)
    · replace h := h.2 hc
      refine lv_iload hx hb dX10_makeEvent_37 (lv_at hl 7 rfl) ?_
      refine lv_istore (lv' := [(8, _), (0, _), (1, _), (2, _), (3, _), (4, _), (5, _), (6, _), (7, _)]) hx hb dX10_makeEvent_39 hl (by decide) rfl (fun ls hl_ => ?_)
      replace hl := hl_
      obtain ⟨n9, h⟩ := h
      exact t_X10_makeEvent_41 hC hin hO ih n9 S u v x0 x1 x2 x3 x4 x5 x6 x7 x7 _ _ _ h hT (lv_sub hl [1, 2, 3, 4, 5, 6, 7, 8, 0] rfl)
end
def wp_X10_makeEvent (post : cs_S → Prop) (G : Nat → Nat) (mc ms : Nat) (S : cs_S) (o : Nat) (p1 : Option Nat) (p2 : Option Nat) (p3 : Int32) : Prop := ∃ b95, p1 = some b95 ∧ cs_k S b95 = 9 ∧ ∃ b97, p2 = some b97 ∧ cs_k S b97 = 6 ∧ ∀ r99, r99 = cs_r S 500 b97 → ∃ b100, r99 = some b100 ∧ cs_k S b100 = 26 ∧ ¬ (if Int32.ofNat (cs_n S b100) < cs_i S 809 b95 then Int32.ofNat (cs_n S b100) else cs_i S 809 b95) < 0 ∧ (if Int32.ofNat (cs_n S b100) < cs_i S 809 b95 then Int32.ofNat (cs_n S b100) else cs_i S 809 b95).toNatClampNeg * componentBytes (cs_aty 21) ≤ 536870912 ∧ 0 + 1 ≤ mc ∧ 0 + (if Int32.ofNat (cs_n S b100) < cs_i S 809 b95 then Int32.ofNat (cs_n S b100) else cs_i S 809 b95).toNatClampNeg ≤ ms ∧ ∀ q102, cs_k S q102 = 0 → ∀ S103, S103 = cs_newA S q102 21 (if Int32.ofNat (cs_n S b100) < cs_i S 809 b95 then Int32.ofNat (cs_n S b100) else cs_i S 809 b95).toNatClampNeg → ¬ (if Int32.ofNat (cs_n S b100) < cs_i S 809 b95 then Int32.ofNat (cs_n S b100) else cs_i S 809 b95) < 0 ∧ (if Int32.ofNat (cs_n S b100) < cs_i S 809 b95 then Int32.ofNat (cs_n S b100) else cs_i S 809 b95).toNatClampNeg * 4 ≤ 536870912 ∧ 0 + 1 + 1 ≤ mc ∧ 0 + (if Int32.ofNat (cs_n S b100) < cs_i S 809 b95 then Int32.ofNat (cs_n S b100) else cs_i S 809 b95).toNatClampNeg + (if Int32.ofNat (cs_n S b100) < cs_i S 809 b95 then Int32.ofNat (cs_n S b100) else cs_i S 809 b95).toNatClampNeg ≤ ms ∧ ∀ q104, cs_k S103 q104 = 0 → ∀ S105, S105 = cs_newA S103 q104 26 (if Int32.ofNat (cs_n S b100) < cs_i S 809 b95 then Int32.ofNat (cs_n S b100) else cs_i S 809 b95).toNatClampNeg → ∃ n9, w_X10_makeEvent_30 post G mc ms n9 S105 (0 + 1 + 1) (0 + (if Int32.ofNat (cs_n S b100) < cs_i S 809 b95 then Int32.ofNat (cs_n S b100) else cs_i S 809 b95).toNatClampNeg + (if Int32.ofNat (cs_n S b100) < cs_i S 809 b95 then Int32.ofNat (cs_n S b100) else cs_i S 809 b95).toNatClampNeg) o (some b95) (some b97) p3 (if Int32.ofNat (cs_n S b100) < cs_i S 809 b95 then Int32.ofNat (cs_n S b100) else cs_i S 809 b95) (some q102) (some q104) 0
set_option maxRecDepth 100000 in
set_option maxHeartbeats 4000000 in
theorem c_X10_makeEvent {l : Launch} {P : hw_G} {G : Nat → Nat} {S : cs_S} {sz : Nat} {mc ms : Nat} {o : Nat} {p1 : Option Nat} {p2 : Option Nat} {p3 : Int32} {post : cs_S → Prop} (h : wp_X10_makeEvent post G mc ms S o p1 p2 p3) : Met l yX10_makeEvent [Cond.code yX10_makeEvent cX10_makeEvent 9 none] (rm_X10_makeEvent mc ms) (cs_Pc P G S sz [.ref o, va_rf p1, va_rf p2, .int p3]) (cs_Qv P (cs_A S sz) post) mc ms (cs_A S sz) := by
  refine cs_met (by decide) rfl (by cases p1 <;> cases p2 <;> exact Nat.le_of_ble_eq_true rfl) ?_
  intro p e s m below meth c ls hC hin hO hT hl
  obtain ⟨hx, hb, hml, hown, hK, -, -⟩ := id hC
  replace hl : lv_has ls 9 [(0, .ref o), (1, va_rf p1), (2, va_rf p2), (3, .int p3)] := by cases p1 <;> cases p2 <;> exact hl
  refine hw_aload_n (x := p1) hx hb dX10_makeEvent_0 rfl (lv_at hl 1 rfl) ?_
  obtain ⟨b95, rfl, h⟩ := h
  obtain ⟨hk96_, h⟩ := h
  refine cs_get hx hb hK hT hown 8 hk96_ (by decide) rfl 9 (by decide) kfX10_157 (v := .int (cs_i S 809 b95)) rfl dX10_makeEvent_1 ?_
  refine hw_aload_n (x := p2) hx hb dX10_makeEvent_4 rfl (lv_at hl 2 rfl) ?_
  obtain ⟨b97, rfl, h⟩ := h
  obtain ⟨hk98_, h⟩ := h
  refine cs_get hx hb hK hT hown 5 hk98_ (by decide) rfl 0 (by decide) kfX10_160 (v := va_rf (cs_r S 500 b97)) rfl dX10_makeEvent_5 ?_
  refine hw_topr (fun r99 er99 => ?_)
  replace h := h r99 er99
  obtain ⟨b100, rfl, h⟩ := h
  obtain ⟨hk101_, h⟩ := h
  refine cs_alen hx hb hK hT 26 hk101_ (by decide) (by decide) dX10_makeEvent_8 ?_
  refine va_mmin hx hb (hml.trans hl.1.symm) hown (hK.word klX10_15m rfl) (hK.word ki_mmin rfl) (hK.word kn_J9 rfl) (hK.word kc_mmin rfl) (Nat.le_of_ble_eq_true rfl) (hw_catN (Nat.le_of_ble_eq_true rfl) (Nat.le_of_ble_eq_true rfl)) (Nat.zero_le _) (Nat.zero_le _) dX10_makeEvent_9 ?_
  refine lv_istore (lv' := [(4, _), (0, _), (1, _), (2, _), (3, _)]) hx hb dX10_makeEvent_12 hl (by decide) rfl (fun ls hl_ => ?_)
  replace hl := hl_
  refine lv_iload hx hb dX10_makeEvent_14 (lv_at hl 0 rfl) ?_
  obtain ⟨hn1, hn2, hu102, hv102, h⟩ := h
  refine cs_newa hx hb hK hT 21 rfl ka_long (by decide) (by decide) rfl hn1 hn2 hu102 hv102 dX10_makeEvent_16 (fun q102 H hq102 hT_ => ?_)
  replace h := h q102 hq102
  replace hT := hT_
  obtain ⟨S103, eS103⟩ : ∃ z, z = cs_newA S q102 21 (if Int32.ofNat (cs_n S b100) < cs_i S 809 b95 then Int32.ofNat (cs_n S b100) else cs_i S 809 b95).toNatClampNeg := ⟨_, rfl⟩
  rw [← eS103] at hT
  replace h := h S103 eS103
  refine lv_astore (lv' := [(5, _), (4, _), (0, _), (1, _), (2, _), (3, _)]) (x := q102) hx hb dX10_makeEvent_18 hl (by decide) rfl (fun ls hl_ => ?_)
  replace hl := hl_
  refine lv_iload hx hb dX10_makeEvent_20 (lv_at hl 1 rfl) ?_
  obtain ⟨hn1, hn2, hu104, hv104, h⟩ := h
  refine cs_anew hx hb hK hT hown 26 rfl kxX10_164 (by decide) (by decide) (by decide) hn1 hn2 hu104 hv104 dX10_makeEvent_22 (fun q104 H hq104 hT_ => ?_)
  replace h := h q104 hq104
  replace hT := hT_
  obtain ⟨S105, eS105⟩ : ∃ z, z = cs_newA S103 q104 26 (if Int32.ofNat (cs_n S b100) < cs_i S 809 b95 then Int32.ofNat (cs_n S b100) else cs_i S 809 b95).toNatClampNeg := ⟨_, rfl⟩
  rw [← eS105] at hT
  replace h := h S105 eS105
  refine lv_astore (lv' := [(6, _), (5, _), (4, _), (0, _), (1, _), (2, _), (3, _)]) (x := q104) hx hb dX10_makeEvent_25 hl (by decide) rfl (fun ls hl_ => ?_)
  replace hl := hl_
  refine lv_iconst (v := 0) hx hb dX10_makeEvent_27 (by decide) ?_
  refine lv_istore (lv' := [(7, _), (6, _), (5, _), (4, _), (0, _), (1, _), (2, _), (3, _)]) hx hb dX10_makeEvent_28 hl (by decide) rfl (fun ls hl_ => ?_)
  replace hl := hl_
  obtain ⟨n9, h⟩ := h
  exact t_X10_makeEvent_30 hC hin hO n9 S105 (0 + 1 + 1) (0 + (if Int32.ofNat (cs_n S b100) < cs_i S 809 b95 then Int32.ofNat (cs_n S b100) else cs_i S 809 b95).toNatClampNeg + (if Int32.ofNat (cs_n S b100) < cs_i S 809 b95 then Int32.ofNat (cs_n S b100) else cs_i S 809 b95).toNatClampNeg) o (some b95) (some b97) p3 (if Int32.ofNat (cs_n S b100) < cs_i S 809 b95 then Int32.ofNat (cs_n S b100) else cs_i S 809 b95) (some q102) (some q104) 0 _ _ _ h hT (lv_sub hl [4, 5, 6, 7, 3, 2, 1, 0] rfl)
