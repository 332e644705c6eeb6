/-! X12_readsField -/
abbrev rm_X12_readsField : Room := { frames := 2, cells := 0, slots := 0, locals := 47 }
def w_X12_readsField_26 (post : Int32 → rf_S → Prop) (σ : rf_S)  : Prop := post 0 σ
section
variable {p : Program} {l : Launch} {e : Env} {s : State} {m : MethodId} {args : Array Value} {below : List Frame} {meth : Method} {c : Code} {P : hw_G} {o : Nat} {ad : Nat → Nat}
set_option maxRecDepth 100000 in
set_option maxHeartbeats 4000000 in
theorem t_X12_readsField_26 {post : Int32 → rf_S → Prop} (hC : rf_C P RX12 p s m meth c cX12_readsField 7 (some .boolean)) (σ : rf_S)  (H : Heap) (locs : List Loc) (ls : Array Slot) (h : w_X12_readsField_26 post σ ) (hT : rf_T P s (rf_A o ad) o ad σ H locs) (hl : lv_has ls 7 []) : W p l e rm_X12_readsField s m args below meth c H locs 0 0 (MQ below (rf_Qi P o ad post) args s 0 0 (rf_A o ad)) (F0 m 26 ls []) := by
  obtain ⟨hx, hb, hml, hown, hK, -, -⟩ := id hC
  refine lv_iconst (v := 0) hx hb dX12_readsField_26 (by decide) ?_
  exact rf_zret hC hT rfl h dX12_readsField_27
end
def w_X12_readsField_308 (post : Int32 → rf_S → Prop) (k199 : rf_S → Int32 → Int32 → Int32 → Prop) (σ : rf_S) (x1 : Int32) (x4 : Int32) (x5 : Int32) : Prop := k199 (rf_ui σ 4 ((σ.1 4) + 1)) x1 x4 (x5 + 1)
section
variable {p : Program} {l : Launch} {e : Env} {s : State} {m : MethodId} {args : Array Value} {below : List Frame} {meth : Method} {c : Code} {P : hw_G} {o : Nat} {ad : Nat → Nat}
set_option maxRecDepth 100000 in
set_option maxHeartbeats 4000000 in
theorem t_X12_readsField_308 {post : Int32 → rf_S → Prop} {k199 : rf_S → Int32 → Int32 → Int32 → Prop} (hC : rf_C P RX12 p s m meth c cX12_readsField 7 (some .boolean)) (hk199 : ∀ (σ : rf_S) (x1 : Int32) (x4 : Int32) (x5 : Int32) (H : Heap) (locs : List Loc) (ls : Array Slot), k199 σ x1 x4 x5 → rf_T P s (rf_A o ad) o ad σ H locs → lv_has ls 7 [(0, .ref o), (1, .int x1), (4, .int x4), (5, .int x5)] → W p l e rm_X12_readsField s m args below meth c H locs 0 0 (MQ below (rf_Qi P o ad post) args s 0 0 (rf_A o ad)) (F0 m 199 ls [])) (σ : rf_S) (x1 : Int32) (x4 : Int32) (x5 : Int32) (H : Heap) (locs : List Loc) (ls : Array Slot) (h : w_X12_readsField_308 post k199 σ x1 x4 x5) (hT : rf_T P s (rf_A o ad) o ad σ H locs) (hl : lv_has ls 7 [(0, .ref o), (1, .int x1), (4, .int x4), (5, .int x5)]) : W p l e rm_X12_readsField s m args below meth c H locs 0 0 (MQ below (rf_Qi P o ad post) args s 0 0 (rf_A o ad)) (F0 m 308 ls []) := by
  obtain ⟨hx, hb, hml, hown, hK, -, -⟩ := id hC
  refine lv_aload_n hx hb dX12_readsField_308 rfl (lv_at hl 0 rfl) ?_
  refine lv_dup hx hb dX12_readsField_309 rfl ?_
  refine rf_get hx hb hK hT hown 4 (by decide) kfX12_104 (v := .int (σ.1 4)) rfl dX12_readsField_310 ?_
  refine lv_iconst (v := 1) hx hb dX12_readsField_313 (by decide) ?_
  refine lv_iadd hx hb dX12_readsField_314 ?_
  refine rf_puti hx hb hK hT hown 4 (by decide) kfX12_104 rfl rfl dX12_readsField_315 (fun H locs hT => ?_)
  refine lv_iinc (v := x5 + 1) (lv' := [(5, _), (0, _), (1, _), (4, _)]) hx hb dX12_readsField_318 hl (k := 3) rfl rfl (by decide) rfl (fun ls hl => ?_)
  refine lv_goto (tgt := 199) hx hb dX12_readsField_321 (by decide) ?_
  exact hk199 (rf_ui σ 4 ((σ.1 4) + 1)) x1 x4 (x5 + 1) _ _ _ h hT (lv_sub hl [1, 2, 3, 0] rfl)
end
def w_X12_readsField_255 (post : Int32 → rf_S → Prop) (σ : rf_S)  : Prop := wp_X12_wrong (fun r10 σ10 => narrow .boolean (.int r10) = .int r10 ∧ post r10 σ10) σ 2 (σ.1 4)
section
variable {p : Program} {l : Launch} {e : Env} {s : State} {m : MethodId} {args : Array Value} {below : List Frame} {meth : Method} {c : Code} {P : hw_G} {o : Nat} {ad : Nat → Nat}
set_option maxRecDepth 100000 in
set_option maxHeartbeats 4000000 in
theorem t_X12_readsField_255 {post : Int32 → rf_S → Prop} (hC : rf_C P RX12 p s m meth c cX12_readsField 7 (some .boolean)) (σ : rf_S)  (H : Heap) (locs : List Loc) (ls : Array Slot) (h : w_X12_readsField_255 post σ ) (hT : rf_T P s (rf_A o ad) o ad σ H locs) (hl : lv_has ls 7 [(0, .ref o)]) : W p l e rm_X12_readsField s m args below meth c H locs 0 0 (MQ below (rf_Qi P o ad post) args s 0 0 (rf_A o ad)) (F0 m 255 ls []) := by
  obtain ⟨hx, hb, hml, hown, hK, -, -⟩ := id hC
  refine lv_aload_n hx hb dX12_readsField_255 rfl (lv_at hl 0 rfl) ?_
  refine lv_iconst (v := 2) hx hb dX12_readsField_256 (by decide) ?_
  refine lv_aload_n hx hb dX12_readsField_257 rfl (lv_at hl 0 rfl) ?_
  refine rf_get hx hb hK hT hown 4 (by decide) kfX12_104 (v := .int (σ.1 4)) rfl dX12_readsField_258 ?_
  refine rf_calli (rf_runV hx hb hml hown hK hT (c_X12_wrong h) rfl rfl klX12_111 ki_X12_wrong ks_X12_wrong kn_X12 kc_X12_wrong 2 ⟨rfl, by decide, by decide, by decide +kernel⟩ ⟨by decide, by decide⟩ rfl hl.1 rfl (Nat.le_of_ble_eq_true rfl) ⟨Nat.le_refl _, Nat.le_refl _⟩ dX12_readsField_261) hT (fun r10 σ10 H locs h hT => ?_)
  exact rf_zret hC hT h.1 h.2 dX12_readsField_264
end
def w_X12_readsField_199 (post : Int32 → rf_S → Prop) : Nat → rf_S → Int32 → Int32 → Int32 → Prop
  | 0, _, _, _, _ => False
  | n + 1, σ, x1, x4, x5 => (x4 ≤ x5 → post 1 σ) ∧ (¬ x4 ≤ x5 → wp_X12_byteAt (fun r11 σ11 => (0 ≤ r11 → vp_in x1 (rf_n 14) ∧ (¬ (σ11.2.2.1 14 x1.toNatClampNeg) = 1 → vp_in x1 (rf_n 15) ∧ vp_in x1 (rf_n 15) ∧ w_X12_readsField_308 post (w_X12_readsField_199 post n) (rf_ua σ11 15 x1.toNatClampNeg (((σ11.2.2.1 15 x1.toNatClampNeg) <<< (8 &&& 31)) ||| r11)) x1 x4 x5) ∧ ((σ11.2.2.1 14 x1.toNatClampNeg) = 1 → (r11 < 32 → w_X12_readsField_255 post σ11) ∧ (¬ r11 < 32 → (r11 ≤ 126 → vp_in (σ11.1 20) (rf_n 18) ∧ w_X12_readsField_308 post (w_X12_readsField_199 post n) (rf_ui (rf_ua σ11 18 (σ11.1 20).toNatClampNeg (vp_nar .byte r11.toInt8.toInt32)) 20 ((σ11.1 20) + 1)) x1 x4 x5) ∧ (¬ r11 ≤ 126 → w_X12_readsField_255 post σ11)))) ∧ (¬ 0 ≤ r11 → wp_X12_wrong (fun r12 σ12 => narrow .boolean (.int r12) = .int r12 ∧ post r12 σ12) σ11 1 (σ11.1 3))) σ (σ.1 4))
section
variable {p : Program} {l : Launch} {e : Env} {s : State} {m : MethodId} {args : Array Value} {below : List Frame} {meth : Method} {c : Code} {P : hw_G} {o : Nat} {ad : Nat → Nat}
set_option maxRecDepth 100000 in
set_option maxHeartbeats 4000000 in
theorem t_X12_readsField_199 {post : Int32 → rf_S → Prop} (hC : rf_C P RX12 p s m meth c cX12_readsField 7 (some .boolean)) : ∀ (n : Nat) (σ : rf_S) (x1 : Int32) (x4 : Int32) (x5 : Int32) (H : Heap) (locs : List Loc) (ls : Array Slot), w_X12_readsField_199 post n σ x1 x4 x5 → rf_T P s (rf_A o ad) o ad σ H locs → lv_has ls 7 [(0, .ref o), (1, .int x1), (4, .int x4), (5, .int x5)] → W p l e rm_X12_readsField s m args below meth c H locs 0 0 (MQ below (rf_Qi P o ad post) args s 0 0 (rf_A o ad)) (F0 m 199 ls []) := by
  obtain ⟨hx, hb, hml, hown, hK, -, -⟩ := id hC
  intro n
  induction n with
  | zero => intro σ x1 x4 x5 H locs ls h; exact False.elim h
  | succ n ih =>
    intro σ x1 x4 x5 H locs ls h hT hl
    refine lv_iload hx hb dX12_readsField_199 (lv_at hl 3 rfl) ?_
    refine lv_iload hx hb dX12_readsField_201 (lv_at hl 2 rfl) ?_
    refine lv_icmp_ge (tgt := 324) hx hb dX12_readsField_203 (by decide) (fun hc => ?_) (fun hc => ?_)
    · have h := h.1 hc
      refine lv_iconst (v := 1) hx hb dX12_readsField_324 (by decide) ?_
      exact rf_zret hC hT rfl h dX12_readsField_325
    · have h := h.2 hc
      refine lv_aload_n hx hb dX12_readsField_206 rfl (lv_at hl 0 rfl) ?_
      refine lv_aload_n hx hb dX12_readsField_207 rfl (lv_at hl 0 rfl) ?_
      refine rf_get hx hb hK hT hown 4 (by decide) kfX12_104 (v := .int (σ.1 4)) rfl dX12_readsField_208 ?_
      refine rf_calli (rf_runV hx hb hml hown hK hT (c_X12_byteAt h) rfl rfl klX12_107 ki_X12_byteAt ks_X12_byteAt kn_X12 kc_X12_byteAt 1 ⟨rfl, by decide, by decide, by decide +kernel⟩ ⟨by decide, by decide⟩ rfl hl.1 rfl (Nat.le_of_ble_eq_true rfl) ⟨Nat.le_refl _, Nat.le_refl _⟩ dX12_readsField_211) hT (fun r11 σ11 H locs h hT => ?_)
      refine lv_istore (lv' := [(6, _), (0, _), (1, _), (4, _), (5, _)]) hx hb dX12_readsField_214 hl (by decide) rfl (fun ls hl => ?_)
      refine lv_iload hx hb dX12_readsField_216 (lv_at hl 0 rfl) ?_
      refine lv_if_ge (tgt := 231) hx hb dX12_readsField_218 (by decide) (fun hc => ?_) (fun hc => ?_)
      · have h := h.1 hc
        refine lv_aload_n hx hb dX12_readsField_231 rfl (lv_at hl 1 rfl) ?_
        refine rf_get hx hb hK hT hown 14 (by decide) kfX12_27 (v := .ref (ad 14)) rfl dX12_readsField_232 ?_
        refine lv_iload_n hx hb dX12_readsField_235 rfl (lv_at hl 2 rfl) ?_
        obtain ⟨hi, h⟩ := h
        refine rf_bald hx hb hK hT 14 (by decide) rfl hi (v := σ11.2.2.1 14 x1.toNatClampNeg) rfl dX12_readsField_236 ?_
        refine lv_iconst (v := 1) hx hb dX12_readsField_237 (by decide) ?_
        refine lv_icmp_ne (tgt := 290) hx hb dX12_readsField_238 (by decide) (fun hc => ?_) (fun hc => ?_)
        · have h := h.1 hc
          refine lv_aload_n hx hb dX12_readsField_290 rfl (lv_at hl 1 rfl) ?_
          refine rf_get hx hb hK hT hown 15 (by decide) kfX12_30 (v := .ref (ad 15)) rfl dX12_readsField_291 ?_
          refine lv_iload_n hx hb dX12_readsField_294 rfl (lv_at hl 2 rfl) ?_
          refine lv_aload_n hx hb dX12_readsField_295 rfl (lv_at hl 1 rfl) ?_
          refine rf_get hx hb hK hT hown 15 (by decide) kfX12_30 (v := .ref (ad 15)) rfl dX12_readsField_296 ?_
          refine lv_iload_n hx hb dX12_readsField_299 rfl (lv_at hl 2 rfl) ?_
          obtain ⟨hi, h⟩ := h
          refine rf_iald hx hb hK hT 15 (by decide) rfl hi (v := σ11.2.2.1 15 x1.toNatClampNeg) rfl dX12_readsField_300 ?_
          refine lv_bipush (v := 8) hx hb dX12_readsField_301 (by decide) ?_
          refine lv_ishl hx hb dX12_readsField_303 ?_
          refine lv_iload hx hb dX12_readsField_304 (lv_at hl 0 rfl) ?_
          refine lv_ior hx hb dX12_readsField_306 ?_
          obtain ⟨hi, h⟩ := h
          refine rf_iast hx hb hK hT 15 (by decide) rfl hi dX12_readsField_307 (fun H locs hT => ?_)
          exact t_X12_readsField_308 hC ih (rf_ua σ11 15 x1.toNatClampNeg (((σ11.2.2.1 15 x1.toNatClampNeg) <<< (8 &&& 31)) ||| r11)) x1 x4 x5 _ _ _ h hT (lv_sub hl [1, 2, 3, 4] rfl)
        · have h := h.2 hc
          refine lv_iload hx hb dX12_readsField_241 (lv_at hl 0 rfl) ?_
          refine lv_bipush (v := 32) hx hb dX12_readsField_243 (by decide) ?_
          refine lv_icmp_lt (tgt := 255) hx hb dX12_readsField_245 (by decide) (fun hc => ?_) (fun hc => ?_)
          · have h := h.1 hc
            exact t_X12_readsField_255 hC σ11 _ _ _ h hT (lv_sub hl [1] rfl)
          · have h := h.2 hc
            refine lv_iload hx hb dX12_readsField_248 (lv_at hl 0 rfl) ?_
            refine lv_bipush (v := 126) hx hb dX12_readsField_250 (by decide) ?_
            refine lv_icmp_le (tgt := 265) hx hb dX12_readsField_252 (by decide) (fun hc => ?_) (fun hc => ?_)
            · have h := h.1 hc
              refine lv_aload_n hx hb dX12_readsField_265 rfl (lv_at hl 1 rfl) ?_
              refine rf_get hx hb hK hT hown 18 (by decide) kfX12_34 (v := .ref (ad 18)) rfl dX12_readsField_266 ?_
              refine lv_aload_n hx hb dX12_readsField_269 rfl (lv_at hl 1 rfl) ?_
              refine rf_get hx hb hK hT hown 20 (by decide) kfX12_61 (v := .int (σ11.1 20)) rfl dX12_readsField_270 ?_
              refine lv_iload hx hb dX12_readsField_273 (lv_at hl 0 rfl) ?_
              refine lv_i2b (v := r11.toInt8.toInt32) hx hb dX12_readsField_275 rfl ?_
              obtain ⟨hi, h⟩ := h
              refine rf_bast hx hb hK hT 18 (by decide) rfl hi dX12_readsField_276 (fun H locs hT => ?_)
              refine lv_aload_n hx hb dX12_readsField_277 rfl (lv_at hl 1 rfl) ?_
              refine lv_dup hx hb dX12_readsField_278 rfl ?_
              refine rf_get hx hb hK hT hown 20 (by decide) kfX12_61 (v := .int (σ11.1 20)) rfl dX12_readsField_279 ?_
              refine lv_iconst (v := 1) hx hb dX12_readsField_282 (by decide) ?_
              refine lv_iadd hx hb dX12_readsField_283 ?_
              refine rf_puti hx hb hK hT hown 20 (by decide) kfX12_61 rfl rfl dX12_readsField_284 (fun H locs hT => ?_)
              refine lv_goto (tgt := 308) hx hb dX12_readsField_287 (by decide) ?_
              exact t_X12_readsField_308 hC ih (rf_ui (rf_ua σ11 18 (σ11.1 20).toNatClampNeg (vp_nar .byte r11.toInt8.toInt32)) 20 ((σ11.1 20) + 1)) x1 x4 x5 _ _ _ h hT (lv_sub hl [1, 2, 3, 4] rfl)
            · have h := h.2 hc
              exact t_X12_readsField_255 hC σ11 _ _ _ h hT (lv_sub hl [1] rfl)
      · have h := h.2 hc
        refine lv_aload_n hx hb dX12_readsField_221 rfl (lv_at hl 1 rfl) ?_
        refine lv_iconst (v := 1) hx hb dX12_readsField_222 (by decide) ?_
        refine lv_aload_n hx hb dX12_readsField_223 rfl (lv_at hl 1 rfl) ?_
        refine rf_get hx hb hK hT hown 3 (by decide) kfX12_24 (v := .int (σ11.1 3)) rfl dX12_readsField_224 ?_
        refine rf_calli (rf_runV hx hb hml hown hK hT (c_X12_wrong h) rfl rfl klX12_111 ki_X12_wrong ks_X12_wrong kn_X12 kc_X12_wrong 2 ⟨rfl, by decide, by decide, by decide +kernel⟩ ⟨by decide, by decide⟩ rfl hl.1 rfl (Nat.le_of_ble_eq_true rfl) ⟨Nat.le_refl _, Nat.le_refl _⟩ dX12_readsField_227) hT (fun r12 σ12 H locs h hT => ?_)
        exact rf_zret hC hT h.1 h.2 dX12_readsField_230
end
def w_X12_readsField_190 (post : Int32 → rf_S → Prop) (σ : rf_S) (x1 : Int32) : Prop := ∃ n9, w_X12_readsField_199 post n9 σ x1 (σ.1 28) 0
section
variable {p : Program} {l : Launch} {e : Env} {s : State} {m : MethodId} {args : Array Value} {below : List Frame} {meth : Method} {c : Code} {P : hw_G} {o : Nat} {ad : Nat → Nat}
set_option maxRecDepth 100000 in
set_option maxHeartbeats 4000000 in
theorem t_X12_readsField_190 {post : Int32 → rf_S → Prop} (hC : rf_C P RX12 p s m meth c cX12_readsField 7 (some .boolean)) (σ : rf_S) (x1 : Int32) (H : Heap) (locs : List Loc) (ls : Array Slot) (h : w_X12_readsField_190 post σ x1) (hT : rf_T P s (rf_A o ad) o ad σ H locs) (hl : lv_has ls 7 [(0, .ref o), (1, .int x1)]) : W p l e rm_X12_readsField s m args below meth c H locs 0 0 (MQ below (rf_Qi P o ad post) args s 0 0 (rf_A o ad)) (F0 m 190 ls []) := by
  obtain ⟨hx, hb, hml, hown, hK, -, -⟩ := id hC
  refine lv_aload_n hx hb dX12_readsField_190 rfl (lv_at hl 0 rfl) ?_
  refine rf_get hx hb hK hT hown 28 (by decide) kfX12_120 (v := .int (σ.1 28)) rfl dX12_readsField_191 ?_
  refine lv_istore (lv' := [(4, _), (0, _), (1, _)]) hx hb dX12_readsField_194 hl (by decide) rfl (fun ls hl => ?_)
  refine lv_iconst (v := 0) hx hb dX12_readsField_196 (by decide) ?_
  refine lv_istore (lv' := [(5, _), (4, _), (0, _), (1, _)]) hx hb dX12_readsField_197 hl (by decide) rfl (fun ls hl => ?_)
  obtain ⟨n9, h⟩ := h
  exact t_X12_readsField_199 hC n9 σ x1 (σ.1 28) 0 _ _ _ h hT (lv_sub hl [2, 3, 1, 0] rfl)
end
def w_X12_readsField_67 (post : Int32 → rf_S → Prop) (σ : rf_S) (x1 : Int32) : Prop := wp_X12_readsCount (fun r13 σ13 => (¬ r13 = 0 → vp_in x1 (rf_n 14) ∧ vp_in x1 (rf_n 16) ∧ (¬ (σ13.1 28) = 0 → (¬ (σ13.1 28) = 1 → vp_in x1 (rf_n 15) ∧ w_X12_readsField_190 post (rf_ua (rf_ui (rf_ua (rf_ua σ13 14 x1.toNatClampNeg (vp_nar .byte ((σ13.1 28).toInt8.toInt32))) 16 x1.toNatClampNeg 0) 28 4) 15 x1.toNatClampNeg 0) x1) ∧ ((σ13.1 28) = 1 → wp_X12_readsCount (fun r14 σ14 => (¬ r14 = 0 → vp_in x1 (rf_n 15) ∧ vp_in x1 (rf_n 16) ∧ w_X12_readsField_190 post (rf_ua (rf_ua σ14 15 x1.toNatClampNeg (σ14.1 28)) 16 x1.toNatClampNeg (σ14.1 20)) x1) ∧ (r14 = 0 → post 0 σ14)) (rf_ua (rf_ua σ13 14 x1.toNatClampNeg (vp_nar .byte ((σ13.1 28).toInt8.toInt32))) 16 x1.toNatClampNeg 0) 0 24)) ∧ ((σ13.1 28) = 0 → wp_X12_readsUnsigned (fun r15 σ15 => (¬ r15 = 0 → vp_in x1 (rf_n 15) ∧ post 1 (rf_ua σ15 15 x1.toNatClampNeg ((((σ15.2.1 27) >>> ((1 : Int32).toInt64 &&& 63)) ^^^ (-((σ15.2.1 27) &&& 1))).toInt32))) ∧ (r15 = 0 → post 0 σ15)) (rf_ua (rf_ua σ13 14 x1.toNatClampNeg (vp_nar .byte ((σ13.1 28).toInt8.toInt32))) 16 x1.toNatClampNeg 0))) ∧ (r13 = 0 → post 0 σ13)) σ 0 2
section
variable {p : Program} {l : Launch} {e : Env} {s : State} {m : MethodId} {args : Array Value} {below : List Frame} {meth : Method} {c : Code} {P : hw_G} {o : Nat} {ad : Nat → Nat}
set_option maxRecDepth 100000 in
set_option maxHeartbeats 4000000 in
theorem t_X12_readsField_67 {post : Int32 → rf_S → Prop} (hC : rf_C P RX12 p s m meth c cX12_readsField 7 (some .boolean)) (σ : rf_S) (x1 : Int32) (H : Heap) (locs : List Loc) (ls : Array Slot) (h : w_X12_readsField_67 post σ x1) (hT : rf_T P s (rf_A o ad) o ad σ H locs) (hl : lv_has ls 7 [(0, .ref o), (1, .int x1)]) : W p l e rm_X12_readsField s m args below meth c H locs 0 0 (MQ below (rf_Qi P o ad post) args s 0 0 (rf_A o ad)) (F0 m 67 ls []) := by
  obtain ⟨hx, hb, hml, hown, hK, -, -⟩ := id hC
  refine lv_aload_n hx hb dX12_readsField_67 rfl (lv_at hl 0 rfl) ?_
  refine lv_iconst (v := 0) hx hb dX12_readsField_68 (by decide) ?_
  refine lv_iconst (v := 2) hx hb dX12_readsField_69 (by decide) ?_
  refine rf_calli (rf_runV hx hb hml hown hK hT (c_X12_readsCount h) rfl rfl klX12_138 ki_X12_readsCount ks_X12_readsCount kn_X12 kc_X12_readsCount 2 ⟨rfl, by decide, by decide, by decide +kernel⟩ ⟨by decide, by decide⟩ rfl hl.1 rfl (Nat.le_of_ble_eq_true rfl) ⟨Nat.le_refl _, Nat.le_refl _⟩ dX12_readsField_70) hT (fun r13 σ13 H locs h hT => ?_)
  refine lv_if_ne (tgt := 78) hx hb dX12_readsField_73 (by decide) (fun hc => ?_) (fun hc => ?_)
  · have h := h.1 hc
    refine lv_aload_n hx hb dX12_readsField_78 rfl (lv_at hl 0 rfl) ?_
    refine rf_get hx hb hK hT hown 14 (by decide) kfX12_27 (v := .ref (ad 14)) rfl dX12_readsField_79 ?_
    refine lv_iload_n hx hb dX12_readsField_82 rfl (lv_at hl 1 rfl) ?_
    refine lv_aload_n hx hb dX12_readsField_83 rfl (lv_at hl 0 rfl) ?_
    refine rf_get hx hb hK hT hown 28 (by decide) kfX12_120 (v := .int (σ13.1 28)) rfl dX12_readsField_84 ?_
    refine lv_i2b (v := (σ13.1 28).toInt8.toInt32) hx hb dX12_readsField_87 rfl ?_
    obtain ⟨hi, h⟩ := h
    refine rf_bast hx hb hK hT 14 (by decide) rfl hi dX12_readsField_88 (fun H locs hT => ?_)
    refine lv_aload_n hx hb dX12_readsField_89 rfl (lv_at hl 0 rfl) ?_
    refine rf_get hx hb hK hT hown 16 (by decide) kfX12_37 (v := .ref (ad 16)) rfl dX12_readsField_90 ?_
    refine lv_iload_n hx hb dX12_readsField_93 rfl (lv_at hl 1 rfl) ?_
    refine lv_iconst (v := 0) hx hb dX12_readsField_94 (by decide) ?_
    obtain ⟨hi, h⟩ := h
    refine rf_iast hx hb hK hT 16 (by decide) rfl hi dX12_readsField_95 (fun H locs hT => ?_)
    refine lv_aload_n hx hb dX12_readsField_96 rfl (lv_at hl 0 rfl) ?_
    refine rf_get hx hb hK hT hown 28 (by decide) kfX12_120 (v := .int (σ13.1 28)) rfl dX12_readsField_97 ?_
    refine lv_if_ne (tgt := 135) hx hb dX12_readsField_100 (by decide) (fun hc => ?_) (fun hc => ?_)
    · have h := h.1 hc
      refine lv_aload_n hx hb dX12_readsField_135 rfl (lv_at hl 0 rfl) ?_
      refine rf_get hx hb hK hT hown 28 (by decide) kfX12_120 (v := .int (σ13.1 28)) rfl dX12_readsField_136 ?_
      refine lv_iconst (v := 1) hx hb dX12_readsField_139 (by decide) ?_
      refine lv_icmp_ne (tgt := 178) hx hb dX12_readsField_140 (by decide) (fun hc => ?_) (fun hc => ?_)
      · have h := h.1 hc
        refine lv_aload_n hx hb dX12_readsField_178 rfl (lv_at hl 0 rfl) ?_
        refine lv_iconst (v := 4) hx hb dX12_readsField_179 (by decide) ?_
        refine rf_puti hx hb hK hT hown 28 (by decide) kfX12_120 rfl rfl dX12_readsField_180 (fun H locs hT => ?_)
        refine lv_aload_n hx hb dX12_readsField_183 rfl (lv_at hl 0 rfl) ?_
        refine rf_get hx hb hK hT hown 15 (by decide) kfX12_30 (v := .ref (ad 15)) rfl dX12_readsField_184 ?_
        refine lv_iload_n hx hb dX12_readsField_187 rfl (lv_at hl 1 rfl) ?_
        refine lv_iconst (v := 0) hx hb dX12_readsField_188 (by decide) ?_
        obtain ⟨hi, h⟩ := h
        refine rf_iast hx hb hK hT 15 (by decide) rfl hi dX12_readsField_189 (fun H locs hT => ?_)
        exact t_X12_readsField_190 hC (rf_ua (rf_ui (rf_ua (rf_ua σ13 14 x1.toNatClampNeg (vp_nar .byte ((σ13.1 28).toInt8.toInt32))) 16 x1.toNatClampNeg 0) 28 4) 15 x1.toNatClampNeg 0) x1 _ _ _ h hT (lv_sub hl [0, 1] rfl)
      · have h := h.2 hc
        refine lv_aload_n hx hb dX12_readsField_143 rfl (lv_at hl 0 rfl) ?_
        refine lv_iconst (v := 0) hx hb dX12_readsField_144 (by decide) ?_
        refine lv_bipush (v := 24) hx hb dX12_readsField_145 (by decide) ?_
        refine rf_calli (rf_runV hx hb hml hown hK hT (c_X12_readsCount h) rfl rfl klX12_138 ki_X12_readsCount ks_X12_readsCount kn_X12 kc_X12_readsCount 2 ⟨rfl, by decide, by decide, by decide +kernel⟩ ⟨by decide, by decide⟩ rfl hl.1 rfl (Nat.le_of_ble_eq_true rfl) ⟨Nat.le_refl _, Nat.le_refl _⟩ dX12_readsField_147) hT (fun r14 σ14 H locs h hT => ?_)
        refine lv_if_ne (tgt := 155) hx hb dX12_readsField_150 (by decide) (fun hc => ?_) (fun hc => ?_)
        · have h := h.1 hc
          refine lv_aload_n hx hb dX12_readsField_155 rfl (lv_at hl 0 rfl) ?_
          refine rf_get hx hb hK hT hown 15 (by decide) kfX12_30 (v := .ref (ad 15)) rfl dX12_readsField_156 ?_
          refine lv_iload_n hx hb dX12_readsField_159 rfl (lv_at hl 1 rfl) ?_
          refine lv_aload_n hx hb dX12_readsField_160 rfl (lv_at hl 0 rfl) ?_
          refine rf_get hx hb hK hT hown 28 (by decide) kfX12_120 (v := .int (σ14.1 28)) rfl dX12_readsField_161 ?_
          obtain ⟨hi, h⟩ := h
          refine rf_iast hx hb hK hT 15 (by decide) rfl hi dX12_readsField_164 (fun H locs hT => ?_)
          refine lv_aload_n hx hb dX12_readsField_165 rfl (lv_at hl 0 rfl) ?_
          refine rf_get hx hb hK hT hown 16 (by decide) kfX12_37 (v := .ref (ad 16)) rfl dX12_readsField_166 ?_
          refine lv_iload_n hx hb dX12_readsField_169 rfl (lv_at hl 1 rfl) ?_
          refine lv_aload_n hx hb dX12_readsField_170 rfl (lv_at hl 0 rfl) ?_
          refine rf_get hx hb hK hT hown 20 (by decide) kfX12_61 (v := .int (σ14.1 20)) rfl dX12_readsField_171 ?_
          obtain ⟨hi, h⟩ := h
          refine rf_iast hx hb hK hT 16 (by decide) rfl hi dX12_readsField_174 (fun H locs hT => ?_)
          refine lv_goto (tgt := 190) hx hb dX12_readsField_175 (by decide) ?_
          exact t_X12_readsField_190 hC (rf_ua (rf_ua σ14 15 x1.toNatClampNeg (σ14.1 28)) 16 x1.toNatClampNeg (σ14.1 20)) x1 _ _ _ h hT (lv_sub hl [0, 1] rfl)
        · have h := h.2 hc
          refine lv_iconst (v := 0) hx hb dX12_readsField_153 (by decide) ?_
          exact rf_zret hC hT rfl h dX12_readsField_154
    · have h := h.2 hc
      refine lv_aload_n hx hb dX12_readsField_103 rfl (lv_at hl 0 rfl) ?_
      refine rf_calli (rf_runV hx hb hml hown hK hT (c_X12_readsUnsigned h) rfl rfl klX12_129 ki_X12_readsUnsigned ks_X12_readsUnsigned kn_X12 kc_X12_readsUnsigned 0 ⟨rfl, by decide, by decide, by decide +kernel⟩ ⟨by decide, by decide⟩ rfl hl.1 rfl (Nat.le_of_ble_eq_true rfl) ⟨Nat.le_refl _, Nat.le_refl _⟩ dX12_readsField_104) hT (fun r15 σ15 H locs h hT => ?_)
      refine lv_if_ne (tgt := 112) hx hb dX12_readsField_107 (by decide) (fun hc => ?_) (fun hc => ?_)
      · have h := h.1 hc
        refine lv_aload_n hx hb dX12_readsField_112 rfl (lv_at hl 0 rfl) ?_
        refine rf_get hx hb hK hT hown 15 (by decide) kfX12_30 (v := .ref (ad 15)) rfl dX12_readsField_113 ?_
        refine lv_iload_n hx hb dX12_readsField_116 rfl (lv_at hl 1 rfl) ?_
        refine lv_aload_n hx hb dX12_readsField_117 rfl (lv_at hl 0 rfl) ?_
        refine rf_get hx hb hK hT hown 27 (by decide) kfX12_114 (v := .long (σ15.2.1 27)) rfl dX12_readsField_118 ?_
        refine lv_iconst (v := 1) hx hb dX12_readsField_121 (by decide) ?_
        refine lv_lshr (v := (σ15.2.1 27) >>> ((1 : Int32).toInt64 &&& 63)) hx hb dX12_readsField_122 rfl ?_
        refine lv_aload_n hx hb dX12_readsField_123 rfl (lv_at hl 0 rfl) ?_
        refine rf_get hx hb hK hT hown 27 (by decide) kfX12_114 (v := .long (σ15.2.1 27)) rfl dX12_readsField_124 ?_
        refine lv_lconst (v := 1) hx hb dX12_readsField_127 (by decide) ?_
        refine lv_land hx hb dX12_readsField_128 ?_
        refine lv_lneg hx hb dX12_readsField_129 ?_
        refine lv_lxor hx hb dX12_readsField_130 ?_
        refine lv_l2i (v := (((σ15.2.1 27) >>> ((1 : Int32).toInt64 &&& 63)) ^^^ (-((σ15.2.1 27) &&& 1))).toInt32) hx hb dX12_readsField_131 rfl ?_
        obtain ⟨hi, h⟩ := h
        refine rf_iast hx hb hK hT 15 (by decide) rfl hi dX12_readsField_132 (fun H locs hT => ?_)
        refine lv_iconst (v := 1) hx hb dX12_readsField_133 (by decide) ?_
        exact rf_zret hC hT rfl h dX12_readsField_134
      · have h := h.2 hc
        refine lv_iconst (v := 0) hx hb dX12_readsField_110 (by decide) ?_
        exact rf_zret hC hT rfl h dX12_readsField_111
  · have h := h.2 hc
    refine lv_iconst (v := 0) hx hb dX12_readsField_76 (by decide) ?_
    exact rf_zret hC hT rfl h dX12_readsField_77
end
def wp_X12_readsField (post : Int32 → rf_S → Prop) (σ : rf_S) (p1 : Int32) (p2 : Int32) : Prop := wp_X12_readsCount (fun r16 σ16 => (r16 = 0 → w_X12_readsField_26 post σ16) ∧ (¬ r16 = 0 → wp_X12_readsLetters (fun r17 σ17 => (¬ r17 = 0 → vp_in p1 (rf_n 13) ∧ (p2 ≤ 0 → w_X12_readsField_67 post (rf_ub σ17 13 p1.toNatClampNeg (σ17.2.1 29)) p1) ∧ (¬ p2 ≤ 0 → vp_in p1 (rf_n 13) ∧ vp_in (p1 - 1) (rf_n 13) ∧ (0 < (lg_cmp ((rf_ub σ17 13 p1.toNatClampNeg (σ17.2.1 29)).2.2.2 13 p1.toNatClampNeg) ((rf_ub σ17 13 p1.toNatClampNeg (σ17.2.1 29)).2.2.2 13 (p1 - 1).toNatClampNeg)) → w_X12_readsField_67 post (rf_ub σ17 13 p1.toNatClampNeg (σ17.2.1 29)) p1) ∧ (¬ 0 < (lg_cmp ((rf_ub σ17 13 p1.toNatClampNeg (σ17.2.1 29)).2.2.2 13 p1.toNatClampNeg) ((rf_ub σ17 13 p1.toNatClampNeg (σ17.2.1 29)).2.2.2 13 (p1 - 1).toNatClampNeg)) → wp_X12_wrong (fun r18 σ18 => narrow .boolean (.int r18) = .int r18 ∧ post r18 σ18) (rf_ub σ17 13 p1.toNatClampNeg (σ17.2.1 29)) 2 (σ.1 4)))) ∧ (r17 = 0 → w_X12_readsField_26 post σ17)) σ16 (σ16.1 28))) σ 1 8
set_option maxRecDepth 100000 in
set_option maxHeartbeats 4000000 in
theorem c_X12_readsField {l : Launch} {P : hw_G} {o : Nat} {ad : Nat → Nat} {σ : rf_S} {p1 : Int32} {p2 : Int32} {post : Int32 → rf_S → Prop} (h : wp_X12_readsField post σ p1 p2) : Met l yX12_readsField [Cond.code yX12_readsField cX12_readsField 7 (some .boolean)] rm_X12_readsField (rf_Pc P o ad σ [.ref o, .int p1, .int p2]) (rf_Qi P o ad post) 0 0 (rf_A o ad) := by
  refine rf_met (by decide) rfl (Nat.le_of_ble_eq_true rfl) ?_
  intro p e s m below meth c ls hC hT hl
  obtain ⟨hx, hb, hml, hown, hK, -, -⟩ := id hC
  have hl : lv_has ls 7 [(0, .ref o), (1, .int p1), (2, .int p2)] := hl
  refine lv_aload_n hx hb dX12_readsField_0 rfl (lv_at hl 0 rfl) ?_
  refine rf_get hx hb hK hT hown 4 (by decide) kfX12_104 (v := .int (σ.1 4)) rfl dX12_readsField_1 ?_
  refine lv_istore_n (lv' := [(3, _), (0, _), (1, _), (2, _)]) hx hb dX12_readsField_4 rfl hl (by decide) rfl (fun ls hl => ?_)
  refine lv_aload_n hx hb dX12_readsField_5 rfl (lv_at hl 1 rfl) ?_
  refine lv_iconst (v := 1) hx hb dX12_readsField_6 (by decide) ?_
  refine lv_bipush (v := 8) hx hb dX12_readsField_7 (by decide) ?_
  refine rf_calli (rf_runV hx hb hml hown hK hT (c_X12_readsCount h) rfl rfl klX12_138 ki_X12_readsCount ks_X12_readsCount kn_X12 kc_X12_readsCount 2 ⟨rfl, by decide, by decide, by decide +kernel⟩ ⟨by decide, by decide⟩ rfl hl.1 rfl (Nat.le_of_ble_eq_true rfl) ⟨Nat.le_refl _, Nat.le_refl _⟩ dX12_readsField_9) hT (fun r16 σ16 H locs h hT => ?_)
  refine lv_if_eq (tgt := 26) hx hb dX12_readsField_12 (by decide) (fun hc => ?_) (fun hc => ?_)
  · have h := h.1 hc
    exact t_X12_readsField_26 hC σ16 _ _ _ h hT (lv_sub hl [] rfl)
  · have h := h.2 hc
    refine lv_aload_n hx hb dX12_readsField_15 rfl (lv_at hl 1 rfl) ?_
    refine lv_aload_n hx hb dX12_readsField_16 rfl (lv_at hl 1 rfl) ?_
    refine rf_get hx hb hK hT hown 28 (by decide) kfX12_120 (v := .int (σ16.1 28)) rfl dX12_readsField_17 ?_
    refine rf_calli (rf_runV hx hb hml hown hK hT (c_X12_readsLetters h) rfl rfl klX12_141 ki_X12_readsLetters ks_X12_readsLetters kn_X12 kc_X12_readsLetters 1 ⟨rfl, by decide, by decide, by decide +kernel⟩ ⟨by decide, by decide⟩ rfl hl.1 rfl (Nat.le_of_ble_eq_true rfl) ⟨Nat.le_refl _, Nat.le_refl _⟩ dX12_readsField_20) hT (fun r17 σ17 H locs h hT => ?_)
    refine lv_if_ne (tgt := 28) hx hb dX12_readsField_23 (by decide) (fun hc => ?_) (fun hc => ?_)
    · have h := h.1 hc
      refine lv_aload_n hx hb dX12_readsField_28 rfl (lv_at hl 1 rfl) ?_
      refine rf_get hx hb hK hT hown 13 (by decide) kfX12_100 (v := .ref (ad 13)) rfl dX12_readsField_29 ?_
      refine lv_iload_n hx hb dX12_readsField_32 rfl (lv_at hl 2 rfl) ?_
      refine lv_aload_n hx hb dX12_readsField_33 rfl (lv_at hl 1 rfl) ?_
      refine rf_get hx hb hK hT hown 29 (by decide) kfX12_123 (v := .long (σ17.2.1 29)) rfl dX12_readsField_34 ?_
      obtain ⟨hi, h⟩ := h
      refine rf_last hx hb hK hT 13 (by decide) rfl hi dX12_readsField_37 (fun H locs hT => ?_)
      refine lv_iload_n hx hb dX12_readsField_38 rfl (lv_at hl 3 rfl) ?_
      refine lv_if_le (tgt := 67) hx hb dX12_readsField_39 (by decide) (fun hc => ?_) (fun hc => ?_)
      · have h := h.1 hc
        exact t_X12_readsField_67 hC (rf_ub σ17 13 p1.toNatClampNeg (σ17.2.1 29)) p1 _ _ _ h hT (lv_sub hl [1, 2] rfl)
      · have h := h.2 hc
        refine lv_aload_n hx hb dX12_readsField_42 rfl (lv_at hl 1 rfl) ?_
        refine rf_get hx hb hK hT hown 13 (by decide) kfX12_100 (v := .ref (ad 13)) rfl dX12_readsField_43 ?_
        refine lv_iload_n hx hb dX12_readsField_46 rfl (lv_at hl 2 rfl) ?_
        obtain ⟨hi, h⟩ := h
        refine rf_lald hx hb hK hT 13 (by decide) rfl hi (v := (rf_ub σ17 13 p1.toNatClampNeg (σ17.2.1 29)).2.2.2 13 p1.toNatClampNeg) rfl dX12_readsField_47 ?_
        refine lv_aload_n hx hb dX12_readsField_48 rfl (lv_at hl 1 rfl) ?_
        refine rf_get hx hb hK hT hown 13 (by decide) kfX12_100 (v := .ref (ad 13)) rfl dX12_readsField_49 ?_
        refine lv_iload_n hx hb dX12_readsField_52 rfl (lv_at hl 2 rfl) ?_
        refine lv_iconst (v := 1) hx hb dX12_readsField_53 (by decide) ?_
        refine lv_isub hx hb dX12_readsField_54 ?_
        obtain ⟨hi, h⟩ := h
        refine rf_lald hx hb hK hT 13 (by decide) rfl hi (v := (rf_ub σ17 13 p1.toNatClampNeg (σ17.2.1 29)).2.2.2 13 (p1 - 1).toNatClampNeg) rfl dX12_readsField_55 ?_
        refine W.lcmp hx hb dX12_readsField_56 ?_
        refine lv_if_gt (tgt := 67) hx hb dX12_readsField_57 (by decide) (fun hc => ?_) (fun hc => ?_)
        · have h := h.1 hc
          exact t_X12_readsField_67 hC (rf_ub σ17 13 p1.toNatClampNeg (σ17.2.1 29)) p1 _ _ _ h hT (lv_sub hl [1, 2] rfl)
        · have h := h.2 hc
          refine lv_aload_n hx hb dX12_readsField_60 rfl (lv_at hl 1 rfl) ?_
          refine lv_iconst (v := 2) hx hb dX12_readsField_61 (by decide) ?_
          refine lv_iload_n hx hb dX12_readsField_62 rfl (lv_at hl 0 rfl) ?_
          refine rf_calli (rf_runV hx hb hml hown hK hT (c_X12_wrong h) rfl rfl klX12_111 ki_X12_wrong ks_X12_wrong kn_X12 kc_X12_wrong 2 ⟨rfl, by decide, by decide, by decide +kernel⟩ ⟨by decide, by decide⟩ rfl hl.1 rfl (Nat.le_of_ble_eq_true rfl) ⟨Nat.le_refl _, Nat.le_refl _⟩ dX12_readsField_63) hT (fun r18 σ18 H locs h hT => ?_)
          exact rf_zret hC hT h.1 h.2 dX12_readsField_66
    · have h := h.2 hc
      exact t_X12_readsField_26 hC σ17 _ _ _ h hT (lv_sub hl [] rfl)
/-! X12_mixed -/
abbrev rm_X12_mixed : Room := { frames := 0, cells := 0, slots := 0, locals := 0 }
def w_X12_mixed_32 (post : Int32 → rf_S → Prop) (k6 : rf_S → Int32 → Int32 → Prop) (σ : rf_S) (x3 : Int32) (y0 : Int32) : Prop := k6 σ y0 (x3 + 1)
section
variable {p : Program} {l : Launch} {e : Env} {s : State} {m : MethodId} {args : Array Value} {below : List Frame} {meth : Method} {c : Code} {P : hw_G} {o : Nat} {ad : Nat → Nat}
set_option maxRecDepth 100000 in
set_option maxHeartbeats 4000000 in
theorem t_X12_mixed_32 {post : Int32 → rf_S → Prop} {k6 : rf_S → Int32 → Int32 → Prop} (hC : rf_C P RX12 p s m meth c cX12_mixed 4 (some .int)) (hk6 : ∀ (σ : rf_S) (x2 : Int32) (x3 : Int32) (H : Heap) (locs : List Loc) (ls : Array Slot), k6 σ x2 x3 → rf_T P s (rf_A o ad) o ad σ H locs → lv_has ls 4 [(2, .int x2), (3, .int x3)] → W p l e rm_X12_mixed s m args below meth c H locs 0 0 (MQ below (rf_Qi P o ad post) args s 0 0 (rf_A o ad)) (F0 m 6 ls [])) (σ : rf_S) (x3 : Int32) (y0 : Int32) (H : Heap) (locs : List Loc) (ls : Array Slot) (h : w_X12_mixed_32 post k6 σ x3 y0) (hT : rf_T P s (rf_A o ad) o ad σ H locs) (hl : lv_has ls 4 [(3, .int x3)]) : W p l e rm_X12_mixed s m args below meth c H locs 0 0 (MQ below (rf_Qi P o ad post) args s 0 0 (rf_A o ad)) (F0 m 32 ls [.int y0]) := by
  obtain ⟨hx, hb, hml, hown, hK, -, -⟩ := id hC
  refine lv_istore_n (lv' := [(2, _), (3, _)]) hx hb dX12_mixed_32 rfl hl (by decide) rfl (fun ls hl => ?_)
  refine lv_iinc (v := x3 + 1) (lv' := [(3, _), (2, _)]) hx hb dX12_mixed_33 hl (k := 1) rfl rfl (by decide) rfl (fun ls hl => ?_)
  refine lv_goto (tgt := 6) hx hb dX12_mixed_36 (by decide) ?_
  exact hk6 σ y0 (x3 + 1) _ _ _ h hT (lv_sub hl [1, 0] rfl)
end
def w_X12_mixed_6 (post : Int32 → rf_S → Prop) : Nat → rf_S → Int32 → Int32 → Prop
  | 0, _, _, _ => False
  | n + 1, σ, x2, x3 => (8 ≤ x3 → post x2 σ) ∧ (¬ 8 ≤ x3 → ((2 * x2) ≤ 255 → w_X12_mixed_32 post (w_X12_mixed_6 post n) σ x3 (2 * x2)) ∧ (¬ (2 * x2) ≤ 255 → w_X12_mixed_32 post (w_X12_mixed_6 post n) σ x3 ((2 * x2) ^^^ 263)))
section
variable {p : Program} {l : Launch} {e : Env} {s : State} {m : MethodId} {args : Array Value} {below : List Frame} {meth : Method} {c : Code} {P : hw_G} {o : Nat} {ad : Nat → Nat}
set_option maxRecDepth 100000 in
set_option maxHeartbeats 4000000 in
theorem t_X12_mixed_6 {post : Int32 → rf_S → Prop} (hC : rf_C P RX12 p s m meth c cX12_mixed 4 (some .int)) : ∀ (n : Nat) (σ : rf_S) (x2 : Int32) (x3 : Int32) (H : Heap) (locs : List Loc) (ls : Array Slot), w_X12_mixed_6 post n σ x2 x3 → rf_T P s (rf_A o ad) o ad σ H locs → lv_has ls 4 [(2, .int x2), (3, .int x3)] → W p l e rm_X12_mixed s m args below meth c H locs 0 0 (MQ below (rf_Qi P o ad post) args s 0 0 (rf_A o ad)) (F0 m 6 ls []) := by
  obtain ⟨hx, hb, hml, hown, hK, -, -⟩ := id hC
  intro n
  induction n with
  | zero => intro σ x2 x3 H locs ls h; exact False.elim h
  | succ n ih =>
    intro σ x2 x3 H locs ls h hT hl
    refine lv_iload_n hx hb dX12_mixed_6 rfl (lv_at hl 1 rfl) ?_
    refine lv_bipush (v := 8) hx hb dX12_mixed_7 (by decide) ?_
    refine lv_icmp_ge (tgt := 39) hx hb dX12_mixed_9 (by decide) (fun hc => ?_) (fun hc => ?_)
    · have h := h.1 hc
      refine lv_iload_n hx hb dX12_mixed_39 rfl (lv_at hl 0 rfl) ?_
      exact rf_iret hC hT h dX12_mixed_40
    · have h := h.2 hc
      refine lv_iconst (v := 2) hx hb dX12_mixed_12 (by decide) ?_
      refine lv_iload_n hx hb dX12_mixed_13 rfl (lv_at hl 0 rfl) ?_
      refine lv_imul hx hb dX12_mixed_14 ?_
      refine lv_istore_n (lv' := [(2, _), (3, _)]) hx hb dX12_mixed_15 rfl hl (by decide) rfl (fun ls hl => ?_)
      refine lv_iload_n hx hb dX12_mixed_16 rfl (lv_at hl 0 rfl) ?_
      refine lv_sipush (v := 255) hx hb dX12_mixed_17 (by decide) ?_
      refine lv_icmp_le (tgt := 31) hx hb dX12_mixed_20 (by decide) (fun hc => ?_) (fun hc => ?_)
      · have h := h.1 hc
        refine lv_iload_n hx hb dX12_mixed_31 rfl (lv_at hl 0 rfl) ?_
        exact t_X12_mixed_32 hC ih σ x3 (2 * x2) _ _ _ h hT (lv_sub hl [1] rfl)
      · have h := h.2 hc
        refine lv_iload_n hx hb dX12_mixed_23 rfl (lv_at hl 0 rfl) ?_
        refine lv_sipush (v := 263) hx hb dX12_mixed_24 (by decide) ?_
        refine lv_ixor hx hb dX12_mixed_27 ?_
        refine lv_goto (tgt := 32) hx hb dX12_mixed_28 (by decide) ?_
        exact t_X12_mixed_32 hC ih σ x3 ((2 * x2) ^^^ 263) _ _ _ h hT (lv_sub hl [1] rfl)
end
def wp_X12_mixed (post : Int32 → rf_S → Prop) (σ : rf_S) (p0 : Int32) (p1 : Int32) : Prop := ∃ n9, w_X12_mixed_6 post n9 σ (p0 ^^^ p1) 0
set_option maxRecDepth 100000 in
set_option maxHeartbeats 4000000 in
theorem c_X12_mixed {l : Launch} {P : hw_G} {o : Nat} {ad : Nat → Nat} {σ : rf_S} {p0 : Int32} {p1 : Int32} {post : Int32 → rf_S → Prop} (h : wp_X12_mixed post σ p0 p1) : Met l yX12_mixed [Cond.code yX12_mixed cX12_mixed 4 (some .int)] rm_X12_mixed (rf_Pc P o ad σ [.int p0, .int p1]) (rf_Qi P o ad post) 0 0 (rf_A o ad) := by
  refine rf_met (by decide) rfl (Nat.le_of_ble_eq_true rfl) ?_
  intro p e s m below meth c ls hC hT hl
  obtain ⟨hx, hb, hml, hown, hK, -, -⟩ := id hC
  have hl : lv_has ls 4 [(0, .int p0), (1, .int p1)] := hl
  refine lv_iload_n hx hb dX12_mixed_0 rfl (lv_at hl 0 rfl) ?_
  refine lv_iload_n hx hb dX12_mixed_1 rfl (lv_at hl 1 rfl) ?_
  refine lv_ixor hx hb dX12_mixed_2 ?_
  refine lv_istore_n (lv' := [(2, _), (0, _), (1, _)]) hx hb dX12_mixed_3 rfl hl (by decide) rfl (fun ls hl => ?_)
  refine lv_iconst (v := 0) hx hb dX12_mixed_4 (by decide) ?_
  refine lv_istore_n (lv' := [(3, _), (2, _), (0, _), (1, _)]) hx hb dX12_mixed_5 rfl hl (by decide) rfl (fun ls hl => ?_)
  obtain ⟨n9, h⟩ := h
  exact t_X12_mixed_6 hC n9 σ (p0 ^^^ p1) 0 _ _ _ h hT (lv_sub hl [1, 0] rfl)
/-! X12_checkOf -/
abbrev rm_X12_checkOf : Room := { frames := 1, cells := 0, slots := 0, locals := 23 }
def w_X12_checkOf_5 (post : Int32 → rf_S → Prop) : Nat → rf_S → Int32 → Int32 → Int32 → Prop
  | 0, _, _, _, _ => False
  | n + 1, σ, x2, x3, x4 => (x2 ≤ x4 → post x3 σ) ∧ (¬ x2 ≤ x4 → vp_in x4 (rf_n 1) ∧ wp_X12_mixed (fun r2 σ2 => w_X12_checkOf_5 post n σ2 x2 r2 (x4 + 1)) σ x3 ((σ.2.2.1 1 x4.toNatClampNeg) &&& 255))
section
variable {p : Program} {l : Launch} {e : Env} {s : State} {m : MethodId} {args : Array Value} {below : List Frame} {meth : Method} {c : Code} {P : hw_G} {o : Nat} {ad : Nat → Nat}
set_option maxRecDepth 100000 in
set_option maxHeartbeats 4000000 in
theorem t_X12_checkOf_5 {post : Int32 → rf_S → Prop} (hC : rf_C P RX12 p s m meth c cX12_checkOf 5 (some .int)) : ∀ (n : Nat) (σ : rf_S) (x2 : Int32) (x3 : Int32) (x4 : Int32) (H : Heap) (locs : List Loc) (ls : Array Slot), w_X12_checkOf_5 post n σ x2 x3 x4 → rf_T P s (rf_A o ad) o ad σ H locs → lv_has ls 5 [(0, .ref o), (2, .int x2), (3, .int x3), (4, .int x4)] → W p l e rm_X12_checkOf s m args below meth c H locs 0 0 (MQ below (rf_Qi P o ad post) args s 0 0 (rf_A o ad)) (F0 m 5 ls []) := by
  obtain ⟨hx, hb, hml, hown, hK, -, -⟩ := id hC
  intro n
  induction n with
  | zero => intro σ x2 x3 x4 H locs ls h; exact False.elim h
  | succ n ih =>
    intro σ x2 x3 x4 H locs ls h hT hl
    refine lv_iload hx hb dX12_checkOf_5 (lv_at hl 3 rfl) ?_
    refine lv_iload_n hx hb dX12_checkOf_7 rfl (lv_at hl 1 rfl) ?_
    refine lv_icmp_ge (tgt := 33) hx hb dX12_checkOf_8 (by decide) (fun hc => ?_) (fun hc => ?_)
    · have h := h.1 hc
      refine lv_iload_n hx hb dX12_checkOf_33 rfl (lv_at hl 2 rfl) ?_
      exact rf_iret hC hT h dX12_checkOf_34
    · have h := h.2 hc
      refine lv_iload_n hx hb dX12_checkOf_11 rfl (lv_at hl 2 rfl) ?_
      refine lv_aload_n hx hb dX12_checkOf_12 rfl (lv_at hl 0 rfl) ?_
      refine rf_get hx hb hK hT hown 1 (by decide) kfX12_14 (v := .ref (ad 1)) rfl dX12_checkOf_13 ?_
      refine lv_iload hx hb dX12_checkOf_16 (lv_at hl 3 rfl) ?_
      obtain ⟨hi, h⟩ := h
      refine rf_bald hx hb hK hT 1 (by decide) rfl hi (v := σ.2.2.1 1 x4.toNatClampNeg) rfl dX12_checkOf_18 ?_
      refine lv_sipush (v := 255) hx hb dX12_checkOf_19 (by decide) ?_
      refine lv_iand hx hb dX12_checkOf_22 ?_
      refine rf_calli (rf_runS hx hb hml hown hK hT (c_X12_mixed h) rfl rfl klX12_158 ki_X12_mixed kn_X12 kc_X12_mixed 2 ⟨by decide, by decide, by decide +kernel⟩ ⟨by decide, by decide⟩ rfl hl.1 rfl (Nat.le_of_ble_eq_true rfl) ⟨Nat.le_refl _, Nat.le_refl _⟩ dX12_checkOf_23) hT (fun r2 σ2 H locs h hT => ?_)
      refine lv_istore_n (lv' := [(3, _), (0, _), (2, _), (4, _)]) hx hb dX12_checkOf_26 rfl hl (by decide) rfl (fun ls hl => ?_)
      refine lv_iinc (v := x4 + 1) (lv' := [(4, _), (3, _), (0, _), (2, _)]) hx hb dX12_checkOf_27 hl (k := 3) rfl rfl (by decide) rfl (fun ls hl => ?_)
      refine lv_goto (tgt := 5) hx hb dX12_checkOf_30 (by decide) ?_
      exact ih σ2 x2 r2 (x4 + 1) _ _ _ h hT (lv_sub hl [2, 3, 1, 0] rfl)
end
def wp_X12_checkOf (post : Int32 → rf_S → Prop) (σ : rf_S) (p1 : Int32) (p2 : Int32) : Prop := ∃ n9, w_X12_checkOf_5 post n9 σ p2 0 p1
set_option maxRecDepth 100000 in
set_option maxHeartbeats 4000000 in
theorem c_X12_checkOf {l : Launch} {P : hw_G} {o : Nat} {ad : Nat → Nat} {σ : rf_S} {p1 : Int32} {p2 : Int32} {post : Int32 → rf_S → Prop} (h : wp_X12_checkOf post σ p1 p2) : Met l yX12_checkOf [Cond.code yX12_checkOf cX12_checkOf 5 (some .int)] rm_X12_checkOf (rf_Pc P o ad σ [.ref o, .int p1, .int p2]) (rf_Qi P o ad post) 0 0 (rf_A o ad) := by
  refine rf_met (by decide) rfl (Nat.le_of_ble_eq_true rfl) ?_
  intro p e s m below meth c ls hC hT hl
  obtain ⟨hx, hb, hml, hown, hK, -, -⟩ := id hC
  have hl : lv_has ls 5 [(0, .ref o), (1, .int p1), (2, .int p2)] := hl
  refine lv_iconst (v := 0) hx hb dX12_checkOf_0 (by decide) ?_
  refine lv_istore_n (lv' := [(3, _), (0, _), (1, _), (2, _)]) hx hb dX12_checkOf_1 rfl hl (by decide) rfl (fun ls hl => ?_)
  refine lv_iload_n hx hb dX12_checkOf_2 rfl (lv_at hl 2 rfl) ?_
  refine lv_istore (lv' := [(4, _), (3, _), (0, _), (1, _), (2, _)]) hx hb dX12_checkOf_3 hl (by decide) rfl (fun ls hl => ?_)
  obtain ⟨n9, h⟩ := h
  exact t_X12_checkOf_5 hC n9 σ p2 0 p1 _ _ _ h hT (lv_sub hl [2, 4, 1, 0] rfl)
/-! X12_readsRecord -/
abbrev rm_X12_readsRecord : Room := { frames := 3, cells := 0, slots := 0, locals := 73 }
def w_X12_readsRecord_85 (post : Int32 → rf_S → Prop) (σ : rf_S) (x3 : Int32) : Prop := wp_X12_wrong (fun r13 σ13 => narrow .boolean (.int r13) = .int r13 ∧ post r13 σ13) σ 3 x3
section
variable {p : Program} {l : Launch} {e : Env} {s : State} {m : MethodId} {args : Array Value} {below : List Frame} {meth : Method} {c : Code} {P : hw_G} {o : Nat} {ad : Nat → Nat}
set_option maxRecDepth 100000 in
set_option maxHeartbeats 4000000 in
theorem t_X12_readsRecord_85 {post : Int32 → rf_S → Prop} (hC : rf_C P RX12 p s m meth c cX12_readsRecord 9 (some .boolean)) (σ : rf_S) (x3 : Int32) (H : Heap) (locs : List Loc) (ls : Array Slot) (h : w_X12_readsRecord_85 post σ x3) (hT : rf_T P s (rf_A o ad) o ad σ H locs) (hl : lv_has ls 9 [(0, .ref o), (3, .int x3)]) : W p l e rm_X12_readsRecord s m args below meth c H locs 0 0 (MQ below (rf_Qi P o ad post) args s 0 0 (rf_A o ad)) (F0 m 85 ls []) := by
  obtain ⟨hx, hb, hml, hown, hK, -, -⟩ := id hC
  refine lv_aload_n hx hb dX12_readsRecord_85 rfl (lv_at hl 0 rfl) ?_
  refine lv_iconst (v := 3) hx hb dX12_readsRecord_86 (by decide) ?_
  refine lv_iload_n hx hb dX12_readsRecord_87 rfl (lv_at hl 1 rfl) ?_
  refine rf_calli (rf_runV hx hb hml hown hK hT (c_X12_wrong h) rfl rfl klX12_111 ki_X12_wrong ks_X12_wrong kn_X12 kc_X12_wrong 2 ⟨rfl, by decide, by decide, by decide +kernel⟩ ⟨by decide, by decide⟩ rfl hl.1 rfl (Nat.le_of_ble_eq_true rfl) ⟨Nat.le_refl _, Nat.le_refl _⟩ dX12_readsRecord_88) hT (fun r13 σ13 H locs h hT => ?_)
  exact rf_zret hC hT h.1 h.2 dX12_readsRecord_91
end
def w_X12_readsRecord_120 (post : Int32 → rf_S → Prop) (σ : rf_S)  : Prop := post 0 σ
section
variable {p : Program} {l : Launch} {e : Env} {s : State} {m : MethodId} {args : Array Value} {below : List Frame} {meth : Method} {c : Code} {P : hw_G} {o : Nat} {ad : Nat → Nat}
set_option maxRecDepth 100000 in
set_option maxHeartbeats 4000000 in
theorem t_X12_readsRecord_120 {post : Int32 → rf_S → Prop} (hC : rf_C P RX12 p s m meth c cX12_readsRecord 9 (some .boolean)) (σ : rf_S)  (H : Heap) (locs : List Loc) (ls : Array Slot) (h : w_X12_readsRecord_120 post σ ) (hT : rf_T P s (rf_A o ad) o ad σ H locs) (hl : lv_has ls 9 []) : W p l e rm_X12_readsRecord s m args below meth c H locs 0 0 (MQ below (rf_Qi P o ad post) args s 0 0 (rf_A o ad)) (F0 m 120 ls []) := by
  obtain ⟨hx, hb, hml, hown, hK, -, -⟩ := id hC
  refine lv_iconst (v := 0) hx hb dX12_readsRecord_120 (by decide) ?_
  exact rf_zret hC hT rfl h dX12_readsRecord_121
end
def w_X12_readsRecord_286 (post : Int32 → rf_S → Prop) (σ : rf_S) (y0 : Int32) : Prop := narrow .boolean (.int y0) = .int y0 ∧ post y0 σ
section
variable {p : Program} {l : Launch} {e : Env} {s : State} {m : MethodId} {args : Array Value} {below : List Frame} {meth : Method} {c : Code} {P : hw_G} {o : Nat} {ad : Nat → Nat}
set_option maxRecDepth 100000 in
set_option maxHeartbeats 4000000 in
theorem t_X12_readsRecord_286 {post : Int32 → rf_S → Prop} (hC : rf_C P RX12 p s m meth c cX12_readsRecord 9 (some .boolean)) (σ : rf_S) (y0 : Int32) (H : Heap) (locs : List Loc) (ls : Array Slot) (h : w_X12_readsRecord_286 post σ y0) (hT : rf_T P s (rf_A o ad) o ad σ H locs) (hl : lv_has ls 9 []) : W p l e rm_X12_readsRecord s m args below meth c H locs 0 0 (MQ below (rf_Qi P o ad post) args s 0 0 (rf_A o ad)) (F0 m 286 ls [.int y0]) := by
  obtain ⟨hx, hb, hml, hown, hK, -, -⟩ := id hC
  exact rf_zret hC hT h.1 h.2 dX12_readsRecord_286
end
def w_X12_readsRecord_173 (post : Int32 → rf_S → Prop) : Nat → rf_S → Int32 → Int32 → Int32 → Int32 → Prop
  | 0, _, _, _, _, _ => False
  | n + 1, σ, x1, x2, x6, x7 => vp_in x1 (rf_n 9) ∧ ((σ.2.2.1 9 x1.toNatClampNeg) ≤ x7 → wp_X12_checkOf (fun r14 σ14 => wp_X12_byteAt (fun r15 σ15 => (¬ r15 = r14 → (0 ≤ r15 → wp_X12_wrong (fun r16 σ16 => w_X12_readsRecord_286 post σ16 r16) (rf_ui σ15 20 x6) 4 (σ15.1 4)) ∧ (¬ 0 ≤ r15 → wp_X12_wrong (fun r17 σ17 => w_X12_readsRecord_286 post σ17 r17) (rf_ui σ15 20 x6) 1 (σ15.1 3))) ∧ (r15 = r14 → post 1 (rf_ui σ15 4 ((σ15.1 4) + 1)))) σ14 (σ14.1 4)) σ x2 (σ.1 4)) ∧ (¬ (σ.2.2.1 9 x1.toNatClampNeg) ≤ x7 → wp_X12_readsField (fun r18 σ18 => (¬ r18 = 0 → w_X12_readsRecord_173 post n σ18 x1 x2 x6 (x7 + 1)) ∧ (r18 = 0 → post 0 (rf_ui σ18 20 x6))) σ ((8 * x1) + x7) x7)
section
variable {p : Program} {l : Launch} {e : Env} {s : State} {m : MethodId} {args : Array Value} {below : List Frame} {meth : Method} {c : Code} {P : hw_G} {o : Nat} {ad : Nat → Nat}
set_option maxRecDepth 100000 in
set_option maxHeartbeats 4000000 in
theorem t_X12_readsRecord_173 {post : Int32 → rf_S → Prop} (hC : rf_C P RX12 p s m meth c cX12_readsRecord 9 (some .boolean)) : ∀ (n : Nat) (σ : rf_S) (x1 : Int32) (x2 : Int32) (x6 : Int32) (x7 : Int32) (H : Heap) (locs : List Loc) (ls : Array Slot), w_X12_readsRecord_173 post n σ x1 x2 x6 x7 → rf_T P s (rf_A o ad) o ad σ H locs → lv_has ls 9 [(0, .ref o), (1, .int x1), (2, .int x2), (6, .int x6), (7, .int x7)] → W p l e rm_X12_readsRecord s m args below meth c H locs 0 0 (MQ below (rf_Qi P o ad post) args s 0 0 (rf_A o ad)) (F0 m 173 ls []) := by
  obtain ⟨hx, hb, hml, hown, hK, -, -⟩ := id hC
  intro n
  induction n with
  | zero => intro σ x1 x2 x6 x7 H locs ls h; exact False.elim h
  | succ n ih =>
    intro σ x1 x2 x6 x7 H locs ls h hT hl
    refine lv_iload hx hb dX12_readsRecord_173 (lv_at hl 4 rfl) ?_
    refine lv_aload_n hx hb dX12_readsRecord_175 rfl (lv_at hl 0 rfl) ?_
    refine rf_get hx hb hK hT hown 9 (by decide) kfX12_97 (v := .ref (ad 9)) rfl dX12_readsRecord_176 ?_
    refine lv_iload_n hx hb dX12_readsRecord_179 rfl (lv_at hl 1 rfl) ?_
    obtain ⟨hi, h⟩ := h
    refine rf_iald hx hb hK hT 9 (by decide) rfl hi (v := σ.2.2.1 9 x1.toNatClampNeg) rfl dX12_readsRecord_180 ?_
    refine lv_icmp_ge (tgt := 214) hx hb dX12_readsRecord_181 (by decide) (fun hc => ?_) (fun hc => ?_)
    · have h := h.1 hc
      refine lv_aload_n hx hb dX12_readsRecord_214 rfl (lv_at hl 0 rfl) ?_
      refine lv_iload_n hx hb dX12_readsRecord_215 rfl (lv_at hl 2 rfl) ?_
      refine lv_aload_n hx hb dX12_readsRecord_216 rfl (lv_at hl 0 rfl) ?_
      refine rf_get hx hb hK hT hown 4 (by decide) kfX12_104 (v := .int (σ.1 4)) rfl dX12_readsRecord_217 ?_
      refine rf_calli (rf_runV hx hb hml hown hK hT (c_X12_checkOf h) rfl rfl klX12_154 ki_X12_checkOf ks_X12_checkOf kn_X12 kc_X12_checkOf 2 ⟨rfl, by decide, by decide, by decide +kernel⟩ ⟨by decide, by decide⟩ rfl hl.1 rfl (Nat.le_of_ble_eq_true rfl) ⟨Nat.le_refl _, Nat.le_refl _⟩ dX12_readsRecord_220) hT (fun r14 σ14 H locs h hT => ?_)
      refine lv_istore (lv' := [(7, _), (0, _), (1, _), (2, _), (6, _)]) hx hb dX12_readsRecord_223 hl (by decide) rfl (fun ls hl => ?_)
      refine lv_aload_n hx hb dX12_readsRecord_225 rfl (lv_at hl 1 rfl) ?_
      refine lv_aload_n hx hb dX12_readsRecord_226 rfl (lv_at hl 1 rfl) ?_
      refine rf_get hx hb hK hT hown 4 (by decide) kfX12_104 (v := .int (σ14.1 4)) rfl dX12_readsRecord_227 ?_
      refine rf_calli (rf_runV hx hb hml hown hK hT (c_X12_byteAt h) rfl rfl klX12_107 ki_X12_byteAt ks_X12_byteAt kn_X12 kc_X12_byteAt 1 ⟨rfl, by decide, by decide, by decide +kernel⟩ ⟨by decide, by decide⟩ rfl hl.1 rfl (Nat.le_of_ble_eq_true rfl) ⟨Nat.le_refl _, Nat.le_refl _⟩ dX12_readsRecord_230) hT (fun r15 σ15 H locs h hT => ?_)
      refine lv_istore (lv' := [(8, _), (7, _), (0, _), (1, _), (2, _), (6, _)]) hx hb dX12_readsRecord_233 hl (by decide) rfl (fun ls hl => ?_)
      refine lv_iload hx hb dX12_readsRecord_235 (lv_at hl 0 rfl) ?_
      refine lv_iload hx hb dX12_readsRecord_237 (lv_at hl 1 rfl) ?_
      refine lv_icmp_ne (tgt := 254) hx hb dX12_readsRecord_239 (by decide) (fun hc => ?_) (fun hc => ?_)
      · have h := h.1 hc
        refine lv_aload_n hx hb dX12_readsRecord_254 rfl (lv_at hl 2 rfl) ?_
        refine lv_iload hx hb dX12_readsRecord_255 (lv_at hl 5 rfl) ?_
        refine rf_puti hx hb hK hT hown 20 (by decide) kfX12_61 rfl rfl dX12_readsRecord_257 (fun H locs hT => ?_)
        refine lv_iload hx hb dX12_readsRecord_260 (lv_at hl 0 rfl) ?_
        refine lv_if_ge (tgt := 277) hx hb dX12_readsRecord_262 (by decide) (fun hc => ?_) (fun hc => ?_)
        · have h := h.1 hc
          refine lv_aload_n hx hb dX12_readsRecord_277 rfl (lv_at hl 2 rfl) ?_
          refine lv_iconst (v := 4) hx hb dX12_readsRecord_278 (by decide) ?_
          refine lv_aload_n hx hb dX12_readsRecord_279 rfl (lv_at hl 2 rfl) ?_
          refine rf_get hx hb hK hT hown 4 (by decide) kfX12_104 (v := .int (σ15.1 4)) rfl dX12_readsRecord_280 ?_
          refine rf_calli (rf_runV hx hb hml hown hK hT (c_X12_wrong h) rfl rfl klX12_111 ki_X12_wrong ks_X12_wrong kn_X12 kc_X12_wrong 2 ⟨rfl, by decide, by decide, by decide +kernel⟩ ⟨by decide, by decide⟩ rfl hl.1 rfl (Nat.le_of_ble_eq_true rfl) ⟨Nat.le_refl _, Nat.le_refl _⟩ dX12_readsRecord_283) hT (fun r16 σ16 H locs h hT => ?_)
          exact t_X12_readsRecord_286 hC σ16 r16 _ _ _ h hT (lv_sub hl [] rfl)
        · have h := h.2 hc
          refine lv_aload_n hx hb dX12_readsRecord_265 rfl (lv_at hl 2 rfl) ?_
          refine lv_iconst (v := 1) hx hb dX12_readsRecord_266 (by decide) ?_
          refine lv_aload_n hx hb dX12_readsRecord_267 rfl (lv_at hl 2 rfl) ?_
          refine rf_get hx hb hK hT hown 3 (by decide) kfX12_24 (v := .int (σ15.1 3)) rfl dX12_readsRecord_268 ?_
          refine rf_calli (rf_runV hx hb hml hown hK hT (c_X12_wrong h) rfl rfl klX12_111 ki_X12_wrong ks_X12_wrong kn_X12 kc_X12_wrong 2 ⟨rfl, by decide, by decide, by decide +kernel⟩ ⟨by decide, by decide⟩ rfl hl.1 rfl (Nat.le_of_ble_eq_true rfl) ⟨Nat.le_refl _, Nat.le_refl _⟩ dX12_readsRecord_271) hT (fun r17 σ17 H locs h hT => ?_)
          refine lv_goto (tgt := 286) hx hb dX12_readsRecord_274 (by decide) ?_
          exact t_X12_readsRecord_286 hC σ17 r17 _ _ _ h hT (lv_sub hl [] rfl)
      · have h := h.2 hc
        refine lv_aload_n hx hb dX12_readsRecord_242 rfl (lv_at hl 2 rfl) ?_
        refine lv_dup hx hb dX12_readsRecord_243 rfl ?_
        refine rf_get hx hb hK hT hown 4 (by decide) kfX12_104 (v := .int (σ15.1 4)) rfl dX12_readsRecord_244 ?_
        refine lv_iconst (v := 1) hx hb dX12_readsRecord_247 (by decide) ?_
        refine lv_iadd hx hb dX12_readsRecord_248 ?_
        refine rf_puti hx hb hK hT hown 4 (by decide) kfX12_104 rfl rfl dX12_readsRecord_249 (fun H locs hT => ?_)
        refine lv_iconst (v := 1) hx hb dX12_readsRecord_252 (by decide) ?_
        exact rf_zret hC hT rfl h dX12_readsRecord_253
    · have h := h.2 hc
      refine lv_aload_n hx hb dX12_readsRecord_184 rfl (lv_at hl 0 rfl) ?_
      refine lv_bipush (v := 8) hx hb dX12_readsRecord_185 (by decide) ?_
      refine lv_iload_n hx hb dX12_readsRecord_187 rfl (lv_at hl 1 rfl) ?_
      refine lv_imul hx hb dX12_readsRecord_188 ?_
      refine lv_iload hx hb dX12_readsRecord_189 (lv_at hl 4 rfl) ?_
      refine lv_iadd hx hb dX12_readsRecord_191 ?_
      refine lv_iload hx hb dX12_readsRecord_192 (lv_at hl 4 rfl) ?_
      refine rf_calli (rf_runV hx hb hml hown hK hT (c_X12_readsField h) rfl rfl klX12_151 ki_X12_readsField ks_X12_readsField kn_X12 kc_X12_readsField 2 ⟨rfl, by decide, by decide, by decide +kernel⟩ ⟨by decide, by decide⟩ rfl hl.1 rfl (Nat.le_of_ble_eq_true rfl) ⟨Nat.le_refl _, Nat.le_refl _⟩ dX12_readsRecord_194) hT (fun r18 σ18 H locs h hT => ?_)
      refine lv_if_ne (tgt := 208) hx hb dX12_readsRecord_197 (by decide) (fun hc => ?_) (fun hc => ?_)
      · have h := h.1 hc
        refine lv_iinc (v := x7 + 1) (lv' := [(7, _), (0, _), (1, _), (2, _), (6, _)]) hx hb dX12_readsRecord_208 hl (k := 4) rfl rfl (by decide) rfl (fun ls hl => ?_)
        refine lv_goto (tgt := 173) hx hb dX12_readsRecord_211 (by decide) ?_
        exact ih σ18 x1 x2 x6 (x7 + 1) _ _ _ h hT (lv_sub hl [1, 2, 3, 4, 0] rfl)
      · have h := h.2 hc
        refine lv_aload_n hx hb dX12_readsRecord_200 rfl (lv_at hl 0 rfl) ?_
        refine lv_iload hx hb dX12_readsRecord_201 (lv_at hl 3 rfl) ?_
        refine rf_puti hx hb hK hT hown 20 (by decide) kfX12_61 rfl rfl dX12_readsRecord_203 (fun H locs hT => ?_)
        refine lv_iconst (v := 0) hx hb dX12_readsRecord_206 (by decide) ?_
        exact rf_zret hC hT rfl h dX12_readsRecord_207
end
def wp_X12_readsRecord (post : Int32 → rf_S → Prop) (σ : rf_S) (p1 : Int32) : Prop := wp_X12_byteAt (fun r19 σ19 => (r19 = 229 → wp_X12_readsUnsigned (fun r20 σ20 => (¬ r20 = 0 → (0 < (lg_cmp (((σ20.1 22).toInt64) + (σ20.2.1 27)) 2000000000) → w_X12_readsRecord_85 post σ20 ((σ19.1 4) + 1)) ∧ (¬ 0 < (lg_cmp (((σ20.1 22).toInt64) + (σ20.2.1 27)) 2000000000) → (0 ≤ (lg_cmp (((σ20.1 22).toInt64) + (σ20.2.1 27)) ((σ20.1 21).toInt64)) → wp_X12_readsCount (fun r21 σ21 => (r21 = 0 → w_X12_readsRecord_120 post σ21) ∧ (¬ r21 = 0 → wp_X12_readsLetters (fun r22 σ22 => (¬ r22 = 0 → vp_in p1 (rf_n 11) ∧ vp_in p1 (rf_n 12) ∧ wp_X12_readsCount (fun r23 σ23 => (¬ r23 = 0 → vp_in p1 (rf_n 9) ∧ ∃ n9, w_X12_readsRecord_173 post n9 (rf_ua σ23 9 p1.toNatClampNeg (σ23.1 28)) p1 (σ.1 4) (σ23.1 20) 0) ∧ (r23 = 0 → post 0 σ23)) (rf_ub (rf_ub σ22 11 p1.toNatClampNeg (σ22.2.1 29)) 12 p1.toNatClampNeg (σ22.2.1 30)) 0 8) ∧ (r22 = 0 → w_X12_readsRecord_120 post σ22)) σ21 (σ21.1 28))) (rf_ui σ20 31 ((((σ20.1 22).toInt64) + (σ20.2.1 27)).toInt32)) 1 12) ∧ (¬ 0 ≤ (lg_cmp (((σ20.1 22).toInt64) + (σ20.2.1 27)) ((σ20.1 21).toInt64)) → w_X12_readsRecord_85 post σ20 ((σ19.1 4) + 1)))) ∧ (r20 = 0 → post 0 σ20)) (rf_ui σ19 4 ((σ19.1 4) + 1))) ∧ (¬ r19 = 229 → wp_X12_wrong (fun r24 σ24 => narrow .boolean (.int r24) = .int r24 ∧ post r24 σ24) σ19 2 (σ19.1 4))) σ (σ.1 4)
set_option maxRecDepth 100000 in
set_option maxHeartbeats 4000000 in
theorem c_X12_readsRecord {l : Launch} {P : hw_G} {o : Nat} {ad : Nat → Nat} {σ : rf_S} {p1 : Int32} {post : Int32 → rf_S → Prop} (h : wp_X12_readsRecord post σ p1) : Met l yX12_readsRecord [Cond.code yX12_readsRecord cX12_readsRecord 9 (some .boolean)] rm_X12_readsRecord (rf_Pc P o ad σ [.ref o, .int p1]) (rf_Qi P o ad post) 0 0 (rf_A o ad) := by
  refine rf_met (by decide) rfl (Nat.le_of_ble_eq_true rfl) ?_
  intro p e s m below meth c ls hC hT hl
  obtain ⟨hx, hb, hml, hown, hK, -, -⟩ := id hC
  have hl : lv_has ls 9 [(0, .ref o), (1, .int p1)] := hl
  refine lv_aload_n hx hb dX12_readsRecord_0 rfl (lv_at hl 0 rfl) ?_
  refine rf_get hx hb hK hT hown 4 (by decide) kfX12_104 (v := .int (σ.1 4)) rfl dX12_readsRecord_1 ?_
  refine lv_istore_n (lv' := [(2, _), (0, _), (1, _)]) hx hb dX12_readsRecord_4 rfl hl (by decide) rfl (fun ls hl => ?_)
  refine lv_aload_n hx hb dX12_readsRecord_5 rfl (lv_at hl 1 rfl) ?_
  refine lv_aload_n hx hb dX12_readsRecord_6 rfl (lv_at hl 1 rfl) ?_
  refine rf_get hx hb hK hT hown 4 (by decide) kfX12_104 (v := .int (σ.1 4)) rfl dX12_readsRecord_7 ?_
  refine rf_calli (rf_runV hx hb hml hown hK hT (c_X12_byteAt h) rfl rfl klX12_107 ki_X12_byteAt ks_X12_byteAt kn_X12 kc_X12_byteAt 1 ⟨rfl, by decide, by decide, by decide +kernel⟩ ⟨by decide, by decide⟩ rfl hl.1 rfl (Nat.le_of_ble_eq_true rfl) ⟨Nat.le_refl _, Nat.le_refl _⟩ dX12_readsRecord_10) hT (fun r19 σ19 H locs h hT => ?_)
  refine lv_sipush (v := 229) hx hb dX12_readsRecord_13 (by decide) ?_
  refine lv_icmp_eq (tgt := 29) hx hb dX12_readsRecord_16 (by decide) (fun hc => ?_) (fun hc => ?_)
  · have h := h.1 hc
    refine lv_aload_n hx hb dX12_readsRecord_29 rfl (lv_at hl 1 rfl) ?_
    refine lv_dup hx hb dX12_readsRecord_30 rfl ?_
    refine rf_get hx hb hK hT hown 4 (by decide) kfX12_104 (v := .int (σ19.1 4)) rfl dX12_readsRecord_31 ?_
    refine lv_iconst (v := 1) hx hb dX12_readsRecord_34 (by decide) ?_
    refine lv_iadd hx hb dX12_readsRecord_35 ?_
    refine rf_puti hx hb hK hT hown 4 (by decide) kfX12_104 rfl rfl dX12_readsRecord_36 (fun H locs hT => ?_)
    refine lv_aload_n hx hb dX12_readsRecord_39 rfl (lv_at hl 1 rfl) ?_
    refine rf_get hx hb hK hT hown 4 (by decide) kfX12_104 (v := .int ((σ19.1 4) + 1)) rfl dX12_readsRecord_40 ?_
    refine lv_istore_n (lv' := [(3, _), (2, _), (0, _), (1, _)]) hx hb dX12_readsRecord_43 rfl hl (by decide) rfl (fun ls hl => ?_)
    refine lv_aload_n hx hb dX12_readsRecord_44 rfl (lv_at hl 2 rfl) ?_
    refine rf_calli (rf_runV hx hb hml hown hK hT (c_X12_readsUnsigned h) rfl rfl klX12_129 ki_X12_readsUnsigned ks_X12_readsUnsigned kn_X12 kc_X12_readsUnsigned 0 ⟨rfl, by decide, by decide, by decide +kernel⟩ ⟨by decide, by decide⟩ rfl hl.1 rfl (Nat.le_of_ble_eq_true rfl) ⟨Nat.le_refl _, Nat.le_refl _⟩ dX12_readsRecord_45) hT (fun r20 σ20 H locs h hT => ?_)
    refine lv_if_ne (tgt := 53) hx hb dX12_readsRecord_48 (by decide) (fun hc => ?_) (fun hc => ?_)
    · have h := h.1 hc
      refine lv_aload_n hx hb dX12_readsRecord_53 rfl (lv_at hl 2 rfl) ?_
      refine rf_get hx hb hK hT hown 22 (by decide) kfX12_67 (v := .int (σ20.1 22)) rfl dX12_readsRecord_54 ?_
      refine lv_i2l (v := (σ20.1 22).toInt64) hx hb dX12_readsRecord_57 rfl ?_
      refine lv_aload_n hx hb dX12_readsRecord_58 rfl (lv_at hl 2 rfl) ?_
      refine rf_get hx hb hK hT hown 27 (by decide) kfX12_114 (v := .long (σ20.2.1 27)) rfl dX12_readsRecord_59 ?_
      refine lv_ladd hx hb dX12_readsRecord_62 ?_
      refine lv_lstore (lv' := [(4, _), (3, _), (2, _), (0, _), (1, _)]) hx hb dX12_readsRecord_63 hl (by decide) rfl (fun ls hl => ?_)
      refine lv_lload hx hb dX12_readsRecord_65 (lv_at hl 0 rfl) ?_
      refine lv_ldc2 (v := 2000000000) hx hb hown (hK.word kkX12_133 rfl) dX12_readsRecord_67 ?_
      refine W.lcmp hx hb dX12_readsRecord_70 ?_
      refine lv_if_gt (tgt := 85) hx hb dX12_readsRecord_71 (by decide) (fun hc => ?_) (fun hc => ?_)
      · have h := h.1 hc
        exact t_X12_readsRecord_85 hC σ20 ((σ19.1 4) + 1) _ _ _ h hT (lv_sub hl [3, 1] rfl)
      · have h := h.2 hc
        refine lv_lload hx hb dX12_readsRecord_74 (lv_at hl 0 rfl) ?_
        refine lv_aload_n hx hb dX12_readsRecord_76 rfl (lv_at hl 3 rfl) ?_
        refine rf_get hx hb hK hT hown 21 (by decide) kfX12_64 (v := .int (σ20.1 21)) rfl dX12_readsRecord_77 ?_
        refine lv_i2l (v := (σ20.1 21).toInt64) hx hb dX12_readsRecord_80 rfl ?_
        refine W.lcmp hx hb dX12_readsRecord_81 ?_
        refine lv_if_ge (tgt := 92) hx hb dX12_readsRecord_82 (by decide) (fun hc => ?_) (fun hc => ?_)
        · have h := h.1 hc
          refine lv_aload_n hx hb dX12_readsRecord_92 rfl (lv_at hl 3 rfl) ?_
          refine lv_lload hx hb dX12_readsRecord_93 (lv_at hl 0 rfl) ?_
          refine lv_l2i (v := (((σ20.1 22).toInt64) + (σ20.2.1 27)).toInt32) hx hb dX12_readsRecord_95 rfl ?_
          refine rf_puti hx hb hK hT hown 31 (by decide) kfX12_135 rfl rfl dX12_readsRecord_96 (fun H locs hT => ?_)
          refine lv_aload_n hx hb dX12_readsRecord_99 rfl (lv_at hl 3 rfl) ?_
          refine lv_iconst (v := 1) hx hb dX12_readsRecord_100 (by decide) ?_
          refine lv_bipush (v := 12) hx hb dX12_readsRecord_101 (by decide) ?_
          refine rf_calli (rf_runV hx hb hml hown hK hT (c_X12_readsCount h) rfl rfl klX12_138 ki_X12_readsCount ks_X12_readsCount kn_X12 kc_X12_readsCount 2 ⟨rfl, by decide, by decide, by decide +kernel⟩ ⟨by decide, by decide⟩ rfl hl.1 rfl (Nat.le_of_ble_eq_true rfl) ⟨Nat.le_refl _, Nat.le_refl _⟩ dX12_readsRecord_103) hT (fun r21 σ21 H locs h hT => ?_)
          refine lv_if_eq (tgt := 120) hx hb dX12_readsRecord_106 (by decide) (fun hc => ?_) (fun hc => ?_)
          · have h := h.1 hc
            exact t_X12_readsRecord_120 hC σ21 _ _ _ h hT (lv_sub hl [] rfl)
          · have h := h.2 hc
            refine lv_aload_n hx hb dX12_readsRecord_109 rfl (lv_at hl 3 rfl) ?_
            refine lv_aload_n hx hb dX12_readsRecord_110 rfl (lv_at hl 3 rfl) ?_
            refine rf_get hx hb hK hT hown 28 (by decide) kfX12_120 (v := .int (σ21.1 28)) rfl dX12_readsRecord_111 ?_
            refine rf_calli (rf_runV hx hb hml hown hK hT (c_X12_readsLetters h) rfl rfl klX12_141 ki_X12_readsLetters ks_X12_readsLetters kn_X12 kc_X12_readsLetters 1 ⟨rfl, by decide, by decide, by decide +kernel⟩ ⟨by decide, by decide⟩ rfl hl.1 rfl (Nat.le_of_ble_eq_true rfl) ⟨Nat.le_refl _, Nat.le_refl _⟩ dX12_readsRecord_114) hT (fun r22 σ22 H locs h hT => ?_)
            refine lv_if_ne (tgt := 122) hx hb dX12_readsRecord_117 (by decide) (fun hc => ?_) (fun hc => ?_)
            · have h := h.1 hc
              refine lv_aload_n hx hb dX12_readsRecord_122 rfl (lv_at hl 3 rfl) ?_
              refine rf_get hx hb hK hT hown 11 (by decide) kfX12_145 (v := .ref (ad 11)) rfl dX12_readsRecord_123 ?_
              refine lv_iload_n hx hb dX12_readsRecord_126 rfl (lv_at hl 4 rfl) ?_
              refine lv_aload_n hx hb dX12_readsRecord_127 rfl (lv_at hl 3 rfl) ?_
              refine rf_get hx hb hK hT hown 29 (by decide) kfX12_123 (v := .long (σ22.2.1 29)) rfl dX12_readsRecord_128 ?_
              obtain ⟨hi, h⟩ := h
              refine rf_last hx hb hK hT 11 (by decide) rfl hi dX12_readsRecord_131 (fun H locs hT => ?_)
              refine lv_aload_n hx hb dX12_readsRecord_132 rfl (lv_at hl 3 rfl) ?_
              refine rf_get hx hb hK hT hown 12 (by decide) kfX12_148 (v := .ref (ad 12)) rfl dX12_readsRecord_133 ?_
              refine lv_iload_n hx hb dX12_readsRecord_136 rfl (lv_at hl 4 rfl) ?_
              refine lv_aload_n hx hb dX12_readsRecord_137 rfl (lv_at hl 3 rfl) ?_
              refine rf_get hx hb hK hT hown 30 (by decide) kfX12_126 (v := .long (σ22.2.1 30)) rfl dX12_readsRecord_138 ?_
              obtain ⟨hi, h⟩ := h
              refine rf_last hx hb hK hT 12 (by decide) rfl hi dX12_readsRecord_141 (fun H locs hT => ?_)
              refine lv_aload_n hx hb dX12_readsRecord_142 rfl (lv_at hl 3 rfl) ?_
              refine lv_iconst (v := 0) hx hb dX12_readsRecord_143 (by decide) ?_
              refine lv_bipush (v := 8) hx hb dX12_readsRecord_144 (by decide) ?_
              refine rf_calli (rf_runV hx hb hml hown hK hT (c_X12_readsCount h) rfl rfl klX12_138 ki_X12_readsCount ks_X12_readsCount kn_X12 kc_X12_readsCount 2 ⟨rfl, by decide, by decide, by decide +kernel⟩ ⟨by decide, by decide⟩ rfl hl.1 rfl (Nat.le_of_ble_eq_true rfl) ⟨Nat.le_refl _, Nat.le_refl _⟩ dX12_readsRecord_146) hT (fun r23 σ23 H locs h hT => ?_)
              refine lv_if_ne (tgt := 154) hx hb dX12_readsRecord_149 (by decide) (fun hc => ?_) (fun hc => ?_)
              · have h := h.1 hc
                refine lv_aload_n hx hb dX12_readsRecord_154 rfl (lv_at hl 3 rfl) ?_
                refine rf_get hx hb hK hT hown 9 (by decide) kfX12_97 (v := .ref (ad 9)) rfl dX12_readsRecord_155 ?_
                refine lv_iload_n hx hb dX12_readsRecord_158 rfl (lv_at hl 4 rfl) ?_
                refine lv_aload_n hx hb dX12_readsRecord_159 rfl (lv_at hl 3 rfl) ?_
                refine rf_get hx hb hK hT hown 28 (by decide) kfX12_120 (v := .int (σ23.1 28)) rfl dX12_readsRecord_160 ?_
                obtain ⟨hi, h⟩ := h
                refine rf_iast hx hb hK hT 9 (by decide) rfl hi dX12_readsRecord_163 (fun H locs hT => ?_)
                refine lv_aload_n hx hb dX12_readsRecord_164 rfl (lv_at hl 3 rfl) ?_
                refine rf_get hx hb hK hT hown 20 (by decide) kfX12_61 (v := .int (σ23.1 20)) rfl dX12_readsRecord_165 ?_
                refine lv_istore (lv' := [(6, _), (4, _), (3, _), (2, _), (0, _), (1, _)]) hx hb dX12_readsRecord_168 hl (by decide) rfl (fun ls hl => ?_)
                refine lv_iconst (v := 0) hx hb dX12_readsRecord_170 (by decide) ?_
                refine lv_istore (lv' := [(7, _), (6, _), (4, _), (3, _), (2, _), (0, _), (1, _)]) hx hb dX12_readsRecord_171 hl (by decide) rfl (fun ls hl => ?_)
                obtain ⟨n9, h⟩ := h
                exact t_X12_readsRecord_173 hC n9 (rf_ua σ23 9 p1.toNatClampNeg (σ23.1 28)) p1 (σ.1 4) (σ23.1 20) 0 _ _ _ h hT (lv_sub hl [5, 6, 4, 1, 0] rfl)
              · have h := h.2 hc
                refine lv_iconst (v := 0) hx hb dX12_readsRecord_152 (by decide) ?_
                exact rf_zret hC hT rfl h dX12_readsRecord_153
            · have h := h.2 hc
              exact t_X12_readsRecord_120 hC σ22 _ _ _ h hT (lv_sub hl [] rfl)
        · have h := h.2 hc
          exact t_X12_readsRecord_85 hC σ20 ((σ19.1 4) + 1) _ _ _ h hT (lv_sub hl [3, 1] rfl)
    · have h := h.2 hc
      refine lv_iconst (v := 0) hx hb dX12_readsRecord_51 (by decide) ?_
      exact rf_zret hC hT rfl h dX12_readsRecord_52
  · have h := h.2 hc
    refine lv_aload_n hx hb dX12_readsRecord_19 rfl (lv_at hl 1 rfl) ?_
    refine lv_iconst (v := 2) hx hb dX12_readsRecord_20 (by decide) ?_
    refine lv_aload_n hx hb dX12_readsRecord_21 rfl (lv_at hl 1 rfl) ?_
    refine rf_get hx hb hK hT hown 4 (by decide) kfX12_104 (v := .int (σ19.1 4)) rfl dX12_readsRecord_22 ?_
    refine rf_calli (rf_runV hx hb hml hown hK hT (c_X12_wrong h) rfl rfl klX12_111 ki_X12_wrong ks_X12_wrong kn_X12 kc_X12_wrong 2 ⟨rfl, by decide, by decide, by decide +kernel⟩ ⟨by decide, by decide⟩ rfl hl.1 rfl (Nat.le_of_ble_eq_true rfl) ⟨Nat.le_refl _, Nat.le_refl _⟩ dX12_readsRecord_25) hT (fun r24 σ24 H locs h hT => ?_)
    exact rf_zret hC hT h.1 h.2 dX12_readsRecord_28
/-! X12_due -/
abbrev rm_X12_due : Room := { frames := 0, cells := 0, slots := 0, locals := 0 }
def wp_X12_due (post : Int64 → rf_S → Prop) (σ : rf_S) (p1 : Int32) : Prop := vp_in p1 (rf_n 70) ∧ vp_in (σ.2.2.1 70 p1.toNatClampNeg) (rf_n 8) ∧ vp_in p1 (rf_n 69) ∧ vp_in ((12 * (σ.1 32)) + (σ.2.2.1 69 p1.toNatClampNeg)) (rf_n 44) ∧ post (((σ.2.2.1 8 (σ.2.2.1 70 p1.toNatClampNeg).toNatClampNeg).toInt64) + ((σ.2.2.1 44 ((12 * (σ.1 32)) + (σ.2.2.1 69 p1.toNatClampNeg)).toNatClampNeg).toInt64)) σ
set_option maxRecDepth 100000 in
set_option maxHeartbeats 4000000 in
theorem c_X12_due {l : Launch} {P : hw_G} {o : Nat} {ad : Nat → Nat} {σ : rf_S} {p1 : Int32} {post : Int64 → rf_S → Prop} (h : wp_X12_due post σ p1) : Met l yX12_due [Cond.code yX12_due cX12_due 2 (some .long)] rm_X12_due (rf_Pc P o ad σ [.ref o, .int p1]) (rf_Ql P o ad post) 0 0 (rf_A o ad) := by
  refine rf_met (by decide) rfl (Nat.le_of_ble_eq_true rfl) ?_
  intro p e s m below meth c ls hC hT hl
  obtain ⟨hx, hb, hml, hown, hK, -, -⟩ := id hC
  have hl : lv_has ls 2 [(0, .ref o), (1, .int p1)] := hl
  refine lv_aload_n hx hb dX12_due_0 rfl (lv_at hl 0 rfl) ?_
  refine rf_get hx hb hK hT hown 8 (by decide) kfX12_170 (v := .ref (ad 8)) rfl dX12_due_1 ?_
  refine lv_aload_n hx hb dX12_due_4 rfl (lv_at hl 0 rfl) ?_
  refine rf_get hx hb hK hT hown 70 (by decide) kfX12_269 (v := .ref (ad 70)) rfl dX12_due_5 ?_
  refine lv_iload_n hx hb dX12_due_8 rfl (lv_at hl 1 rfl) ?_
  obtain ⟨hi, h⟩ := h
  refine rf_sald hx hb hK hT 70 (by decide) rfl hi (v := σ.2.2.1 70 p1.toNatClampNeg) rfl dX12_due_9 ?_
  obtain ⟨hi, h⟩ := h
  refine rf_iald hx hb hK hT 8 (by decide) rfl hi (v := σ.2.2.1 8 (σ.2.2.1 70 p1.toNatClampNeg).toNatClampNeg) rfl dX12_due_10 ?_
  refine lv_i2l (v := (σ.2.2.1 8 (σ.2.2.1 70 p1.toNatClampNeg).toNatClampNeg).toInt64) hx hb dX12_due_11 rfl ?_
  refine lv_aload_n hx hb dX12_due_12 rfl (lv_at hl 0 rfl) ?_
  refine rf_get hx hb hK hT hown 44 (by decide) kfX12_226 (v := .ref (ad 44)) rfl dX12_due_13 ?_
  refine lv_bipush (v := 12) hx hb dX12_due_16 (by decide) ?_
  refine lv_aload_n hx hb dX12_due_18 rfl (lv_at hl 0 rfl) ?_
  refine rf_get hx hb hK hT hown 32 (by decide) kfX12_368 (v := .int (σ.1 32)) rfl dX12_due_19 ?_
  refine lv_imul hx hb dX12_due_22 ?_
  refine lv_aload_n hx hb dX12_due_23 rfl (lv_at hl 0 rfl) ?_
  refine rf_get hx hb hK hT hown 69 (by decide) kfX12_266 (v := .ref (ad 69)) rfl dX12_due_24 ?_
  refine lv_iload_n hx hb dX12_due_27 rfl (lv_at hl 1 rfl) ?_
  obtain ⟨hi, h⟩ := h
  refine rf_bald hx hb hK hT 69 (by decide) rfl hi (v := σ.2.2.1 69 p1.toNatClampNeg) rfl dX12_due_28 ?_
  refine lv_iadd hx hb dX12_due_29 ?_
  obtain ⟨hi, h⟩ := h
  refine rf_iald hx hb hK hT 44 (by decide) rfl hi (v := σ.2.2.1 44 ((12 * (σ.1 32)) + (σ.2.2.1 69 p1.toNatClampNeg)).toNatClampNeg) rfl dX12_due_30 ?_
  refine lv_i2l (v := (σ.2.2.1 44 ((12 * (σ.1 32)) + (σ.2.2.1 69 p1.toNatClampNeg)).toNatClampNeg).toInt64) hx hb dX12_due_31 rfl ?_
  refine lv_ladd hx hb dX12_due_32 ?_
  exact rf_lret hC hT h dX12_due_33
/-! X12_finds -/
abbrev rm_X12_finds : Room := { frames := 0, cells := 0, slots := 0, locals := 0 }
def w_X12_finds_163 (post : rf_S → Prop) (σ : rf_S) (x1 : Int32) (x2 : Int32) (x3 : Int32) (x5 : Int32) : Prop := vp_in x5 (rf_n 65) ∧ vp_in x5 (rf_n 66) ∧ vp_in (σ.1 83) (rf_n 81) ∧ vp_in (σ.1 83) (rf_n 82) ∧ post (rf_ui (rf_ua (rf_ua (rf_ua (rf_ua (rf_ui σ 78 ((σ.1 78) + 1)) 65 x5.toNatClampNeg x3) 66 x5.toNatClampNeg (vp_nar .short 0)) 81 (σ.1 83).toNatClampNeg (vp_nar .short x1.toInt16.toInt32)) 82 (σ.1 83).toNatClampNeg (vp_nar .short x2.toInt16.toInt32)) 83 ((σ.1 83) + 1))
section
variable {p : Program} {l : Launch} {e : Env} {s : State} {m : MethodId} {args : Array Value} {below : List Frame} {meth : Method} {c : Code} {P : hw_G} {o : Nat} {ad : Nat → Nat}
set_option maxRecDepth 100000 in
set_option maxHeartbeats 4000000 in
theorem t_X12_finds_163 {post : rf_S → Prop} (hC : rf_C P RX12 p s m meth c cX12_finds 6 none) (σ : rf_S) (x1 : Int32) (x2 : Int32) (x3 : Int32) (x5 : Int32) (H : Heap) (locs : List Loc) (ls : Array Slot) (h : w_X12_finds_163 post σ x1 x2 x3 x5) (hT : rf_T P s (rf_A o ad) o ad σ H locs) (hl : lv_has ls 6 [(0, .ref o), (1, .int x1), (2, .int x2), (3, .int x3), (5, .int x5)]) : W p l e rm_X12_finds s m args below meth c H locs 0 0 (MQ below (rf_Qv P o ad post) args s 0 0 (rf_A o ad)) (F0 m 163 ls []) := by
  obtain ⟨hx, hb, hml, hown, hK, -, -⟩ := id hC
  refine lv_aload_n hx hb dX12_finds_163 rfl (lv_at hl 0 rfl) ?_
  refine lv_dup hx hb dX12_finds_164 rfl ?_
  refine rf_get hx hb hK hT hown 78 (by decide) kfX12_74 (v := .int (σ.1 78)) rfl dX12_finds_165 ?_
  refine lv_iconst (v := 1) hx hb dX12_finds_168 (by decide) ?_
  refine lv_iadd hx hb dX12_finds_169 ?_
  refine rf_puti hx hb hK hT hown 78 (by decide) kfX12_74 rfl rfl dX12_finds_170 (fun H locs hT => ?_)
  refine lv_aload_n hx hb dX12_finds_173 rfl (lv_at hl 0 rfl) ?_
  refine rf_get hx hb hK hT hown 65 (by decide) kfX12_91 (v := .ref (ad 65)) rfl dX12_finds_174 ?_
  refine lv_iload hx hb dX12_finds_177 (lv_at hl 4 rfl) ?_
  refine lv_iload_n hx hb dX12_finds_179 rfl (lv_at hl 3 rfl) ?_
  obtain ⟨hi, h⟩ := h
  refine rf_iast hx hb hK hT 65 (by decide) rfl hi dX12_finds_180 (fun H locs hT => ?_)
  refine lv_aload_n hx hb dX12_finds_181 rfl (lv_at hl 0 rfl) ?_
  refine rf_get hx hb hK hT hown 66 (by decide) kfX12_94 (v := .ref (ad 66)) rfl dX12_finds_182 ?_
  refine lv_iload hx hb dX12_finds_185 (lv_at hl 4 rfl) ?_
  refine lv_iconst (v := 0) hx hb dX12_finds_187 (by decide) ?_
  obtain ⟨hi, h⟩ := h
  refine rf_sast hx hb hK hT 66 (by decide) rfl hi dX12_finds_188 (fun H locs hT => ?_)
  refine lv_aload_n hx hb dX12_finds_189 rfl (lv_at hl 0 rfl) ?_
  refine rf_get hx hb hK hT hown 81 (by decide) kfX12_290 (v := .ref (ad 81)) rfl dX12_finds_190 ?_
  refine lv_aload_n hx hb dX12_finds_193 rfl (lv_at hl 0 rfl) ?_
  refine rf_get hx hb hK hT hown 83 (by decide) kfX12_496 (v := .int (σ.1 83)) rfl dX12_finds_194 ?_
  refine lv_iload_n hx hb dX12_finds_197 rfl (lv_at hl 1 rfl) ?_
  refine lv_i2s (v := x1.toInt16.toInt32) hx hb dX12_finds_198 rfl ?_
  obtain ⟨hi, h⟩ := h
  refine rf_sast hx hb hK hT 81 (by decide) rfl hi dX12_finds_199 (fun H locs hT => ?_)
  refine lv_aload_n hx hb dX12_finds_200 rfl (lv_at hl 0 rfl) ?_
  refine rf_get hx hb hK hT hown 82 (by decide) kfX12_293 (v := .ref (ad 82)) rfl dX12_finds_201 ?_
  refine lv_aload_n hx hb dX12_finds_204 rfl (lv_at hl 0 rfl) ?_
  refine rf_get hx hb hK hT hown 83 (by decide) kfX12_496 (v := .int (σ.1 83)) rfl dX12_finds_205 ?_
  refine lv_iload_n hx hb dX12_finds_208 rfl (lv_at hl 2 rfl) ?_
  refine lv_i2s (v := x2.toInt16.toInt32) hx hb dX12_finds_209 rfl ?_
  obtain ⟨hi, h⟩ := h
  refine rf_sast hx hb hK hT 82 (by decide) rfl hi dX12_finds_210 (fun H locs hT => ?_)
  refine lv_aload_n hx hb dX12_finds_211 rfl (lv_at hl 0 rfl) ?_
  refine lv_dup hx hb dX12_finds_212 rfl ?_
  refine rf_get hx hb hK hT hown 83 (by decide) kfX12_496 (v := .int (σ.1 83)) rfl dX12_finds_213 ?_
  refine lv_iconst (v := 1) hx hb dX12_finds_216 (by decide) ?_
  refine lv_iadd hx hb dX12_finds_217 ?_
  refine rf_puti hx hb hK hT hown 83 (by decide) kfX12_496 rfl rfl dX12_finds_218 (fun H locs hT => ?_)
  exact rf_vret hC hT h dX12_finds_221
end
def w_X12_finds_93 (post : rf_S → Prop) (σ : rf_S) (x1 : Int32) (x2 : Int32) (x3 : Int32) (x4 : Int32) (x5 : Int32) : Prop := (500 ≤ (σ.1 78) → w_X12_finds_163 post σ x1 x2 x3 x5) ∧ (¬ 500 ≤ (σ.1 78) → vp_in (σ.1 78) (rf_n 73) ∧ vp_in (σ.1 78) (rf_n 77) ∧ vp_in (σ.1 78) (rf_n 74) ∧ vp_in (σ.1 78) (rf_n 75) ∧ vp_in x5 (rf_n 66) ∧ vp_in (σ.1 78) (rf_n 76) ∧ w_X12_finds_163 post (rf_ua (rf_ua (rf_ua (rf_ua (rf_ua σ 73 (σ.1 78).toNatClampNeg (vp_nar .short x1.toInt16.toInt32)) 77 (σ.1 78).toNatClampNeg x3) 74 (σ.1 78).toNatClampNeg (vp_nar .short x4.toInt16.toInt32)) 75 (σ.1 78).toNatClampNeg (vp_nar .short x2.toInt16.toInt32)) 76 (σ.1 78).toNatClampNeg (vp_nar .short (σ.2.2.1 66 x5.toNatClampNeg))) x1 x2 x3 x5)
section
variable {p : Program} {l : Launch} {e : Env} {s : State} {m : MethodId} {args : Array Value} {below : List Frame} {meth : Method} {c : Code} {P : hw_G} {o : Nat} {ad : Nat → Nat}
set_option maxRecDepth 100000 in
set_option maxHeartbeats 4000000 in
theorem t_X12_finds_93 {post : rf_S → Prop} (hC : rf_C P RX12 p s m meth c cX12_finds 6 none) (σ : rf_S) (x1 : Int32) (x2 : Int32) (x3 : Int32) (x4 : Int32) (x5 : Int32) (H : Heap) (locs : List Loc) (ls : Array Slot) (h : w_X12_finds_93 post σ x1 x2 x3 x4 x5) (hT : rf_T P s (rf_A o ad) o ad σ H locs) (hl : lv_has ls 6 [(0, .ref o), (1, .int x1), (2, .int x2), (3, .int x3), (4, .int x4), (5, .int x5)]) : W p l e rm_X12_finds s m args below meth c H locs 0 0 (MQ below (rf_Qv P o ad post) args s 0 0 (rf_A o ad)) (F0 m 93 ls []) := by
  obtain ⟨hx, hb, hml, hown, hK, -, -⟩ := id hC
  refine lv_aload_n hx hb dX12_finds_93 rfl (lv_at hl 0 rfl) ?_
  refine rf_get hx hb hK hT hown 78 (by decide) kfX12_74 (v := .int (σ.1 78)) rfl dX12_finds_94 ?_
  refine lv_sipush (v := 500) hx hb dX12_finds_97 (by decide) ?_
  refine lv_icmp_ge (tgt := 163) hx hb dX12_finds_100 (by decide) (fun hc => ?_) (fun hc => ?_)
  · have h := h.1 hc
    exact t_X12_finds_163 hC σ x1 x2 x3 x5 _ _ _ h hT (lv_sub hl [0, 1, 2, 3, 5] rfl)
  · have h := h.2 hc
    refine lv_aload_n hx hb dX12_finds_103 rfl (lv_at hl 0 rfl) ?_
    refine rf_get hx hb hK hT hown 73 (by decide) kfX12_275 (v := .ref (ad 73)) rfl dX12_finds_104 ?_
    refine lv_aload_n hx hb dX12_finds_107 rfl (lv_at hl 0 rfl) ?_
    refine rf_get hx hb hK hT hown 78 (by decide) kfX12_74 (v := .int (σ.1 78)) rfl dX12_finds_108 ?_
    refine lv_iload_n hx hb dX12_finds_111 rfl (lv_at hl 1 rfl) ?_
    refine lv_i2s (v := x1.toInt16.toInt32) hx hb dX12_finds_112 rfl ?_
    obtain ⟨hi, h⟩ := h
    refine rf_sast hx hb hK hT 73 (by decide) rfl hi dX12_finds_113 (fun H locs hT => ?_)
    refine lv_aload_n hx hb dX12_finds_114 rfl (lv_at hl 0 rfl) ?_
    refine rf_get hx hb hK hT hown 77 (by decide) kfX12_287 (v := .ref (ad 77)) rfl dX12_finds_115 ?_
    refine lv_aload_n hx hb dX12_finds_118 rfl (lv_at hl 0 rfl) ?_
    refine rf_get hx hb hK hT hown 78 (by decide) kfX12_74 (v := .int (σ.1 78)) rfl dX12_finds_119 ?_
    refine lv_iload_n hx hb dX12_finds_122 rfl (lv_at hl 3 rfl) ?_
    obtain ⟨hi, h⟩ := h
    refine rf_iast hx hb hK hT 77 (by decide) rfl hi dX12_finds_123 (fun H locs hT => ?_)
    refine lv_aload_n hx hb dX12_finds_124 rfl (lv_at hl 0 rfl) ?_
    refine rf_get hx hb hK hT hown 74 (by decide) kfX12_278 (v := .ref (ad 74)) rfl dX12_finds_125 ?_
    refine lv_aload_n hx hb dX12_finds_128 rfl (lv_at hl 0 rfl) ?_
    refine rf_get hx hb hK hT hown 78 (by decide) kfX12_74 (v := .int (σ.1 78)) rfl dX12_finds_129 ?_
    refine lv_iload hx hb dX12_finds_132 (lv_at hl 4 rfl) ?_
    refine lv_i2s (v := x4.toInt16.toInt32) hx hb dX12_finds_134 rfl ?_
    obtain ⟨hi, h⟩ := h
    refine rf_sast hx hb hK hT 74 (by decide) rfl hi dX12_finds_135 (fun H locs hT => ?_)
    refine lv_aload_n hx hb dX12_finds_136 rfl (lv_at hl 0 rfl) ?_
    refine rf_get hx hb hK hT hown 75 (by decide) kfX12_281 (v := .ref (ad 75)) rfl dX12_finds_137 ?_
    refine lv_aload_n hx hb dX12_finds_140 rfl (lv_at hl 0 rfl) ?_
    refine rf_get hx hb hK hT hown 78 (by decide) kfX12_74 (v := .int (σ.1 78)) rfl dX12_finds_141 ?_
    refine lv_iload_n hx hb dX12_finds_144 rfl (lv_at hl 2 rfl) ?_
    refine lv_i2s (v := x2.toInt16.toInt32) hx hb dX12_finds_145 rfl ?_
    obtain ⟨hi, h⟩ := h
    refine rf_sast hx hb hK hT 75 (by decide) rfl hi dX12_finds_146 (fun H locs hT => ?_)
    refine lv_aload_n hx hb dX12_finds_147 rfl (lv_at hl 0 rfl) ?_
    refine rf_get hx hb hK hT hown 76 (by decide) kfX12_284 (v := .ref (ad 76)) rfl dX12_finds_148 ?_
    refine lv_aload_n hx hb dX12_finds_151 rfl (lv_at hl 0 rfl) ?_
    refine rf_get hx hb hK hT hown 78 (by decide) kfX12_74 (v := .int (σ.1 78)) rfl dX12_finds_152 ?_
    refine lv_aload_n hx hb dX12_finds_155 rfl (lv_at hl 0 rfl) ?_
    refine rf_get hx hb hK hT hown 66 (by decide) kfX12_94 (v := .ref (ad 66)) rfl dX12_finds_156 ?_
    refine lv_iload hx hb dX12_finds_159 (lv_at hl 5 rfl) ?_
    obtain ⟨hi, h⟩ := h
    refine rf_sald hx hb hK hT 66 (by decide) rfl hi (v := σ.2.2.1 66 x5.toNatClampNeg) rfl dX12_finds_161 ?_
    obtain ⟨hi, h⟩ := h
    refine rf_sast hx hb hK hT 76 (by decide) rfl hi dX12_finds_162 (fun H locs hT => ?_)
    exact t_X12_finds_163 hC (rf_ua (rf_ua (rf_ua (rf_ua (rf_ua σ 73 (σ.1 78).toNatClampNeg (vp_nar .short x1.toInt16.toInt32)) 77 (σ.1 78).toNatClampNeg x3) 74 (σ.1 78).toNatClampNeg (vp_nar .short x4.toInt16.toInt32)) 75 (σ.1 78).toNatClampNeg (vp_nar .short x2.toInt16.toInt32)) 76 (σ.1 78).toNatClampNeg (vp_nar .short (σ.2.2.1 66 x5.toNatClampNeg))) x1 x2 x3 x5 _ _ _ h hT (lv_sub hl [0, 1, 2, 3, 5] rfl)
end
def wp_X12_finds (post : rf_S → Prop) (σ : rf_S) (p1 : Int32) (p2 : Int32) (p3 : Int32) (p4 : Int32) : Prop := vp_in p1 (rf_n 67) ∧ vp_in p1 (rf_n 67) ∧ vp_in ((4000 * p1) + p2) (rf_n 63) ∧ vp_in ((4000 * p1) + (σ.2.2.1 63 ((4000 * p1) + p2).toNatClampNeg)) (rf_n 65) ∧ ((σ.2.2.1 65 ((4000 * p1) + (σ.2.2.1 63 ((4000 * p1) + p2).toNatClampNeg)).toNatClampNeg) < 0 → w_X12_finds_93 post (rf_ua σ 67 p1.toNatClampNeg ((σ.2.2.1 67 p1.toNatClampNeg) + 1)) p1 p2 p3 p4 ((4000 * p1) + (σ.2.2.1 63 ((4000 * p1) + p2).toNatClampNeg))) ∧ (¬ (σ.2.2.1 65 ((4000 * p1) + (σ.2.2.1 63 ((4000 * p1) + p2).toNatClampNeg)).toNatClampNeg) < 0 → vp_in ((4000 * p1) + (σ.2.2.1 63 ((4000 * p1) + p2).toNatClampNeg)) (rf_n 65) ∧ vp_in ((12 * (σ.1 32)) + p1) (rf_n 45) ∧ ((lg_cmp ((σ.2.2.1 65 ((4000 * p1) + (σ.2.2.1 63 ((4000 * p1) + p2).toNatClampNeg)).toNatClampNeg).toInt64) (p3.toInt64 - ((σ.2.2.1 45 ((12 * (σ.1 32)) + p1).toNatClampNeg).toInt64))) ≤ 0 → w_X12_finds_93 post (rf_ua σ 67 p1.toNatClampNeg ((σ.2.2.1 67 p1.toNatClampNeg) + 1)) p1 p2 p3 p4 ((4000 * p1) + (σ.2.2.1 63 ((4000 * p1) + p2).toNatClampNeg))) ∧ (¬ (lg_cmp ((σ.2.2.1 65 ((4000 * p1) + (σ.2.2.1 63 ((4000 * p1) + p2).toNatClampNeg)).toNatClampNeg).toInt64) (p3.toInt64 - ((σ.2.2.1 45 ((12 * (σ.1 32)) + p1).toNatClampNeg).toInt64))) ≤ 0 → vp_in ((4000 * p1) + (σ.2.2.1 63 ((4000 * p1) + p2).toNatClampNeg)) (rf_n 66) ∧ vp_in ((4000 * p1) + (σ.2.2.1 63 ((4000 * p1) + p2).toNatClampNeg)) (rf_n 66) ∧ post (rf_ui (rf_ua (rf_ua σ 67 p1.toNatClampNeg ((σ.2.2.1 67 p1.toNatClampNeg) + 1)) 66 ((4000 * p1) + (σ.2.2.1 63 ((4000 * p1) + p2).toNatClampNeg)).toNatClampNeg (vp_nar .short (((σ.2.2.1 66 ((4000 * p1) + (σ.2.2.1 63 ((4000 * p1) + p2).toNatClampNeg)).toNatClampNeg) + 1).toInt16.toInt32))) 79 ((σ.1 79) + 1))))
set_option maxRecDepth 100000 in
set_option maxHeartbeats 4000000 in
theorem c_X12_finds {l : Launch} {P : hw_G} {o : Nat} {ad : Nat → Nat} {σ : rf_S} {p1 : Int32} {p2 : Int32} {p3 : Int32} {p4 : Int32} {post : rf_S → Prop} (h : wp_X12_finds post σ p1 p2 p3 p4) : Met l yX12_finds [Cond.code yX12_finds cX12_finds 6 none] rm_X12_finds (rf_Pc P o ad σ [.ref o, .int p1, .int p2, .int p3, .int p4]) (rf_Qv P o ad post) 0 0 (rf_A o ad) := by
  refine rf_met (by decide) rfl (Nat.le_of_ble_eq_true rfl) ?_
  intro p e s m below meth c ls hC hT hl
  obtain ⟨hx, hb, hml, hown, hK, -, -⟩ := id hC
  have hl : lv_has ls 6 [(0, .ref o), (1, .int p1), (2, .int p2), (3, .int p3), (4, .int p4)] := hl
  refine lv_aload_n hx hb dX12_finds_0 rfl (lv_at hl 0 rfl) ?_
  refine rf_get hx hb hK hT hown 67 (by decide) kfX12_83 (v := .ref (ad 67)) rfl dX12_finds_1 ?_
  refine lv_iload_n hx hb dX12_finds_4 rfl (lv_at hl 1 rfl) ?_
  refine lv_dup2_11 hx hb dX12_finds_5 rfl rfl ?_
  obtain ⟨hi, h⟩ := h
  refine rf_iald hx hb hK hT 67 (by decide) rfl hi (v := σ.2.2.1 67 p1.toNatClampNeg) rfl dX12_finds_6 ?_
  refine lv_iconst (v := 1) hx hb dX12_finds_7 (by decide) ?_
  refine lv_iadd hx hb dX12_finds_8 ?_
  obtain ⟨hi, h⟩ := h
  refine rf_iast hx hb hK hT 67 (by decide) rfl hi dX12_finds_9 (fun H locs hT => ?_)
  refine lv_sipush (v := 4000) hx hb dX12_finds_10 (by decide) ?_
  refine lv_iload_n hx hb dX12_finds_13 rfl (lv_at hl 1 rfl) ?_
  refine lv_imul hx hb dX12_finds_14 ?_
  refine lv_aload_n hx hb dX12_finds_15 rfl (lv_at hl 0 rfl) ?_
  refine rf_get hx hb hK hT hown 63 (by decide) kfX12_87 (v := .ref (ad 63)) rfl dX12_finds_16 ?_
  refine lv_sipush (v := 4000) hx hb dX12_finds_19 (by decide) ?_
  refine lv_iload_n hx hb dX12_finds_22 rfl (lv_at hl 1 rfl) ?_
  refine lv_imul hx hb dX12_finds_23 ?_
  refine lv_iload_n hx hb dX12_finds_24 rfl (lv_at hl 2 rfl) ?_
  refine lv_iadd hx hb dX12_finds_25 ?_
  obtain ⟨hi, h⟩ := h
  refine rf_sald hx hb hK hT 63 (by decide) rfl hi (v := σ.2.2.1 63 ((4000 * p1) + p2).toNatClampNeg) rfl dX12_finds_26 ?_
  refine lv_iadd hx hb dX12_finds_27 ?_
  refine lv_istore (lv' := [(5, _), (0, _), (1, _), (2, _), (3, _), (4, _)]) hx hb dX12_finds_28 hl (by decide) rfl (fun ls hl => ?_)
  refine lv_aload_n hx hb dX12_finds_30 rfl (lv_at hl 1 rfl) ?_
  refine rf_get hx hb hK hT hown 65 (by decide) kfX12_91 (v := .ref (ad 65)) rfl dX12_finds_31 ?_
  refine lv_iload hx hb dX12_finds_34 (lv_at hl 0 rfl) ?_
  obtain ⟨hi, h⟩ := h
  refine rf_iald hx hb hK hT 65 (by decide) rfl hi (v := σ.2.2.1 65 ((4000 * p1) + (σ.2.2.1 63 ((4000 * p1) + p2).toNatClampNeg)).toNatClampNeg) rfl dX12_finds_36 ?_
  refine lv_if_lt (tgt := 93) hx hb dX12_finds_37 (by decide) (fun hc => ?_) (fun hc => ?_)
  · have h := h.1 hc
    exact t_X12_finds_93 hC (rf_ua σ 67 p1.toNatClampNeg ((σ.2.2.1 67 p1.toNatClampNeg) + 1)) p1 p2 p3 p4 ((4000 * p1) + (σ.2.2.1 63 ((4000 * p1) + p2).toNatClampNeg)) _ _ _ h hT (lv_sub hl [1, 2, 3, 4, 5, 0] rfl)
  · have h := h.2 hc
    refine lv_aload_n hx hb dX12_finds_40 rfl (lv_at hl 1 rfl) ?_
    refine rf_get hx hb hK hT hown 65 (by decide) kfX12_91 (v := .ref (ad 65)) rfl dX12_finds_41 ?_
    refine lv_iload hx hb dX12_finds_44 (lv_at hl 0 rfl) ?_
    obtain ⟨hi, h⟩ := h
    refine rf_iald hx hb hK hT 65 (by decide) rfl hi (v := σ.2.2.1 65 ((4000 * p1) + (σ.2.2.1 63 ((4000 * p1) + p2).toNatClampNeg)).toNatClampNeg) rfl dX12_finds_46 ?_
    refine lv_i2l (v := (σ.2.2.1 65 ((4000 * p1) + (σ.2.2.1 63 ((4000 * p1) + p2).toNatClampNeg)).toNatClampNeg).toInt64) hx hb dX12_finds_47 rfl ?_
    refine lv_iload_n hx hb dX12_finds_48 rfl (lv_at hl 4 rfl) ?_
    refine lv_i2l (v := p3.toInt64) hx hb dX12_finds_49 rfl ?_
    refine lv_aload_n hx hb dX12_finds_50 rfl (lv_at hl 1 rfl) ?_
    refine rf_get hx hb hK hT hown 45 (by decide) kfX12_229 (v := .ref (ad 45)) rfl dX12_finds_51 ?_
    refine lv_bipush (v := 12) hx hb dX12_finds_54 (by decide) ?_
    refine lv_aload_n hx hb dX12_finds_56 rfl (lv_at hl 1 rfl) ?_
    refine rf_get hx hb hK hT hown 32 (by decide) kfX12_368 (v := .int (σ.1 32)) rfl dX12_finds_57 ?_
    refine lv_imul hx hb dX12_finds_60 ?_
    refine lv_iload_n hx hb dX12_finds_61 rfl (lv_at hl 2 rfl) ?_
    refine lv_iadd hx hb dX12_finds_62 ?_
    obtain ⟨hi, h⟩ := h
    refine rf_iald hx hb hK hT 45 (by decide) rfl hi (v := σ.2.2.1 45 ((12 * (σ.1 32)) + p1).toNatClampNeg) rfl dX12_finds_63 ?_
    refine lv_i2l (v := (σ.2.2.1 45 ((12 * (σ.1 32)) + p1).toNatClampNeg).toInt64) hx hb dX12_finds_64 rfl ?_
    refine lv_lsub hx hb dX12_finds_65 ?_
    refine W.lcmp hx hb dX12_finds_66 ?_
    refine lv_if_le (tgt := 93) hx hb dX12_finds_67 (by decide) (fun hc => ?_) (fun hc => ?_)
    · have h := h.1 hc
      exact t_X12_finds_93 hC (rf_ua σ 67 p1.toNatClampNeg ((σ.2.2.1 67 p1.toNatClampNeg) + 1)) p1 p2 p3 p4 ((4000 * p1) + (σ.2.2.1 63 ((4000 * p1) + p2).toNatClampNeg)) _ _ _ h hT (lv_sub hl [1, 2, 3, 4, 5, 0] rfl)
    · have h := h.2 hc
      refine lv_aload_n hx hb dX12_finds_70 rfl (lv_at hl 1 rfl) ?_
      refine rf_get hx hb hK hT hown 66 (by decide) kfX12_94 (v := .ref (ad 66)) rfl dX12_finds_71 ?_
      refine lv_iload hx hb dX12_finds_74 (lv_at hl 0 rfl) ?_
      refine lv_dup2_11 hx hb dX12_finds_76 rfl rfl ?_
      obtain ⟨hi, h⟩ := h
      refine rf_sald hx hb hK hT 66 (by decide) rfl hi (v := σ.2.2.1 66 ((4000 * p1) + (σ.2.2.1 63 ((4000 * p1) + p2).toNatClampNeg)).toNatClampNeg) rfl dX12_finds_77 ?_
      refine lv_iconst (v := 1) hx hb dX12_finds_78 (by decide) ?_
      refine lv_iadd hx hb dX12_finds_79 ?_
      refine lv_i2s (v := ((σ.2.2.1 66 ((4000 * p1) + (σ.2.2.1 63 ((4000 * p1) + p2).toNatClampNeg)).toNatClampNeg) + 1).toInt16.toInt32) hx hb dX12_finds_80 rfl ?_
      obtain ⟨hi, h⟩ := h
      refine rf_sast hx hb hK hT 66 (by decide) rfl hi dX12_finds_81 (fun H locs hT => ?_)
      refine lv_aload_n hx hb dX12_finds_82 rfl (lv_at hl 1 rfl) ?_
      refine lv_dup hx hb dX12_finds_83 rfl ?_
      refine rf_get hx hb hK hT hown 79 (by decide) kfX12_77 (v := .int (σ.1 79)) rfl dX12_finds_84 ?_
      refine lv_iconst (v := 1) hx hb dX12_finds_87 (by decide) ?_
      refine lv_iadd hx hb dX12_finds_88 ?_
      refine rf_puti hx hb hK hT hown 79 (by decide) kfX12_77 rfl rfl dX12_finds_89 (fun H locs hT => ?_)
      exact rf_vret hC hT h dX12_finds_92
/-! X12_moved -/
abbrev rm_X12_moved : Room := { frames := 2, cells := 0, slots := 0, locals := 46 }
def wp_X12_moved (post : rf_S → Prop) (σ : rf_S) (p1 : Int32) (p2 : Int32) : Prop := vp_in p1 (rf_n 13) ∧ vp_in p2 (rf_n 13) ∧ vp_in p1 (rf_n 14) ∧ vp_in p2 (rf_n 14) ∧ vp_in p1 (rf_n 15) ∧ vp_in p2 (rf_n 15) ∧ vp_in p1 (rf_n 16) ∧ vp_in p2 (rf_n 16) ∧ wp_X12_numbered (fun σ2 => post σ2) (rf_ua (rf_ua (rf_ua (rf_ub σ 13 p2.toNatClampNeg (σ.2.2.2 13 p1.toNatClampNeg)) 14 p2.toNatClampNeg (vp_nar .byte (σ.2.2.1 14 p1.toNatClampNeg))) 15 p2.toNatClampNeg (σ.2.2.1 15 p1.toNatClampNeg)) 16 p2.toNatClampNeg (σ.2.2.1 16 p1.toNatClampNeg)) p2
set_option maxRecDepth 100000 in
set_option maxHeartbeats 4000000 in
theorem c_X12_moved {l : Launch} {P : hw_G} {o : Nat} {ad : Nat → Nat} {σ : rf_S} {p1 : Int32} {p2 : Int32} {post : rf_S → Prop} (h : wp_X12_moved post σ p1 p2) : Met l yX12_moved [Cond.code yX12_moved cX12_moved 3 none] rm_X12_moved (rf_Pc P o ad σ [.ref o, .int p1, .int p2]) (rf_Qv P o ad post) 0 0 (rf_A o ad) := by
  refine rf_met (by decide) rfl (Nat.le_of_ble_eq_true rfl) ?_
  intro p e s m below meth c ls hC hT hl
  obtain ⟨hx, hb, hml, hown, hK, -, -⟩ := id hC
  have hl : lv_has ls 3 [(0, .ref o), (1, .int p1), (2, .int p2)] := hl
  refine lv_aload_n hx hb dX12_moved_0 rfl (lv_at hl 0 rfl) ?_
  refine rf_get hx hb hK hT hown 13 (by decide) kfX12_100 (v := .ref (ad 13)) rfl dX12_moved_1 ?_
  refine lv_iload_n hx hb dX12_moved_4 rfl (lv_at hl 2 rfl) ?_
  refine lv_aload_n hx hb dX12_moved_5 rfl (lv_at hl 0 rfl) ?_
  refine rf_get hx hb hK hT hown 13 (by decide) kfX12_100 (v := .ref (ad 13)) rfl dX12_moved_6 ?_
  refine lv_iload_n hx hb dX12_moved_9 rfl (lv_at hl 1 rfl) ?_
  obtain ⟨hi, h⟩ := h
  refine rf_lald hx hb hK hT 13 (by decide) rfl hi (v := σ.2.2.2 13 p1.toNatClampNeg) rfl dX12_moved_10 ?_
  obtain ⟨hi, h⟩ := h
  refine rf_last hx hb hK hT 13 (by decide) rfl hi dX12_moved_11 (fun H locs hT => ?_)
  refine lv_aload_n hx hb dX12_moved_12 rfl (lv_at hl 0 rfl) ?_
  refine rf_get hx hb hK hT hown 14 (by decide) kfX12_27 (v := .ref (ad 14)) rfl dX12_moved_13 ?_
  refine lv_iload_n hx hb dX12_moved_16 rfl (lv_at hl 2 rfl) ?_
  refine lv_aload_n hx hb dX12_moved_17 rfl (lv_at hl 0 rfl) ?_
  refine rf_get hx hb hK hT hown 14 (by decide) kfX12_27 (v := .ref (ad 14)) rfl dX12_moved_18 ?_
  refine lv_iload_n hx hb dX12_moved_21 rfl (lv_at hl 1 rfl) ?_
  obtain ⟨hi, h⟩ := h
  refine rf_bald hx hb hK hT 14 (by decide) rfl hi (v := σ.2.2.1 14 p1.toNatClampNeg) rfl dX12_moved_22 ?_
  obtain ⟨hi, h⟩ := h
  refine rf_bast hx hb hK hT 14 (by decide) rfl hi dX12_moved_23 (fun H locs hT => ?_)
  refine lv_aload_n hx hb dX12_moved_24 rfl (lv_at hl 0 rfl) ?_
  refine rf_get hx hb hK hT hown 15 (by decide) kfX12_30 (v := .ref (ad 15)) rfl dX12_moved_25 ?_
  refine lv_iload_n hx hb dX12_moved_28 rfl (lv_at hl 2 rfl) ?_
  refine lv_aload_n hx hb dX12_moved_29 rfl (lv_at hl 0 rfl) ?_
  refine rf_get hx hb hK hT hown 15 (by decide) kfX12_30 (v := .ref (ad 15)) rfl dX12_moved_30 ?_
  refine lv_iload_n hx hb dX12_moved_33 rfl (lv_at hl 1 rfl) ?_
  obtain ⟨hi, h⟩ := h
  refine rf_iald hx hb hK hT 15 (by decide) rfl hi (v := σ.2.2.1 15 p1.toNatClampNeg) rfl dX12_moved_34 ?_
  obtain ⟨hi, h⟩ := h
  refine rf_iast hx hb hK hT 15 (by decide) rfl hi dX12_moved_35 (fun H locs hT => ?_)
  refine lv_aload_n hx hb dX12_moved_36 rfl (lv_at hl 0 rfl) ?_
  refine rf_get hx hb hK hT hown 16 (by decide) kfX12_37 (v := .ref (ad 16)) rfl dX12_moved_37 ?_
  refine lv_iload_n hx hb dX12_moved_40 rfl (lv_at hl 2 rfl) ?_
  refine lv_aload_n hx hb dX12_moved_41 rfl (lv_at hl 0 rfl) ?_
  refine rf_get hx hb hK hT hown 16 (by decide) kfX12_37 (v := .ref (ad 16)) rfl dX12_moved_42 ?_
  refine lv_iload_n hx hb dX12_moved_45 rfl (lv_at hl 1 rfl) ?_
  obtain ⟨hi, h⟩ := h
  refine rf_iald hx hb hK hT 16 (by decide) rfl hi (v := σ.2.2.1 16 p1.toNatClampNeg) rfl dX12_moved_46 ?_
  obtain ⟨hi, h⟩ := h
  refine rf_iast hx hb hK hT 16 (by decide) rfl hi dX12_moved_47 (fun H locs hT => ?_)
  refine lv_aload_n hx hb dX12_moved_48 rfl (lv_at hl 0 rfl) ?_
  refine lv_iload_n hx hb dX12_moved_49 rfl (lv_at hl 2 rfl) ?_
  refine rf_callv (rf_runV hx hb hml hown hK hT (c_X12_numbered h) rfl rfl klX12_190 ki_X12_numbered ks_X12_numbered kn_X12 kc_X12_numbered 1 ⟨rfl, by decide, by decide, by decide +kernel⟩ ⟨by decide, by decide⟩ rfl hl.1 rfl (Nat.le_of_ble_eq_true rfl) ⟨Nat.le_refl _, Nat.le_refl _⟩ dX12_moved_50) hT (fun σ2 H locs h hT => ?_)
  exact rf_vret hC hT h dX12_moved_53
/-! X12_keyOf -/
abbrev rm_X12_keyOf : Room := { frames := 1, cells := 0, slots := 0, locals := 24 }
def w_X12_keyOf_173 (post : Int32 → rf_S → Prop) (k56 : rf_S → Int32 → Int32 → Int32 → Int32 → Prop) (σ : rf_S) (x1 : Int32) (x2 : Int32) (x3 : Int32) (x4 : Int32) : Prop := k56 σ x1 x2 x3 (x4 + (-1))
section
variable {p : Program} {l : Launch} {e : Env} {s : State} {m : MethodId} {args : Array Value} {below : List Frame} {meth : Method} {c : Code} {P : hw_G} {o : Nat} {ad : Nat → Nat}
set_option maxRecDepth 100000 in
set_option maxHeartbeats 4000000 in
theorem t_X12_keyOf_173 {post : Int32 → rf_S → Prop} {k56 : rf_S → Int32 → Int32 → Int32 → Int32 → Prop} (hC : rf_C P RX12 p s m meth c cX12_keyOf 8 (some .int)) (hk56 : ∀ (σ : rf_S) (x1 : Int32) (x2 : Int32) (x3 : Int32) (x4 : Int32) (H : Heap) (locs : List Loc) (ls : Array Slot), k56 σ x1 x2 x3 x4 → rf_T P s (rf_A o ad) o ad σ H locs → lv_has ls 8 [(0, .ref o), (1, .int x1), (2, .int x2), (3, .int x3), (4, .int x4)] → W p l e rm_X12_keyOf s m args below meth c H locs 0 0 (MQ below (rf_Qi P o ad post) args s 0 0 (rf_A o ad)) (F0 m 56 ls [])) (σ : rf_S) (x1 : Int32) (x2 : Int32) (x3 : Int32) (x4 : Int32) (H : Heap) (locs : List Loc) (ls : Array Slot) (h : w_X12_keyOf_173 post k56 σ x1 x2 x3 x4) (hT : rf_T P s (rf_A o ad) o ad σ H locs) (hl : lv_has ls 8 [(0, .ref o), (1, .int x1), (2, .int x2), (3, .int x3), (4, .int x4)]) : W p l e rm_X12_keyOf s m args below meth c H locs 0 0 (MQ below (rf_Qi P o ad post) args s 0 0 (rf_A o ad)) (F0 m 173 ls []) := by
  obtain ⟨hx, hb, hml, hown, hK, -, -⟩ := id hC
  refine lv_iinc (v := x4 + (-1)) (lv' := [(4, _), (0, _), (1, _), (2, _), (3, _)]) hx hb dX12_keyOf_173 hl (k := 4) rfl rfl (by decide) rfl (fun ls hl => ?_)
  refine lv_goto (tgt := 56) hx hb dX12_keyOf_176 (by decide) ?_
  exact hk56 σ x1 x2 x3 (x4 + (-1)) _ _ _ h hT (lv_sub hl [1, 2, 3, 4, 0] rfl)
end
def w_X12_keyOf_165 (post : Int32 → rf_S → Prop) (k56 : rf_S → Int32 → Int32 → Int32 → Int32 → Prop) (σ : rf_S) (x1 : Int32) (x2 : Int32) (x3 : Int32) (x4 : Int32) (x5 : Int32) (x6 : Int32) : Prop := (x6 = 0 → w_X12_keyOf_173 post k56 σ x1 x2 x3 x4) ∧ (¬ x6 = 0 → post x5 σ)
section
variable {p : Program} {l : Launch} {e : Env} {s : State} {m : MethodId} {args : Array Value} {below : List Frame} {meth : Method} {c : Code} {P : hw_G} {o : Nat} {ad : Nat → Nat}
set_option maxRecDepth 100000 in
set_option maxHeartbeats 4000000 in
theorem t_X12_keyOf_165 {post : Int32 → rf_S → Prop} {k56 : rf_S → Int32 → Int32 → Int32 → Int32 → Prop} (hC : rf_C P RX12 p s m meth c cX12_keyOf 8 (some .int)) (hk56 : ∀ (σ : rf_S) (x1 : Int32) (x2 : Int32) (x3 : Int32) (x4 : Int32) (H : Heap) (locs : List Loc) (ls : Array Slot), k56 σ x1 x2 x3 x4 → rf_T P s (rf_A o ad) o ad σ H locs → lv_has ls 8 [(0, .ref o), (1, .int x1), (2, .int x2), (3, .int x3), (4, .int x4)] → W p l e rm_X12_keyOf s m args below meth c H locs 0 0 (MQ below (rf_Qi P o ad post) args s 0 0 (rf_A o ad)) (F0 m 56 ls [])) (σ : rf_S) (x1 : Int32) (x2 : Int32) (x3 : Int32) (x4 : Int32) (x5 : Int32) (x6 : Int32) (H : Heap) (locs : List Loc) (ls : Array Slot) (h : w_X12_keyOf_165 post k56 σ x1 x2 x3 x4 x5 x6) (hT : rf_T P s (rf_A o ad) o ad σ H locs) (hl : lv_has ls 8 [(0, .ref o), (1, .int x1), (2, .int x2), (3, .int x3), (4, .int x4), (5, .int x5), (6, .int x6)]) : W p l e rm_X12_keyOf s m args below meth c H locs 0 0 (MQ below (rf_Qi P o ad post) args s 0 0 (rf_A o ad)) (F0 m 165 ls []) := by
  obtain ⟨hx, hb, hml, hown, hK, -, -⟩ := id hC
  refine lv_iload hx hb dX12_keyOf_165 (lv_at hl 6 rfl) ?_
  refine lv_if_eq (tgt := 173) hx hb dX12_keyOf_167 (by decide) (fun hc => ?_) (fun hc => ?_)
  · have h := h.1 hc
    exact t_X12_keyOf_173 hC hk56 σ x1 x2 x3 x4 _ _ _ h hT (lv_sub hl [0, 1, 2, 3, 4] rfl)
  · have h := h.2 hc
    refine lv_iload hx hb dX12_keyOf_170 (lv_at hl 5 rfl) ?_
    exact rf_iret hC hT h dX12_keyOf_172
end
def w_X12_keyOf_157 (post : Int32 → rf_S → Prop) (k56 : rf_S → Int32 → Int32 → Int32 → Int32 → Prop) (k90 : rf_S → Int32 → Int32 → Int32 → Int32 → Int32 → Int32 → Int32 → Prop) (σ : rf_S) (x1 : Int32) (x2 : Int32) (x3 : Int32) (x4 : Int32) (x5 : Int32) (x7 : Int32) (y0 : Int32) : Prop := k90 σ x1 x2 x3 x4 x5 y0 (x7 + 1)
section
variable {p : Program} {l : Launch} {e : Env} {s : State} {m : MethodId} {args : Array Value} {below : List Frame} {meth : Method} {c : Code} {P : hw_G} {o : Nat} {ad : Nat → Nat}
set_option maxRecDepth 100000 in
set_option maxHeartbeats 4000000 in
theorem t_X12_keyOf_157 {post : Int32 → rf_S → Prop} {k56 : rf_S → Int32 → Int32 → Int32 → Int32 → Prop} {k90 : rf_S → Int32 → Int32 → Int32 → Int32 → Int32 → Int32 → Int32 → Prop} (hC : rf_C P RX12 p s m meth c cX12_keyOf 8 (some .int)) (hk56 : ∀ (σ : rf_S) (x1 : Int32) (x2 : Int32) (x3 : Int32) (x4 : Int32) (H : Heap) (locs : List Loc) (ls : Array Slot), k56 σ x1 x2 x3 x4 → rf_T P s (rf_A o ad) o ad σ H locs → lv_has ls 8 [(0, .ref o), (1, .int x1), (2, .int x2), (3, .int x3), (4, .int x4)] → W p l e rm_X12_keyOf s m args below meth c H locs 0 0 (MQ below (rf_Qi P o ad post) args s 0 0 (rf_A o ad)) (F0 m 56 ls [])) (hk90 : ∀ (σ : rf_S) (x1 : Int32) (x2 : Int32) (x3 : Int32) (x4 : Int32) (x5 : Int32) (x6 : Int32) (x7 : Int32) (H : Heap) (locs : List Loc) (ls : Array Slot), k90 σ x1 x2 x3 x4 x5 x6 x7 → rf_T P s (rf_A o ad) o ad σ H locs → lv_has ls 8 [(0, .ref o), (1, .int x1), (2, .int x2), (3, .int x3), (4, .int x4), (5, .int x5), (6, .int x6), (7, .int x7)] → W p l e rm_X12_keyOf s m args below meth c H locs 0 0 (MQ below (rf_Qi P o ad post) args s 0 0 (rf_A o ad)) (F0 m 90 ls [])) (σ : rf_S) (x1 : Int32) (x2 : Int32) (x3 : Int32) (x4 : Int32) (x5 : Int32) (x7 : Int32) (y0 : Int32) (H : Heap) (locs : List Loc) (ls : Array Slot) (h : w_X12_keyOf_157 post k56 k90 σ x1 x2 x3 x4 x5 x7 y0) (hT : rf_T P s (rf_A o ad) o ad σ H locs) (hl : lv_has ls 8 [(0, .ref o), (1, .int x1), (2, .int x2), (3, .int x3), (4, .int x4), (5, .int x5), (7, .int x7)]) : W p l e rm_X12_keyOf s m args below meth c H locs 0 0 (MQ below (rf_Qi P o ad post) args s 0 0 (rf_A o ad)) (F0 m 157 ls [.int y0]) := by
  obtain ⟨hx, hb, hml, hown, hK, -, -⟩ := id hC
  refine lv_istore (lv' := [(6, _), (0, _), (1, _), (2, _), (3, _), (4, _), (5, _), (7, _)]) hx hb dX12_keyOf_157 hl (by decide) rfl (fun ls hl => ?_)
  refine lv_iinc (v := x7 + 1) (lv' := [(7, _), (6, _), (0, _), (1, _), (2, _), (3, _), (4, _), (5, _)]) hx hb dX12_keyOf_159 hl (k := 7) rfl rfl (by decide) rfl (fun ls hl => ?_)
  refine lv_goto (tgt := 90) hx hb dX12_keyOf_162 (by decide) ?_
  exact hk90 σ x1 x2 x3 x4 x5 y0 (x7 + 1) _ _ _ h hT (lv_sub hl [2, 3, 4, 5, 6, 7, 1, 0] rfl)
end
def w_X12_keyOf_90 (post : Int32 → rf_S → Prop) (k56 : rf_S → Int32 → Int32 → Int32 → Int32 → Prop) : Nat → rf_S → Int32 → Int32 → Int32 → Int32 → Int32 → Int32 → Int32 → Prop
  | 0, _, _, _, _, _, _, _, _ => False
  | n + 1, σ, x1, x2, x3, x4, x5, x6, x7 => vp_in x3 (rf_n 43) ∧ ((σ.2.2.1 43 x3.toNatClampNeg) ≤ x7 → w_X12_keyOf_165 post k56 σ x1 x2 x3 x4 x5 x6) ∧ (¬ (σ.2.2.1 43 x3.toNatClampNeg) ≤ x7 → (x6 = 0 → w_X12_keyOf_165 post k56 σ x1 x2 x3 x4 x5 x6) ∧ (¬ x6 = 0 → vp_in ((3 * x3) + x7) (rf_n 37) ∧ wp_X12_fieldOf (fun r4 σ4 => vp_in r4 (rf_n 17) ∧ vp_in ((3 * x3) + x7) (rf_n 37) ∧ wp_X12_fieldOf (fun r5 σ5 => vp_in r5 (rf_n 17) ∧ (¬ (σ4.2.2.1 17 r4.toNatClampNeg) = (σ5.2.2.1 17 r5.toNatClampNeg) → w_X12_keyOf_157 post k56 (w_X12_keyOf_90 post k56 n) σ5 x1 x2 x3 x4 x5 x7 0) ∧ ((σ4.2.2.1 17 r4.toNatClampNeg) = (σ5.2.2.1 17 r5.toNatClampNeg) → w_X12_keyOf_157 post k56 (w_X12_keyOf_90 post k56 n) σ5 x1 x2 x3 x4 x5 x7 1)) σ4 x2 (σ4.2.2.2 37 ((3 * x3) + x7).toNatClampNeg)) σ x5 (σ.2.2.2 37 ((3 * x3) + x7).toNatClampNeg)))
section
variable {p : Program} {l : Launch} {e : Env} {s : State} {m : MethodId} {args : Array Value} {below : List Frame} {meth : Method} {c : Code} {P : hw_G} {o : Nat} {ad : Nat → Nat}
set_option maxRecDepth 100000 in
set_option maxHeartbeats 4000000 in
theorem t_X12_keyOf_90 {post : Int32 → rf_S → Prop} {k56 : rf_S → Int32 → Int32 → Int32 → Int32 → Prop} (hC : rf_C P RX12 p s m meth c cX12_keyOf 8 (some .int)) (hk56 : ∀ (σ : rf_S) (x1 : Int32) (x2 : Int32) (x3 : Int32) (x4 : Int32) (H : Heap) (locs : List Loc) (ls : Array Slot), k56 σ x1 x2 x3 x4 → rf_T P s (rf_A o ad) o ad σ H locs → lv_has ls 8 [(0, .ref o), (1, .int x1), (2, .int x2), (3, .int x3), (4, .int x4)] → W p l e rm_X12_keyOf s m args below meth c H locs 0 0 (MQ below (rf_Qi P o ad post) args s 0 0 (rf_A o ad)) (F0 m 56 ls [])) : ∀ (n : Nat) (σ : rf_S) (x1 : Int32) (x2 : Int32) (x3 : Int32) (x4 : Int32) (x5 : Int32) (x6 : Int32) (x7 : Int32) (H : Heap) (locs : List Loc) (ls : Array Slot), w_X12_keyOf_90 post k56 n σ x1 x2 x3 x4 x5 x6 x7 → rf_T P s (rf_A o ad) o ad σ H locs → lv_has ls 8 [(0, .ref o), (1, .int x1), (2, .int x2), (3, .int x3), (4, .int x4), (5, .int x5), (6, .int x6), (7, .int x7)] → W p l e rm_X12_keyOf s m args below meth c H locs 0 0 (MQ below (rf_Qi P o ad post) args s 0 0 (rf_A o ad)) (F0 m 90 ls []) := by
  obtain ⟨hx, hb, hml, hown, hK, -, -⟩ := id hC
  intro n
  induction n with
  | zero => intro σ x1 x2 x3 x4 x5 x6 x7 H locs ls h; exact False.elim h
  | succ n ih =>
    intro σ x1 x2 x3 x4 x5 x6 x7 H locs ls h hT hl
    refine lv_iload hx hb dX12_keyOf_90 (lv_at hl 7 rfl) ?_
    refine lv_aload_n hx hb dX12_keyOf_92 rfl (lv_at hl 0 rfl) ?_
    refine rf_get hx hb hK hT hown 43 (by decide) kfX12_223 (v := .ref (ad 43)) rfl dX12_keyOf_93 ?_
    refine lv_iload_n hx hb dX12_keyOf_96 rfl (lv_at hl 3 rfl) ?_
    obtain ⟨hi, h⟩ := h
    refine rf_iald hx hb hK hT 43 (by decide) rfl hi (v := σ.2.2.1 43 x3.toNatClampNeg) rfl dX12_keyOf_97 ?_
    refine lv_icmp_ge (tgt := 165) hx hb dX12_keyOf_98 (by decide) (fun hc => ?_) (fun hc => ?_)
    · have h := h.1 hc
      exact t_X12_keyOf_165 hC hk56 σ x1 x2 x3 x4 x5 x6 _ _ _ h hT (lv_sub hl [0, 1, 2, 3, 4, 5, 6] rfl)
    · have h := h.2 hc
      refine lv_iload hx hb dX12_keyOf_101 (lv_at hl 6 rfl) ?_
      refine lv_if_eq (tgt := 165) hx hb dX12_keyOf_103 (by decide) (fun hc => ?_) (fun hc => ?_)
      · have h := h.1 hc
        exact t_X12_keyOf_165 hC hk56 σ x1 x2 x3 x4 x5 x6 _ _ _ h hT (lv_sub hl [0, 1, 2, 3, 4, 5, 6] rfl)
      · have h := h.2 hc
        refine lv_aload_n hx hb dX12_keyOf_106 rfl (lv_at hl 0 rfl) ?_
        refine rf_get hx hb hK hT hown 17 (by decide) kfX12_55 (v := .ref (ad 17)) rfl dX12_keyOf_107 ?_
        refine lv_aload_n hx hb dX12_keyOf_110 rfl (lv_at hl 0 rfl) ?_
        refine lv_iload hx hb dX12_keyOf_111 (lv_at hl 5 rfl) ?_
        refine lv_aload_n hx hb dX12_keyOf_113 rfl (lv_at hl 0 rfl) ?_
        refine rf_get hx hb hK hT hown 37 (by decide) kfX12_205 (v := .ref (ad 37)) rfl dX12_keyOf_114 ?_
        refine lv_iconst (v := 3) hx hb dX12_keyOf_117 (by decide) ?_
        refine lv_iload_n hx hb dX12_keyOf_118 rfl (lv_at hl 3 rfl) ?_
        refine lv_imul hx hb dX12_keyOf_119 ?_
        refine lv_iload hx hb dX12_keyOf_120 (lv_at hl 7 rfl) ?_
        refine lv_iadd hx hb dX12_keyOf_122 ?_
        obtain ⟨hi, h⟩ := h
        refine rf_lald hx hb hK hT 37 (by decide) rfl hi (v := σ.2.2.2 37 ((3 * x3) + x7).toNatClampNeg) rfl dX12_keyOf_123 ?_
        refine rf_calli (rf_runV hx hb hml hown hK hT (c_X12_fieldOf h) rfl rfl klX12_438 ki_X12_fieldOf ks_X12_fieldOf kn_X12 kc_X12_fieldOf 2 ⟨rfl, by decide, by decide, by decide +kernel⟩ ⟨by decide, by decide⟩ rfl hl.1 rfl (Nat.le_of_ble_eq_true rfl) ⟨Nat.le_refl _, Nat.le_refl _⟩ dX12_keyOf_124) hT (fun r4 σ4 H locs h hT => ?_)
        obtain ⟨hi, h⟩ := h
        refine rf_iald hx hb hK hT 17 (by decide) rfl hi (v := σ4.2.2.1 17 r4.toNatClampNeg) rfl dX12_keyOf_127 ?_
        refine lv_aload_n hx hb dX12_keyOf_128 rfl (lv_at hl 0 rfl) ?_
        refine rf_get hx hb hK hT hown 17 (by decide) kfX12_55 (v := .ref (ad 17)) rfl dX12_keyOf_129 ?_
        refine lv_aload_n hx hb dX12_keyOf_132 rfl (lv_at hl 0 rfl) ?_
        refine lv_iload_n hx hb dX12_keyOf_133 rfl (lv_at hl 2 rfl) ?_
        refine lv_aload_n hx hb dX12_keyOf_134 rfl (lv_at hl 0 rfl) ?_
        refine rf_get hx hb hK hT hown 37 (by decide) kfX12_205 (v := .ref (ad 37)) rfl dX12_keyOf_135 ?_
        refine lv_iconst (v := 3) hx hb dX12_keyOf_138 (by decide) ?_
        refine lv_iload_n hx hb dX12_keyOf_139 rfl (lv_at hl 3 rfl) ?_
        refine lv_imul hx hb dX12_keyOf_140 ?_
        refine lv_iload hx hb dX12_keyOf_141 (lv_at hl 7 rfl) ?_
        refine lv_iadd hx hb dX12_keyOf_143 ?_
        obtain ⟨hi, h⟩ := h
        refine rf_lald hx hb hK hT 37 (by decide) rfl hi (v := σ4.2.2.2 37 ((3 * x3) + x7).toNatClampNeg) rfl dX12_keyOf_144 ?_
        refine rf_calli (rf_runV hx hb hml hown hK hT (c_X12_fieldOf h) rfl rfl klX12_438 ki_X12_fieldOf ks_X12_fieldOf kn_X12 kc_X12_fieldOf 2 ⟨rfl, by decide, by decide, by decide +kernel⟩ ⟨by decide, by decide⟩ rfl hl.1 rfl (Nat.le_of_ble_eq_true rfl) ⟨Nat.le_refl _, Nat.le_refl _⟩ dX12_keyOf_145) hT (fun r5 σ5 H locs h hT => ?_)
        obtain ⟨hi, h⟩ := h
        refine rf_iald hx hb hK hT 17 (by decide) rfl hi (v := σ5.2.2.1 17 r5.toNatClampNeg) rfl dX12_keyOf_148 ?_
        refine lv_icmp_ne (tgt := 156) hx hb dX12_keyOf_149 (by decide) (fun hc => ?_) (fun hc => ?_)
        · have h := h.1 hc
          refine lv_iconst (v := 0) hx hb dX12_keyOf_156 (by decide) ?_
          exact t_X12_keyOf_157 hC hk56 ih σ5 x1 x2 x3 x4 x5 x7 0 _ _ _ h hT (lv_sub hl [0, 1, 2, 3, 4, 5, 7] rfl)
        · have h := h.2 hc
          refine lv_iconst (v := 1) hx hb dX12_keyOf_152 (by decide) ?_
          refine lv_goto (tgt := 157) hx hb dX12_keyOf_153 (by decide) ?_
          exact t_X12_keyOf_157 hC hk56 ih σ5 x1 x2 x3 x4 x5 x7 1 _ _ _ h hT (lv_sub hl [0, 1, 2, 3, 4, 5, 7] rfl)
end
def w_X12_keyOf_56 (post : Int32 → rf_S → Prop) : Nat → rf_S → Int32 → Int32 → Int32 → Int32 → Prop
  | 0, _, _, _, _, _ => False
  | n + 1, σ, x1, x2, x3, x4 => (x4 < 0 → post x2 σ) ∧ (¬ x4 < 0 → vp_in ((4000 * x1) + x4) (rf_n 63) ∧ (0 ≤ (σ.2.2.1 63 ((4000 * x1) + x4).toNatClampNeg) → ∃ n9, w_X12_keyOf_90 post (w_X12_keyOf_56 post n) n9 σ x1 x2 x3 x4 (σ.2.2.1 63 ((4000 * x1) + x4).toNatClampNeg) 1 0) ∧ (¬ 0 ≤ (σ.2.2.1 63 ((4000 * x1) + x4).toNatClampNeg) → w_X12_keyOf_173 post (w_X12_keyOf_56 post n) σ x1 x2 x3 x4))
section
variable {p : Program} {l : Launch} {e : Env} {s : State} {m : MethodId} {args : Array Value} {below : List Frame} {meth : Method} {c : Code} {P : hw_G} {o : Nat} {ad : Nat → Nat}
set_option maxRecDepth 100000 in
set_option maxHeartbeats 4000000 in
theorem t_X12_keyOf_56 {post : Int32 → rf_S → Prop} (hC : rf_C P RX12 p s m meth c cX12_keyOf 8 (some .int)) : ∀ (n : Nat) (σ : rf_S) (x1 : Int32) (x2 : Int32) (x3 : Int32) (x4 : Int32) (H : Heap) (locs : List Loc) (ls : Array Slot), w_X12_keyOf_56 post n σ x1 x2 x3 x4 → rf_T P s (rf_A o ad) o ad σ H locs → lv_has ls 8 [(0, .ref o), (1, .int x1), (2, .int x2), (3, .int x3), (4, .int x4)] → W p l e rm_X12_keyOf s m args below meth c H locs 0 0 (MQ below (rf_Qi P o ad post) args s 0 0 (rf_A o ad)) (F0 m 56 ls []) := by
  obtain ⟨hx, hb, hml, hown, hK, -, -⟩ := id hC
  intro n
  induction n with
  | zero => intro σ x1 x2 x3 x4 H locs ls h; exact False.elim h
  | succ n ih =>
    intro σ x1 x2 x3 x4 H locs ls h hT hl
    refine lv_iload hx hb dX12_keyOf_56 (lv_at hl 4 rfl) ?_
    refine lv_if_lt (tgt := 179) hx hb dX12_keyOf_58 (by decide) (fun hc => ?_) (fun hc => ?_)
    · have h := h.1 hc
      refine lv_iload_n hx hb dX12_keyOf_179 rfl (lv_at hl 2 rfl) ?_
      exact rf_iret hC hT h dX12_keyOf_180
    · have h := h.2 hc
      refine lv_aload_n hx hb dX12_keyOf_61 rfl (lv_at hl 0 rfl) ?_
      refine rf_get hx hb hK hT hown 63 (by decide) kfX12_87 (v := .ref (ad 63)) rfl dX12_keyOf_62 ?_
      refine lv_sipush (v := 4000) hx hb dX12_keyOf_65 (by decide) ?_
      refine lv_iload_n hx hb dX12_keyOf_68 rfl (lv_at hl 1 rfl) ?_
      refine lv_imul hx hb dX12_keyOf_69 ?_
      refine lv_iload hx hb dX12_keyOf_70 (lv_at hl 4 rfl) ?_
      refine lv_iadd hx hb dX12_keyOf_72 ?_
      obtain ⟨hi, h⟩ := h
      refine rf_sald hx hb hK hT 63 (by decide) rfl hi (v := σ.2.2.1 63 ((4000 * x1) + x4).toNatClampNeg) rfl dX12_keyOf_73 ?_
      refine lv_istore (lv' := [(5, _), (0, _), (1, _), (2, _), (3, _), (4, _)]) hx hb dX12_keyOf_74 hl (by decide) rfl (fun ls hl => ?_)
      refine lv_iload hx hb dX12_keyOf_76 (lv_at hl 0 rfl) ?_
      refine lv_if_ge (tgt := 84) hx hb dX12_keyOf_78 (by decide) (fun hc => ?_) (fun hc => ?_)
      · have h := h.1 hc
        refine lv_iconst (v := 1) hx hb dX12_keyOf_84 (by decide) ?_
        refine lv_istore (lv' := [(6, _), (5, _), (0, _), (1, _), (2, _), (3, _), (4, _)]) hx hb dX12_keyOf_85 hl (by decide) rfl (fun ls hl => ?_)
        refine lv_iconst (v := 0) hx hb dX12_keyOf_87 (by decide) ?_
        refine lv_istore (lv' := [(7, _), (6, _), (5, _), (0, _), (1, _), (2, _), (3, _), (4, _)]) hx hb dX12_keyOf_88 hl (by decide) rfl (fun ls hl => ?_)
        obtain ⟨n9, h⟩ := h
        exact t_X12_keyOf_90 hC ih n9 σ x1 x2 x3 x4 (σ.2.2.1 63 ((4000 * x1) + x4).toNatClampNeg) 1 0 _ _ _ h hT (lv_sub hl [3, 4, 5, 6, 7, 2, 1, 0] rfl)
      · have h := h.2 hc
        refine lv_goto (tgt := 173) hx hb dX12_keyOf_81 (by decide) ?_
        exact t_X12_keyOf_173 hC ih σ x1 x2 x3 x4 _ _ _ h hT (lv_sub hl [1, 2, 3, 4, 5] rfl)
end
def w_X12_keyOf_13 (post : Int32 → rf_S → Prop) : Nat → rf_S → Int32 → Int32 → Int32 → Int32 → Prop
  | 0, _, _, _, _, _ => False
  | n + 1, σ, x1, x2, x3, x4 => vp_in x3 (rf_n 43) ∧ ((σ.2.2.1 43 x3.toNatClampNeg) ≤ x4 → ∃ n9, w_X12_keyOf_56 post n9 σ x1 x2 x3 (x2 - 1)) ∧ (¬ (σ.2.2.1 43 x3.toNatClampNeg) ≤ x4 → vp_in ((3 * x3) + x4) (rf_n 37) ∧ wp_X12_fieldOf (fun r6 σ6 => (0 ≤ r6 → w_X12_keyOf_13 post n σ6 x1 x2 x3 (x4 + 1)) ∧ (¬ 0 ≤ r6 → post ((-1)) σ6)) σ x2 (σ.2.2.2 37 ((3 * x3) + x4).toNatClampNeg))
section
variable {p : Program} {l : Launch} {e : Env} {s : State} {m : MethodId} {args : Array Value} {below : List Frame} {meth : Method} {c : Code} {P : hw_G} {o : Nat} {ad : Nat → Nat}
set_option maxRecDepth 100000 in
set_option maxHeartbeats 4000000 in
theorem t_X12_keyOf_13 {post : Int32 → rf_S → Prop} (hC : rf_C P RX12 p s m meth c cX12_keyOf 8 (some .int)) : ∀ (n : Nat) (σ : rf_S) (x1 : Int32) (x2 : Int32) (x3 : Int32) (x4 : Int32) (H : Heap) (locs : List Loc) (ls : Array Slot), w_X12_keyOf_13 post n σ x1 x2 x3 x4 → rf_T P s (rf_A o ad) o ad σ H locs → lv_has ls 8 [(0, .ref o), (1, .int x1), (2, .int x2), (3, .int x3), (4, .int x4)] → W p l e rm_X12_keyOf s m args below meth c H locs 0 0 (MQ below (rf_Qi P o ad post) args s 0 0 (rf_A o ad)) (F0 m 13 ls []) := by
  obtain ⟨hx, hb, hml, hown, hK, -, -⟩ := id hC
  intro n
  induction n with
  | zero => intro σ x1 x2 x3 x4 H locs ls h; exact False.elim h
  | succ n ih =>
    intro σ x1 x2 x3 x4 H locs ls h hT hl
    refine lv_iload hx hb dX12_keyOf_13 (lv_at hl 4 rfl) ?_
    refine lv_aload_n hx hb dX12_keyOf_15 rfl (lv_at hl 0 rfl) ?_
    refine rf_get hx hb hK hT hown 43 (by decide) kfX12_223 (v := .ref (ad 43)) rfl dX12_keyOf_16 ?_
    refine lv_iload_n hx hb dX12_keyOf_19 rfl (lv_at hl 3 rfl) ?_
    obtain ⟨hi, h⟩ := h
    refine rf_iald hx hb hK hT 43 (by decide) rfl hi (v := σ.2.2.1 43 x3.toNatClampNeg) rfl dX12_keyOf_20 ?_
    refine lv_icmp_ge (tgt := 51) hx hb dX12_keyOf_21 (by decide) (fun hc => ?_) (fun hc => ?_)
    · have h := h.1 hc
      refine lv_iload_n hx hb dX12_keyOf_51 rfl (lv_at hl 2 rfl) ?_
      refine lv_iconst (v := 1) hx hb dX12_keyOf_52 (by decide) ?_
      refine lv_isub hx hb dX12_keyOf_53 ?_
      refine lv_istore (lv' := [(4, _), (0, _), (1, _), (2, _), (3, _)]) hx hb dX12_keyOf_54 hl (by decide) rfl (fun ls hl => ?_)
      obtain ⟨n9, h⟩ := h
      exact t_X12_keyOf_56 hC n9 σ x1 x2 x3 (x2 - 1) _ _ _ h hT (lv_sub hl [1, 2, 3, 4, 0] rfl)
    · have h := h.2 hc
      refine lv_aload_n hx hb dX12_keyOf_24 rfl (lv_at hl 0 rfl) ?_
      refine lv_iload_n hx hb dX12_keyOf_25 rfl (lv_at hl 2 rfl) ?_
      refine lv_aload_n hx hb dX12_keyOf_26 rfl (lv_at hl 0 rfl) ?_
      refine rf_get hx hb hK hT hown 37 (by decide) kfX12_205 (v := .ref (ad 37)) rfl dX12_keyOf_27 ?_
      refine lv_iconst (v := 3) hx hb dX12_keyOf_30 (by decide) ?_
      refine lv_iload_n hx hb dX12_keyOf_31 rfl (lv_at hl 3 rfl) ?_
      refine lv_imul hx hb dX12_keyOf_32 ?_
      refine lv_iload hx hb dX12_keyOf_33 (lv_at hl 4 rfl) ?_
      refine lv_iadd hx hb dX12_keyOf_35 ?_
      obtain ⟨hi, h⟩ := h
      refine rf_lald hx hb hK hT 37 (by decide) rfl hi (v := σ.2.2.2 37 ((3 * x3) + x4).toNatClampNeg) rfl dX12_keyOf_36 ?_
      refine rf_calli (rf_runV hx hb hml hown hK hT (c_X12_fieldOf h) rfl rfl klX12_438 ki_X12_fieldOf ks_X12_fieldOf kn_X12 kc_X12_fieldOf 2 ⟨rfl, by decide, by decide, by decide +kernel⟩ ⟨by decide, by decide⟩ rfl hl.1 rfl (Nat.le_of_ble_eq_true rfl) ⟨Nat.le_refl _, Nat.le_refl _⟩ dX12_keyOf_37) hT (fun r6 σ6 H locs h hT => ?_)
      refine lv_if_ge (tgt := 45) hx hb dX12_keyOf_40 (by decide) (fun hc => ?_) (fun hc => ?_)
      · have h := h.1 hc
        refine lv_iinc (v := x4 + 1) (lv' := [(4, _), (0, _), (1, _), (2, _), (3, _)]) hx hb dX12_keyOf_45 hl (k := 4) rfl rfl (by decide) rfl (fun ls hl => ?_)
        refine lv_goto (tgt := 13) hx hb dX12_keyOf_48 (by decide) ?_
        exact ih σ6 x1 x2 x3 (x4 + 1) _ _ _ h hT (lv_sub hl [1, 2, 3, 4, 0] rfl)
      · have h := h.2 hc
        refine lv_iconst (v := (-1)) hx hb dX12_keyOf_43 (by decide) ?_
        exact rf_iret hC hT h dX12_keyOf_44
end
def wp_X12_keyOf (post : Int32 → rf_S → Prop) (σ : rf_S) (p1 : Int32) (p2 : Int32) : Prop := ∃ n9, w_X12_keyOf_13 post n9 σ p1 p2 ((12 * (σ.1 32)) + p1) 0
set_option maxRecDepth 100000 in
set_option maxHeartbeats 4000000 in
theorem c_X12_keyOf {l : Launch} {P : hw_G} {o : Nat} {ad : Nat → Nat} {σ : rf_S} {p1 : Int32} {p2 : Int32} {post : Int32 → rf_S → Prop} (h : wp_X12_keyOf post σ p1 p2) : Met l yX12_keyOf [Cond.code yX12_keyOf cX12_keyOf 8 (some .int)] rm_X12_keyOf (rf_Pc P o ad σ [.ref o, .int p1, .int p2]) (rf_Qi P o ad post) 0 0 (rf_A o ad) := by
  refine rf_met (by decide) rfl (Nat.le_of_ble_eq_true rfl) ?_
  intro p e s m below meth c ls hC hT hl
  obtain ⟨hx, hb, hml, hown, hK, -, -⟩ := id hC
  have hl : lv_has ls 8 [(0, .ref o), (1, .int p1), (2, .int p2)] := hl
  refine lv_bipush (v := 12) hx hb dX12_keyOf_0 (by decide) ?_
  refine lv_aload_n hx hb dX12_keyOf_2 rfl (lv_at hl 0 rfl) ?_
  refine rf_get hx hb hK hT hown 32 (by decide) kfX12_368 (v := .int (σ.1 32)) rfl dX12_keyOf_3 ?_
  refine lv_imul hx hb dX12_keyOf_6 ?_
  refine lv_iload_n hx hb dX12_keyOf_7 rfl (lv_at hl 1 rfl) ?_
  refine lv_iadd hx hb dX12_keyOf_8 ?_
  refine lv_istore_n (lv' := [(3, _), (0, _), (1, _), (2, _)]) hx hb dX12_keyOf_9 rfl hl (by decide) rfl (fun ls hl => ?_)
  refine lv_iconst (v := 0) hx hb dX12_keyOf_10 (by decide) ?_
  refine lv_istore (lv' := [(4, _), (3, _), (0, _), (1, _), (2, _)]) hx hb dX12_keyOf_11 hl (by decide) rfl (fun ls hl => ?_)
  obtain ⟨n9, h⟩ := h
  exact t_X12_keyOf_13 hC n9 σ p1 p2 ((12 * (σ.1 32)) + p1) 0 _ _ _ h hT (lv_sub hl [2, 3, 4, 1, 0] rfl)
