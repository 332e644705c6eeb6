/-! X12_readNumber -/
abbrev rm_X12_readNumber : Room := { frames := 2, cells := 0, slots := 0, locals := 46 }
def w_X12_readNumber_145 (post : rf_S → Prop) (k86 : rf_S → Int32 → Int32 → Int32 → Int64 → Prop) (σ : rf_S) (x1 : Int32) (x2 : Int32) (x3 : Int32) (y0 : Int64) : Prop := k86 (rf_ui σ 4 ((σ.1 4) + 1)) x1 x2 (x3 + 1) y0
section
variable {p : Program} {l : Launch} {e : Env} {s : State} {m : MethodId} {args : Array Value} {below : List Frame} {meth : Method} {c : Code} {P : hw_G} {o : Nat} {ad : Nat → Nat}
set_option maxRecDepth 100000 in
set_option maxHeartbeats 4000000 in
theorem t_X12_readNumber_145 {post : rf_S → Prop} {k86 : rf_S → Int32 → Int32 → Int32 → Int64 → Prop} (hC : rf_C P RX12 p s m meth c cX12_readNumber 7 none) (hk86 : ∀ (σ : rf_S) (x1 : Int32) (x2 : Int32) (x3 : Int32) (x4 : Int64) (H : Heap) (locs : List Loc) (ls : Array Slot), k86 σ x1 x2 x3 x4 → rf_T P s (rf_A o ad) o ad σ H locs → lv_has ls 7 [(0, .ref o), (1, .int x1), (2, .int x2), (3, .int x3), (4, .long x4)] → W p l e rm_X12_readNumber s m args below meth c H locs 0 0 (MQ below (rf_Qv P o ad post) args s 0 0 (rf_A o ad)) (F0 m 86 ls [])) (σ : rf_S) (x1 : Int32) (x2 : Int32) (x3 : Int32) (y0 : Int64) (H : Heap) (locs : List Loc) (ls : Array Slot) (h : w_X12_readNumber_145 post k86 σ x1 x2 x3 y0) (hT : rf_T P s (rf_A o ad) o ad σ H locs) (hl : lv_has ls 7 [(0, .ref o), (1, .int x1), (2, .int x2), (3, .int x3)]) : W p l e rm_X12_readNumber s m args below meth c H locs 0 0 (MQ below (rf_Qv P o ad post) args s 0 0 (rf_A o ad)) (F0 m 145 ls [.long y0]) := by
  obtain ⟨hx, hb, hml, hown, hK, -, -⟩ := id hC
  refine lv_lstore (lv' := [(4, _), (0, _), (1, _), (2, _), (3, _)]) hx hb dX12_readNumber_145 hl (by decide) rfl (fun ls hl => ?_)
  refine lv_iinc (v := x3 + 1) (lv' := [(3, _), (4, _), (0, _), (1, _), (2, _)]) hx hb dX12_readNumber_147 hl (k := 4) rfl rfl (by decide) rfl (fun ls hl => ?_)
  refine lv_aload_n hx hb dX12_readNumber_150 rfl (lv_at hl 2 rfl) ?_
  refine lv_dup hx hb dX12_readNumber_151 rfl ?_
  refine rf_get hx hb hK hT hown 4 (by decide) kfX12_104 (v := .int (σ.1 4)) rfl dX12_readNumber_152 ?_
  refine lv_iconst (v := 1) hx hb dX12_readNumber_155 (by decide) ?_
  refine lv_iadd hx hb dX12_readNumber_156 ?_
  refine rf_puti hx hb hK hT hown 4 (by decide) kfX12_104 rfl rfl dX12_readNumber_157 (fun H locs hT => ?_)
  refine lv_goto (tgt := 86) hx hb dX12_readNumber_160 (by decide) ?_
  exact hk86 (rf_ui σ 4 ((σ.1 4) + 1)) x1 x2 (x3 + 1) y0 _ _ _ h hT (lv_sub hl [2, 3, 4, 0, 1] rfl)
end
def w_X12_readNumber_114 (post : rf_S → Prop) (k86 : rf_S → Int32 → Int32 → Int32 → Int64 → Prop) (σ : rf_S) (x1 : Int32) (x2 : Int32) (x3 : Int32) (x4 : Int64) : Prop := (10 ≤ x3 → w_X12_readNumber_145 post k86 σ x1 x2 x3 x4) ∧ (¬ 10 ≤ x3 → wp_X12_byteAt (fun r11 σ11 => w_X12_readNumber_145 post k86 σ11 x1 x2 x3 (((10 * x4) + r11.toInt64) - 48)) σ (σ.1 4))
section
variable {p : Program} {l : Launch} {e : Env} {s : State} {m : MethodId} {args : Array Value} {below : List Frame} {meth : Method} {c : Code} {P : hw_G} {o : Nat} {ad : Nat → Nat}
set_option maxRecDepth 100000 in
set_option maxHeartbeats 4000000 in
theorem t_X12_readNumber_114 {post : rf_S → Prop} {k86 : rf_S → Int32 → Int32 → Int32 → Int64 → Prop} (hC : rf_C P RX12 p s m meth c cX12_readNumber 7 none) (hk86 : ∀ (σ : rf_S) (x1 : Int32) (x2 : Int32) (x3 : Int32) (x4 : Int64) (H : Heap) (locs : List Loc) (ls : Array Slot), k86 σ x1 x2 x3 x4 → rf_T P s (rf_A o ad) o ad σ H locs → lv_has ls 7 [(0, .ref o), (1, .int x1), (2, .int x2), (3, .int x3), (4, .long x4)] → W p l e rm_X12_readNumber s m args below meth c H locs 0 0 (MQ below (rf_Qv P o ad post) args s 0 0 (rf_A o ad)) (F0 m 86 ls [])) (σ : rf_S) (x1 : Int32) (x2 : Int32) (x3 : Int32) (x4 : Int64) (H : Heap) (locs : List Loc) (ls : Array Slot) (h : w_X12_readNumber_114 post k86 σ x1 x2 x3 x4) (hT : rf_T P s (rf_A o ad) o ad σ H locs) (hl : lv_has ls 7 [(0, .ref o), (1, .int x1), (2, .int x2), (3, .int x3), (4, .long x4)]) : W p l e rm_X12_readNumber s m args below meth c H locs 0 0 (MQ below (rf_Qv P o ad post) args s 0 0 (rf_A o ad)) (F0 m 114 ls []) := by
  obtain ⟨hx, hb, hml, hown, hK, -, -⟩ := id hC
  refine lv_iload_n hx hb dX12_readNumber_114 rfl (lv_at hl 3 rfl) ?_
  refine lv_bipush (v := 10) hx hb dX12_readNumber_115 (by decide) ?_
  refine lv_icmp_ge (tgt := 143) hx hb dX12_readNumber_117 (by decide) (fun hc => ?_) (fun hc => ?_)
  · have h := h.1 hc
    refine lv_lload hx hb dX12_readNumber_143 (lv_at hl 4 rfl) ?_
    exact t_X12_readNumber_145 hC hk86 σ x1 x2 x3 x4 _ _ _ h hT (lv_sub hl [0, 1, 2, 3] rfl)
  · have h := h.2 hc
    refine lv_ldc2 (v := 10) hx hb hown (hK.word kkX12_343 rfl) dX12_readNumber_120 ?_
    refine lv_lload hx hb dX12_readNumber_123 (lv_at hl 4 rfl) ?_
    refine lv_lmul hx hb dX12_readNumber_125 ?_
    refine lv_aload_n hx hb dX12_readNumber_126 rfl (lv_at hl 0 rfl) ?_
    refine lv_aload_n hx hb dX12_readNumber_127 rfl (lv_at hl 0 rfl) ?_
    refine rf_get hx hb hK hT hown 4 (by decide) kfX12_104 (v := .int (σ.1 4)) rfl dX12_readNumber_128 ?_
    refine rf_calli (rf_runV hx hb hml hown hK hT (c_X12_byteAt h) rfl rfl klX12_107 ki_X12_byteAt ks_X12_byteAt kn_X12 kc_X12_byteAt 1 ⟨rfl, by decide, by decide, by decide +kernel⟩ ⟨by decide, by decide⟩ rfl hl.1 rfl (Nat.le_of_ble_eq_true rfl) ⟨Nat.le_refl _, Nat.le_refl _⟩ dX12_readNumber_131) hT (fun r11 σ11 H locs h hT => ?_)
    refine lv_i2l (v := r11.toInt64) hx hb dX12_readNumber_134 rfl ?_
    refine lv_ladd hx hb dX12_readNumber_135 ?_
    refine lv_ldc2 (v := 48) hx hb hown (hK.word kkX12_345 rfl) dX12_readNumber_136 ?_
    refine lv_lsub hx hb dX12_readNumber_139 ?_
    refine lv_goto (tgt := 145) hx hb dX12_readNumber_140 (by decide) ?_
    exact t_X12_readNumber_145 hC hk86 σ11 x1 x2 x3 (((10 * x4) + r11.toInt64) - 48) _ _ _ h hT (lv_sub hl [0, 1, 2, 3] rfl)
end
def w_X12_readNumber_221 (post : rf_S → Prop) (σ : rf_S) (x4 : Int64) (y1 : Int32) : Prop := post (rf_ui (rf_ui σ 54 y1) 56 x4.toInt32)
section
variable {p : Program} {l : Launch} {e : Env} {s : State} {m : MethodId} {args : Array Value} {below : List Frame} {meth : Method} {c : Code} {P : hw_G} {o : Nat} {ad : Nat → Nat}
set_option maxRecDepth 100000 in
set_option maxHeartbeats 4000000 in
theorem t_X12_readNumber_221 {post : rf_S → Prop} (hC : rf_C P RX12 p s m meth c cX12_readNumber 7 none) (σ : rf_S) (x4 : Int64) (y1 : Int32) (H : Heap) (locs : List Loc) (ls : Array Slot) (h : w_X12_readNumber_221 post σ x4 y1) (hT : rf_T P s (rf_A o ad) o ad σ H locs) (hl : lv_has ls 7 [(0, .ref o), (4, .long x4)]) : W p l e rm_X12_readNumber s m args below meth c H locs 0 0 (MQ below (rf_Qv P o ad post) args s 0 0 (rf_A o ad)) (F0 m 221 ls [.int y1, .ref o]) := by
  obtain ⟨hx, hb, hml, hown, hK, -, -⟩ := id hC
  refine rf_puti hx hb hK hT hown 54 (by decide) kfX12_316 rfl rfl dX12_readNumber_221 (fun H locs hT => ?_)
  refine lv_aload_n hx hb dX12_readNumber_224 rfl (lv_at hl 0 rfl) ?_
  refine lv_lload hx hb dX12_readNumber_225 (lv_at hl 1 rfl) ?_
  refine lv_l2i (v := x4.toInt32) hx hb dX12_readNumber_227 rfl ?_
  refine rf_puti hx hb hK hT hown 56 (by decide) kfX12_347 rfl rfl dX12_readNumber_228 (fun H locs hT => ?_)
  exact rf_vret hC hT h dX12_readNumber_231
end
def w_X12_readNumber_207 (post : rf_S → Prop) (σ : rf_S) (x4 : Int64) (y0 : Int32) : Prop := (y0 = 0 → w_X12_readNumber_221 post σ x4 6) ∧ (¬ y0 = 0 → w_X12_readNumber_221 post σ x4 2)
section
variable {p : Program} {l : Launch} {e : Env} {s : State} {m : MethodId} {args : Array Value} {below : List Frame} {meth : Method} {c : Code} {P : hw_G} {o : Nat} {ad : Nat → Nat}
set_option maxRecDepth 100000 in
set_option maxHeartbeats 4000000 in
theorem t_X12_readNumber_207 {post : rf_S → Prop} (hC : rf_C P RX12 p s m meth c cX12_readNumber 7 none) (σ : rf_S) (x4 : Int64) (y0 : Int32) (H : Heap) (locs : List Loc) (ls : Array Slot) (h : w_X12_readNumber_207 post σ x4 y0) (hT : rf_T P s (rf_A o ad) o ad σ H locs) (hl : lv_has ls 7 [(0, .ref o), (4, .long x4)]) : W p l e rm_X12_readNumber s m args below meth c H locs 0 0 (MQ below (rf_Qv P o ad post) args s 0 0 (rf_A o ad)) (F0 m 207 ls [.int y0]) := by
  obtain ⟨hx, hb, hml, hown, hK, -, -⟩ := id hC
  refine lv_istore (lv' := [(6, _), (0, _), (4, _)]) hx hb dX12_readNumber_207 hl (by decide) rfl (fun ls hl => ?_)
  refine lv_aload_n hx hb dX12_readNumber_209 rfl (lv_at hl 1 rfl) ?_
  refine lv_iload hx hb dX12_readNumber_210 (lv_at hl 0 rfl) ?_
  refine lv_if_eq (tgt := 219) hx hb dX12_readNumber_212 (by decide) (fun hc => ?_) (fun hc => ?_)
  · have h := h.1 hc
    refine lv_bipush (v := 6) hx hb dX12_readNumber_219 (by decide) ?_
    exact t_X12_readNumber_221 hC σ x4 6 _ _ _ h hT (lv_sub hl [1, 2] rfl)
  · have h := h.2 hc
    refine lv_iconst (v := 2) hx hb dX12_readNumber_215 (by decide) ?_
    refine lv_goto (tgt := 221) hx hb dX12_readNumber_216 (by decide) ?_
    exact t_X12_readNumber_221 hC σ x4 2 _ _ _ h hT (lv_sub hl [1, 2] rfl)
end
def w_X12_readNumber_206 (post : rf_S → Prop) (σ : rf_S) (x4 : Int64) : Prop := w_X12_readNumber_207 post σ x4 0
section
variable {p : Program} {l : Launch} {e : Env} {s : State} {m : MethodId} {args : Array Value} {below : List Frame} {meth : Method} {c : Code} {P : hw_G} {o : Nat} {ad : Nat → Nat}
set_option maxRecDepth 100000 in
set_option maxHeartbeats 4000000 in
theorem t_X12_readNumber_206 {post : rf_S → Prop} (hC : rf_C P RX12 p s m meth c cX12_readNumber 7 none) (σ : rf_S) (x4 : Int64) (H : Heap) (locs : List Loc) (ls : Array Slot) (h : w_X12_readNumber_206 post σ x4) (hT : rf_T P s (rf_A o ad) o ad σ H locs) (hl : lv_has ls 7 [(0, .ref o), (4, .long x4)]) : W p l e rm_X12_readNumber s m args below meth c H locs 0 0 (MQ below (rf_Qv P o ad post) args s 0 0 (rf_A o ad)) (F0 m 206 ls []) := by
  obtain ⟨hx, hb, hml, hown, hK, -, -⟩ := id hC
  refine lv_iconst (v := 0) hx hb dX12_readNumber_206 (by decide) ?_
  exact t_X12_readNumber_207 hC σ x4 0 _ _ _ h hT (lv_sub hl [0, 1] rfl)
end
def w_X12_readNumber_175 (post : rf_S → Prop) (σ : rf_S) (x2 : Int32) (x3 : Int32) (y0 : Int64) : Prop := (¬ x3 = x2 → w_X12_readNumber_206 post σ y0) ∧ (x3 = x2 → (x3 ≤ 0 → w_X12_readNumber_206 post σ y0) ∧ (¬ x3 ≤ 0 → (10 < x3 → w_X12_readNumber_206 post σ y0) ∧ (¬ 10 < x3 → (¬ (lg_cmp y0 y0.toInt32.toInt64) = 0 → w_X12_readNumber_206 post σ y0) ∧ ((lg_cmp y0 y0.toInt32.toInt64) = 0 → w_X12_readNumber_207 post σ y0 1))))
section
variable {p : Program} {l : Launch} {e : Env} {s : State} {m : MethodId} {args : Array Value} {below : List Frame} {meth : Method} {c : Code} {P : hw_G} {o : Nat} {ad : Nat → Nat}
set_option maxRecDepth 100000 in
set_option maxHeartbeats 4000000 in
theorem t_X12_readNumber_175 {post : rf_S → Prop} (hC : rf_C P RX12 p s m meth c cX12_readNumber 7 none) (σ : rf_S) (x2 : Int32) (x3 : Int32) (y0 : Int64) (H : Heap) (locs : List Loc) (ls : Array Slot) (h : w_X12_readNumber_175 post σ x2 x3 y0) (hT : rf_T P s (rf_A o ad) o ad σ H locs) (hl : lv_has ls 7 [(0, .ref o), (2, .int x2), (3, .int x3)]) : W p l e rm_X12_readNumber s m args below meth c H locs 0 0 (MQ below (rf_Qv P o ad post) args s 0 0 (rf_A o ad)) (F0 m 175 ls [.long y0]) := by
  obtain ⟨hx, hb, hml, hown, hK, -, -⟩ := id hC
  refine lv_lstore (lv' := [(4, _), (0, _), (2, _), (3, _)]) hx hb dX12_readNumber_175 hl (by decide) rfl (fun ls hl => ?_)
  refine lv_iload_n hx hb dX12_readNumber_177 rfl (lv_at hl 3 rfl) ?_
  refine lv_iload_n hx hb dX12_readNumber_178 rfl (lv_at hl 2 rfl) ?_
  refine lv_icmp_ne (tgt := 206) hx hb dX12_readNumber_179 (by decide) (fun hc => ?_) (fun hc => ?_)
  · have h := h.1 hc
    exact t_X12_readNumber_206 hC σ y0 _ _ _ h hT (lv_sub hl [1, 0] rfl)
  · have h := h.2 hc
    refine lv_iload_n hx hb dX12_readNumber_182 rfl (lv_at hl 3 rfl) ?_
    refine lv_if_le (tgt := 206) hx hb dX12_readNumber_183 (by decide) (fun hc => ?_) (fun hc => ?_)
    · have h := h.1 hc
      exact t_X12_readNumber_206 hC σ y0 _ _ _ h hT (lv_sub hl [1, 0] rfl)
    · have h := h.2 hc
      refine lv_iload_n hx hb dX12_readNumber_186 rfl (lv_at hl 3 rfl) ?_
      refine lv_bipush (v := 10) hx hb dX12_readNumber_187 (by decide) ?_
      refine lv_icmp_gt (tgt := 206) hx hb dX12_readNumber_189 (by decide) (fun hc => ?_) (fun hc => ?_)
      · have h := h.1 hc
        exact t_X12_readNumber_206 hC σ y0 _ _ _ h hT (lv_sub hl [1, 0] rfl)
      · have h := h.2 hc
        refine lv_lload hx hb dX12_readNumber_192 (lv_at hl 0 rfl) ?_
        refine lv_lload hx hb dX12_readNumber_194 (lv_at hl 0 rfl) ?_
        refine lv_l2i (v := y0.toInt32) hx hb dX12_readNumber_196 rfl ?_
        refine lv_i2l (v := y0.toInt32.toInt64) hx hb dX12_readNumber_197 rfl ?_
        refine W.lcmp hx hb dX12_readNumber_198 ?_
        refine lv_if_ne (tgt := 206) hx hb dX12_readNumber_199 (by decide) (fun hc => ?_) (fun hc => ?_)
        · have h := h.1 hc
          exact t_X12_readNumber_206 hC σ y0 _ _ _ h hT (lv_sub hl [1, 0] rfl)
        · have h := h.2 hc
          refine lv_iconst (v := 1) hx hb dX12_readNumber_202 (by decide) ?_
          refine lv_goto (tgt := 207) hx hb dX12_readNumber_203 (by decide) ?_
          exact t_X12_readNumber_207 hC σ y0 1 _ _ _ h hT (lv_sub hl [1, 0] rfl)
end
def w_X12_readNumber_86 (post : rf_S → Prop) : Nat → rf_S → Int32 → Int32 → Int32 → Int64 → Prop
  | 0, _, _, _, _, _ => False
  | n + 1, σ, x1, x2, x3, x4 => wp_X12_byteAt (fun r12 σ12 => wp_X12_isSmall (fun r13 σ13 => (¬ r13 = 0 → w_X12_readNumber_114 post (w_X12_readNumber_86 post n) σ13 x1 x2 x3 x4) ∧ (r13 = 0 → wp_X12_byteAt (fun r14 σ14 => wp_X12_isDigit (fun r15 σ15 => (r15 = 0 → (x1 = 0 → w_X12_readNumber_175 post σ15 x2 x3 x4) ∧ (¬ x1 = 0 → w_X12_readNumber_175 post σ15 x2 x3 (-x4))) ∧ (¬ r15 = 0 → w_X12_readNumber_114 post (w_X12_readNumber_86 post n) σ15 x1 x2 x3 x4)) σ14 r14) σ13 (σ13.1 4))) σ12 r12) σ (σ.1 4)
section
variable {p : Program} {l : Launch} {e : Env} {s : State} {m : MethodId} {args : Array Value} {below : List Frame} {meth : Method} {c : Code} {P : hw_G} {o : Nat} {ad : Nat → Nat}
set_option maxRecDepth 100000 in
set_option maxHeartbeats 4000000 in
theorem t_X12_readNumber_86 {post : rf_S → Prop} (hC : rf_C P RX12 p s m meth c cX12_readNumber 7 none) : ∀ (n : Nat) (σ : rf_S) (x1 : Int32) (x2 : Int32) (x3 : Int32) (x4 : Int64) (H : Heap) (locs : List Loc) (ls : Array Slot), w_X12_readNumber_86 post n σ x1 x2 x3 x4 → rf_T P s (rf_A o ad) o ad σ H locs → lv_has ls 7 [(0, .ref o), (1, .int x1), (2, .int x2), (3, .int x3), (4, .long x4)] → W p l e rm_X12_readNumber s m args below meth c H locs 0 0 (MQ below (rf_Qv P o ad post) args s 0 0 (rf_A o ad)) (F0 m 86 ls []) := by
  obtain ⟨hx, hb, hml, hown, hK, -, -⟩ := id hC
  intro n
  induction n with
  | zero => intro σ x1 x2 x3 x4 H locs ls h; exact False.elim h
  | succ n ih =>
    intro σ x1 x2 x3 x4 H locs ls h hT hl
    refine lv_aload_n hx hb dX12_readNumber_86 rfl (lv_at hl 0 rfl) ?_
    refine lv_aload_n hx hb dX12_readNumber_87 rfl (lv_at hl 0 rfl) ?_
    refine rf_get hx hb hK hT hown 4 (by decide) kfX12_104 (v := .int (σ.1 4)) rfl dX12_readNumber_88 ?_
    refine rf_calli (rf_runV hx hb hml hown hK hT (c_X12_byteAt h) rfl rfl klX12_107 ki_X12_byteAt ks_X12_byteAt kn_X12 kc_X12_byteAt 1 ⟨rfl, by decide, by decide, by decide +kernel⟩ ⟨by decide, by decide⟩ rfl hl.1 rfl (Nat.le_of_ble_eq_true rfl) ⟨Nat.le_refl _, Nat.le_refl _⟩ dX12_readNumber_91) hT (fun r12 σ12 H locs h hT => ?_)
    refine rf_calli (rf_runS hx hb hml hown hK hT (c_X12_isSmall h) rfl rfl klX12_319 ki_X12_isSmall kn_X12 kc_X12_isSmall 1 ⟨by decide, by decide, by decide +kernel⟩ ⟨by decide, by decide⟩ rfl hl.1 rfl (Nat.le_of_ble_eq_true rfl) ⟨Nat.le_refl _, Nat.le_refl _⟩ dX12_readNumber_94) hT (fun r13 σ13 H locs h hT => ?_)
    refine lv_if_ne (tgt := 114) hx hb dX12_readNumber_97 (by decide) (fun hc => ?_) (fun hc => ?_)
    · have h := h.1 hc
      exact t_X12_readNumber_114 hC ih σ13 x1 x2 x3 x4 _ _ _ h hT (lv_sub hl [0, 1, 2, 3, 4] rfl)
    · have h := h.2 hc
      refine lv_aload_n hx hb dX12_readNumber_100 rfl (lv_at hl 0 rfl) ?_
      refine lv_aload_n hx hb dX12_readNumber_101 rfl (lv_at hl 0 rfl) ?_
      refine rf_get hx hb hK hT hown 4 (by decide) kfX12_104 (v := .int (σ13.1 4)) rfl dX12_readNumber_102 ?_
      refine rf_calli (rf_runV hx hb hml hown hK hT (c_X12_byteAt h) rfl rfl klX12_107 ki_X12_byteAt ks_X12_byteAt kn_X12 kc_X12_byteAt 1 ⟨rfl, by decide, by decide, by decide +kernel⟩ ⟨by decide, by decide⟩ rfl hl.1 rfl (Nat.le_of_ble_eq_true rfl) ⟨Nat.le_refl _, Nat.le_refl _⟩ dX12_readNumber_105) hT (fun r14 σ14 H locs h hT => ?_)
      refine rf_calli (rf_runS hx hb hml hown hK hT (c_X12_isDigit h) rfl rfl klX12_325 ki_X12_isDigit kn_X12 kc_X12_isDigit 1 ⟨by decide, by decide, by decide +kernel⟩ ⟨by decide, by decide⟩ rfl hl.1 rfl (Nat.le_of_ble_eq_true rfl) ⟨Nat.le_refl _, Nat.le_refl _⟩ dX12_readNumber_108) hT (fun r15 σ15 H locs h hT => ?_)
      refine lv_if_eq (tgt := 163) hx hb dX12_readNumber_111 (by decide) (fun hc => ?_) (fun hc => ?_)
      · have h := h.1 hc
        refine lv_iload_n hx hb dX12_readNumber_163 rfl (lv_at hl 1 rfl) ?_
        refine lv_if_eq (tgt := 173) hx hb dX12_readNumber_164 (by decide) (fun hc => ?_) (fun hc => ?_)
        · have h := h.1 hc
          refine lv_lload hx hb dX12_readNumber_173 (lv_at hl 4 rfl) ?_
          exact t_X12_readNumber_175 hC σ15 x2 x3 x4 _ _ _ h hT (lv_sub hl [0, 2, 3] rfl)
        · have h := h.2 hc
          refine lv_lload hx hb dX12_readNumber_167 (lv_at hl 4 rfl) ?_
          refine lv_lneg hx hb dX12_readNumber_169 ?_
          refine lv_goto (tgt := 175) hx hb dX12_readNumber_170 (by decide) ?_
          exact t_X12_readNumber_175 hC σ15 x2 x3 (-x4) _ _ _ h hT (lv_sub hl [0, 2, 3] rfl)
      · have h := h.2 hc
        exact t_X12_readNumber_114 hC ih σ15 x1 x2 x3 x4 _ _ _ h hT (lv_sub hl [0, 1, 2, 3, 4] rfl)
end
def w_X12_readNumber_81 (post : rf_S → Prop) (σ : rf_S) (x1 : Int32) (x2 : Int32) : Prop := ∃ n9, w_X12_readNumber_86 post n9 σ x1 x2 0 0
section
variable {p : Program} {l : Launch} {e : Env} {s : State} {m : MethodId} {args : Array Value} {below : List Frame} {meth : Method} {c : Code} {P : hw_G} {o : Nat} {ad : Nat → Nat}
set_option maxRecDepth 100000 in
set_option maxHeartbeats 4000000 in
theorem t_X12_readNumber_81 {post : rf_S → Prop} (hC : rf_C P RX12 p s m meth c cX12_readNumber 7 none) (σ : rf_S) (x1 : Int32) (x2 : Int32) (H : Heap) (locs : List Loc) (ls : Array Slot) (h : w_X12_readNumber_81 post σ x1 x2) (hT : rf_T P s (rf_A o ad) o ad σ H locs) (hl : lv_has ls 7 [(0, .ref o), (1, .int x1), (2, .int x2)]) : W p l e rm_X12_readNumber s m args below meth c H locs 0 0 (MQ below (rf_Qv P o ad post) args s 0 0 (rf_A o ad)) (F0 m 81 ls []) := by
  obtain ⟨hx, hb, hml, hown, hK, -, -⟩ := id hC
  refine lv_iconst (v := 0) hx hb dX12_readNumber_81 (by decide) ?_
  refine lv_istore_n (lv' := [(3, _), (0, _), (1, _), (2, _)]) hx hb dX12_readNumber_82 rfl hl (by decide) rfl (fun ls hl => ?_)
  refine lv_lconst (v := 0) hx hb dX12_readNumber_83 (by decide) ?_
  refine lv_lstore (lv' := [(4, _), (3, _), (0, _), (1, _), (2, _)]) hx hb dX12_readNumber_84 hl (by decide) rfl (fun ls hl => ?_)
  obtain ⟨n9, h⟩ := h
  exact t_X12_readNumber_86 hC n9 σ x1 x2 0 0 _ _ _ h hT (lv_sub hl [2, 3, 4, 1, 0] rfl)
end
def w_X12_readNumber_35 (post : rf_S → Prop) : Nat → rf_S → Int32 → Int32 → Prop
  | 0, _, _, _ => False
  | n + 1, σ, x1, x2 => wp_X12_byteAt (fun r16 σ16 => wp_X12_isDigit (fun r17 σ17 => (r17 = 0 → (¬ x1 = 0 → w_X12_readNumber_81 post σ17 x1 x2) ∧ (x1 = 0 → wp_X12_byteAt (fun r18 σ18 => (¬ r18 = 46 → w_X12_readNumber_81 post σ18 x1 x2) ∧ (r18 = 46 → wp_X12_readAddress (fun σ19 => post σ19) σ18)) σ17 ((σ17.1 4) + x2))) ∧ (¬ r17 = 0 → w_X12_readNumber_35 post n σ17 x1 (x2 + 1))) σ16 r16) σ ((σ.1 4) + x2)
section
variable {p : Program} {l : Launch} {e : Env} {s : State} {m : MethodId} {args : Array Value} {below : List Frame} {meth : Method} {c : Code} {P : hw_G} {o : Nat} {ad : Nat → Nat}
set_option maxRecDepth 100000 in
set_option maxHeartbeats 4000000 in
theorem t_X12_readNumber_35 {post : rf_S → Prop} (hC : rf_C P RX12 p s m meth c cX12_readNumber 7 none) : ∀ (n : Nat) (σ : rf_S) (x1 : Int32) (x2 : Int32) (H : Heap) (locs : List Loc) (ls : Array Slot), w_X12_readNumber_35 post n σ x1 x2 → rf_T P s (rf_A o ad) o ad σ H locs → lv_has ls 7 [(0, .ref o), (1, .int x1), (2, .int x2)] → W p l e rm_X12_readNumber s m args below meth c H locs 0 0 (MQ below (rf_Qv P o ad post) args s 0 0 (rf_A o ad)) (F0 m 35 ls []) := by
  obtain ⟨hx, hb, hml, hown, hK, -, -⟩ := id hC
  intro n
  induction n with
  | zero => intro σ x1 x2 H locs ls h; exact False.elim h
  | succ n ih =>
    intro σ x1 x2 H locs ls h hT hl
    refine lv_aload_n hx hb dX12_readNumber_35 rfl (lv_at hl 0 rfl) ?_
    refine lv_aload_n hx hb dX12_readNumber_36 rfl (lv_at hl 0 rfl) ?_
    refine rf_get hx hb hK hT hown 4 (by decide) kfX12_104 (v := .int (σ.1 4)) rfl dX12_readNumber_37 ?_
    refine lv_iload_n hx hb dX12_readNumber_40 rfl (lv_at hl 2 rfl) ?_
    refine lv_iadd hx hb dX12_readNumber_41 ?_
    refine rf_calli (rf_runV hx hb hml hown hK hT (c_X12_byteAt h) rfl rfl klX12_107 ki_X12_byteAt ks_X12_byteAt kn_X12 kc_X12_byteAt 1 ⟨rfl, by decide, by decide, by decide +kernel⟩ ⟨by decide, by decide⟩ rfl hl.1 rfl (Nat.le_of_ble_eq_true rfl) ⟨Nat.le_refl _, Nat.le_refl _⟩ dX12_readNumber_42) hT (fun r16 σ16 H locs h hT => ?_)
    refine rf_calli (rf_runS hx hb hml hown hK hT (c_X12_isDigit h) rfl rfl klX12_325 ki_X12_isDigit kn_X12 kc_X12_isDigit 1 ⟨by decide, by decide, by decide +kernel⟩ ⟨by decide, by decide⟩ rfl hl.1 rfl (Nat.le_of_ble_eq_true rfl) ⟨Nat.le_refl _, Nat.le_refl _⟩ dX12_readNumber_45) hT (fun r17 σ17 H locs h hT => ?_)
    refine lv_if_eq (tgt := 57) hx hb dX12_readNumber_48 (by decide) (fun hc => ?_) (fun hc => ?_)
    · have h := h.1 hc
      refine lv_iload_n hx hb dX12_readNumber_57 rfl (lv_at hl 1 rfl) ?_
      refine lv_if_ne (tgt := 81) hx hb dX12_readNumber_58 (by decide) (fun hc => ?_) (fun hc => ?_)
      · have h := h.1 hc
        exact t_X12_readNumber_81 hC σ17 x1 x2 _ _ _ h hT (lv_sub hl [0, 1, 2] rfl)
      · have h := h.2 hc
        refine lv_aload_n hx hb dX12_readNumber_61 rfl (lv_at hl 0 rfl) ?_
        refine lv_aload_n hx hb dX12_readNumber_62 rfl (lv_at hl 0 rfl) ?_
        refine rf_get hx hb hK hT hown 4 (by decide) kfX12_104 (v := .int (σ17.1 4)) rfl dX12_readNumber_63 ?_
        refine lv_iload_n hx hb dX12_readNumber_66 rfl (lv_at hl 2 rfl) ?_
        refine lv_iadd hx hb dX12_readNumber_67 ?_
        refine rf_calli (rf_runV hx hb hml hown hK hT (c_X12_byteAt h) rfl rfl klX12_107 ki_X12_byteAt ks_X12_byteAt kn_X12 kc_X12_byteAt 1 ⟨rfl, by decide, by decide, by decide +kernel⟩ ⟨by decide, by decide⟩ rfl hl.1 rfl (Nat.le_of_ble_eq_true rfl) ⟨Nat.le_refl _, Nat.le_refl _⟩ dX12_readNumber_68) hT (fun r18 σ18 H locs h hT => ?_)
        refine lv_bipush (v := 46) hx hb dX12_readNumber_71 (by decide) ?_
        refine lv_icmp_ne (tgt := 81) hx hb dX12_readNumber_73 (by decide) (fun hc => ?_) (fun hc => ?_)
        · have h := h.1 hc
          exact t_X12_readNumber_81 hC σ18 x1 x2 _ _ _ h hT (lv_sub hl [0, 1, 2] rfl)
        · have h := h.2 hc
          refine lv_aload_n hx hb dX12_readNumber_76 rfl (lv_at hl 0 rfl) ?_
          refine rf_callv (rf_runV hx hb hml hown hK hT (c_X12_readAddress h) rfl rfl klX12_340 ki_X12_readAddress ks_X12_readAddress kn_X12 kc_X12_readAddress 0 ⟨rfl, by decide, by decide, by decide +kernel⟩ ⟨by decide, by decide⟩ rfl hl.1 rfl (Nat.le_of_ble_eq_true rfl) ⟨Nat.le_refl _, Nat.le_refl _⟩ dX12_readNumber_77) hT (fun σ19 H locs h hT => ?_)
          exact rf_vret hC hT h dX12_readNumber_80
    · have h := h.2 hc
      refine lv_iinc (v := x2 + 1) (lv' := [(2, _), (0, _), (1, _)]) hx hb dX12_readNumber_51 hl (k := 2) rfl rfl (by decide) rfl (fun ls hl => ?_)
      refine lv_goto (tgt := 35) hx hb dX12_readNumber_54 (by decide) ?_
      exact ih σ17 x1 (x2 + 1) _ _ _ h hT (lv_sub hl [1, 2, 0] rfl)
end
def w_X12_readNumber_33 (post : rf_S → Prop) (σ : rf_S) (x1 : Int32) : Prop := ∃ n9, w_X12_readNumber_35 post n9 σ x1 0
section
variable {p : Program} {l : Launch} {e : Env} {s : State} {m : MethodId} {args : Array Value} {below : List Frame} {meth : Method} {c : Code} {P : hw_G} {o : Nat} {ad : Nat → Nat}
set_option maxRecDepth 100000 in
set_option maxHeartbeats 4000000 in
theorem t_X12_readNumber_33 {post : rf_S → Prop} (hC : rf_C P RX12 p s m meth c cX12_readNumber 7 none) (σ : rf_S) (x1 : Int32) (H : Heap) (locs : List Loc) (ls : Array Slot) (h : w_X12_readNumber_33 post σ x1) (hT : rf_T P s (rf_A o ad) o ad σ H locs) (hl : lv_has ls 7 [(0, .ref o), (1, .int x1)]) : W p l e rm_X12_readNumber s m args below meth c H locs 0 0 (MQ below (rf_Qv P o ad post) args s 0 0 (rf_A o ad)) (F0 m 33 ls []) := by
  obtain ⟨hx, hb, hml, hown, hK, -, -⟩ := id hC
  refine lv_iconst (v := 0) hx hb dX12_readNumber_33 (by decide) ?_
  refine lv_istore_n (lv' := [(2, _), (0, _), (1, _)]) hx hb dX12_readNumber_34 rfl hl (by decide) rfl (fun ls hl => ?_)
  obtain ⟨n9, h⟩ := h
  exact t_X12_readNumber_35 hC n9 σ x1 0 _ _ _ h hT (lv_sub hl [1, 2, 0] rfl)
end
def w_X12_readNumber_18 (post : rf_S → Prop) (σ : rf_S) (y0 : Int32) : Prop := (y0 = 0 → w_X12_readNumber_33 post σ y0) ∧ (¬ y0 = 0 → w_X12_readNumber_33 post (rf_ui σ 4 ((σ.1 4) + 1)) y0)
section
variable {p : Program} {l : Launch} {e : Env} {s : State} {m : MethodId} {args : Array Value} {below : List Frame} {meth : Method} {c : Code} {P : hw_G} {o : Nat} {ad : Nat → Nat}
set_option maxRecDepth 100000 in
set_option maxHeartbeats 4000000 in
theorem t_X12_readNumber_18 {post : rf_S → Prop} (hC : rf_C P RX12 p s m meth c cX12_readNumber 7 none) (σ : rf_S) (y0 : Int32) (H : Heap) (locs : List Loc) (ls : Array Slot) (h : w_X12_readNumber_18 post σ y0) (hT : rf_T P s (rf_A o ad) o ad σ H locs) (hl : lv_has ls 7 [(0, .ref o)]) : W p l e rm_X12_readNumber s m args below meth c H locs 0 0 (MQ below (rf_Qv P o ad post) args s 0 0 (rf_A o ad)) (F0 m 18 ls [.int y0]) := by
  obtain ⟨hx, hb, hml, hown, hK, -, -⟩ := id hC
  refine lv_istore_n (lv' := [(1, _), (0, _)]) hx hb dX12_readNumber_18 rfl hl (by decide) rfl (fun ls hl => ?_)
  refine lv_iload_n hx hb dX12_readNumber_19 rfl (lv_at hl 0 rfl) ?_
  refine lv_if_eq (tgt := 33) hx hb dX12_readNumber_20 (by decide) (fun hc => ?_) (fun hc => ?_)
  · have h := h.1 hc
    exact t_X12_readNumber_33 hC σ y0 _ _ _ h hT (lv_sub hl [1, 0] rfl)
  · have h := h.2 hc
    refine lv_aload_n hx hb dX12_readNumber_23 rfl (lv_at hl 1 rfl) ?_
    refine lv_dup hx hb dX12_readNumber_24 rfl ?_
    refine rf_get hx hb hK hT hown 4 (by decide) kfX12_104 (v := .int (σ.1 4)) rfl dX12_readNumber_25 ?_
    refine lv_iconst (v := 1) hx hb dX12_readNumber_28 (by decide) ?_
    refine lv_iadd hx hb dX12_readNumber_29 ?_
    refine rf_puti hx hb hK hT hown 4 (by decide) kfX12_104 rfl rfl dX12_readNumber_30 (fun H locs hT => ?_)
    exact t_X12_readNumber_33 hC (rf_ui σ 4 ((σ.1 4) + 1)) y0 _ _ _ h hT (lv_sub hl [1, 0] rfl)
end
def wp_X12_readNumber (post : rf_S → Prop) (σ : rf_S)  : Prop := wp_X12_byteAt (fun r20 σ20 => (¬ r20 = 45 → w_X12_readNumber_18 post σ20 0) ∧ (r20 = 45 → w_X12_readNumber_18 post σ20 1)) σ (σ.1 4)
set_option maxRecDepth 100000 in
set_option maxHeartbeats 4000000 in
theorem c_X12_readNumber {l : Launch} {P : hw_G} {o : Nat} {ad : Nat → Nat} {σ : rf_S}  {post : rf_S → Prop} (h : wp_X12_readNumber post σ ) : Met l yX12_readNumber [Cond.code yX12_readNumber cX12_readNumber 7 none] rm_X12_readNumber (rf_Pc P o ad σ [.ref o]) (rf_Qv P o ad post) 0 0 (rf_A o ad) := by
  refine rf_met (by decide) rfl (Nat.le_of_ble_eq_true rfl) ?_
  intro p e s m below meth c ls hC hT hl
  obtain ⟨hx, hb, hml, hown, hK, -, -⟩ := id hC
  have hl : lv_has ls 7 [(0, .ref o)] := hl
  refine lv_aload_n hx hb dX12_readNumber_0 rfl (lv_at hl 0 rfl) ?_
  refine lv_aload_n hx hb dX12_readNumber_1 rfl (lv_at hl 0 rfl) ?_
  refine rf_get hx hb hK hT hown 4 (by decide) kfX12_104 (v := .int (σ.1 4)) rfl dX12_readNumber_2 ?_
  refine rf_calli (rf_runV hx hb hml hown hK hT (c_X12_byteAt h) rfl rfl klX12_107 ki_X12_byteAt ks_X12_byteAt kn_X12 kc_X12_byteAt 1 ⟨rfl, by decide, by decide, by decide +kernel⟩ ⟨by decide, by decide⟩ rfl hl.1 rfl (Nat.le_of_ble_eq_true rfl) ⟨Nat.le_refl _, Nat.le_refl _⟩ dX12_readNumber_5) hT (fun r20 σ20 H locs h hT => ?_)
  refine lv_bipush (v := 45) hx hb dX12_readNumber_8 (by decide) ?_
  refine lv_icmp_ne (tgt := 17) hx hb dX12_readNumber_10 (by decide) (fun hc => ?_) (fun hc => ?_)
  · have h := h.1 hc
    refine lv_iconst (v := 0) hx hb dX12_readNumber_17 (by decide) ?_
    exact t_X12_readNumber_18 hC σ20 0 _ _ _ h hT (lv_sub hl [0] rfl)
  · have h := h.2 hc
    refine lv_iconst (v := 1) hx hb dX12_readNumber_13 (by decide) ?_
    refine lv_goto (tgt := 18) hx hb dX12_readNumber_14 (by decide) ?_
    exact t_X12_readNumber_18 hC σ20 1 _ _ _ h hT (lv_sub hl [0] rfl)
/-! X12_readText -/
abbrev rm_X12_readText : Room := { frames := 1, cells := 0, slots := 0, locals := 21 }
def w_X12_readText_112 (post : rf_S → Prop) (σ : rf_S) (y1 : Int32) : Prop := post (rf_ui (rf_ui σ 54 y1) 4 ((σ.1 4) + 1))
section
variable {p : Program} {l : Launch} {e : Env} {s : State} {m : MethodId} {args : Array Value} {below : List Frame} {meth : Method} {c : Code} {P : hw_G} {o : Nat} {ad : Nat → Nat}
set_option maxRecDepth 100000 in
set_option maxHeartbeats 4000000 in
theorem t_X12_readText_112 {post : rf_S → Prop} (hC : rf_C P RX12 p s m meth c cX12_readText 1 none) (σ : rf_S) (y1 : Int32) (H : Heap) (locs : List Loc) (ls : Array Slot) (h : w_X12_readText_112 post σ y1) (hT : rf_T P s (rf_A o ad) o ad σ H locs) (hl : lv_has ls 1 [(0, .ref o)]) : W p l e rm_X12_readText s m args below meth c H locs 0 0 (MQ below (rf_Qv P o ad post) args s 0 0 (rf_A o ad)) (F0 m 112 ls [.int y1, .ref o]) := by
  obtain ⟨hx, hb, hml, hown, hK, -, -⟩ := id hC
  refine rf_puti hx hb hK hT hown 54 (by decide) kfX12_316 rfl rfl dX12_readText_112 (fun H locs hT => ?_)
  refine lv_aload_n hx hb dX12_readText_115 rfl (lv_at hl 0 rfl) ?_
  refine lv_dup hx hb dX12_readText_116 rfl ?_
  refine rf_get hx hb hK hT hown 4 (by decide) kfX12_104 (v := .int (σ.1 4)) rfl dX12_readText_117 ?_
  refine lv_iconst (v := 1) hx hb dX12_readText_120 (by decide) ?_
  refine lv_iadd hx hb dX12_readText_121 ?_
  refine rf_puti hx hb hK hT hown 4 (by decide) kfX12_104 rfl rfl dX12_readText_122 (fun H locs hT => ?_)
  exact rf_vret hC hT h dX12_readText_125
end
def w_X12_readText_110 (post : rf_S → Prop) (σ : rf_S)  : Prop := w_X12_readText_112 post σ 6
section
variable {p : Program} {l : Launch} {e : Env} {s : State} {m : MethodId} {args : Array Value} {below : List Frame} {meth : Method} {c : Code} {P : hw_G} {o : Nat} {ad : Nat → Nat}
set_option maxRecDepth 100000 in
set_option maxHeartbeats 4000000 in
theorem t_X12_readText_110 {post : rf_S → Prop} (hC : rf_C P RX12 p s m meth c cX12_readText 1 none) (σ : rf_S)  (H : Heap) (locs : List Loc) (ls : Array Slot) (h : w_X12_readText_110 post σ ) (hT : rf_T P s (rf_A o ad) o ad σ H locs) (hl : lv_has ls 1 [(0, .ref o)]) : W p l e rm_X12_readText s m args below meth c H locs 0 0 (MQ below (rf_Qv P o ad post) args s 0 0 (rf_A o ad)) (F0 m 110 ls [.ref o]) := by
  obtain ⟨hx, hb, hml, hown, hK, -, -⟩ := id hC
  refine lv_bipush (v := 6) hx hb dX12_readText_110 (by decide) ?_
  exact t_X12_readText_112 hC σ 6 _ _ _ h hT (lv_sub hl [0] rfl)
end
def w_X12_readText_70 (post : rf_S → Prop) (σ : rf_S)  : Prop := wp_X12_byteAt (fun r5 σ5 => (¬ r5 = 34 → w_X12_readText_110 post σ5) ∧ (r5 = 34 → (24 < (σ5.1 56) → w_X12_readText_110 post σ5) ∧ (¬ 24 < (σ5.1 56) → w_X12_readText_112 post σ5 3))) (rf_ui σ 56 ((σ.1 4) - (σ.1 57))) (σ.1 4)
section
variable {p : Program} {l : Launch} {e : Env} {s : State} {m : MethodId} {args : Array Value} {below : List Frame} {meth : Method} {c : Code} {P : hw_G} {o : Nat} {ad : Nat → Nat}
set_option maxRecDepth 100000 in
set_option maxHeartbeats 4000000 in
theorem t_X12_readText_70 {post : rf_S → Prop} (hC : rf_C P RX12 p s m meth c cX12_readText 1 none) (σ : rf_S)  (H : Heap) (locs : List Loc) (ls : Array Slot) (h : w_X12_readText_70 post σ ) (hT : rf_T P s (rf_A o ad) o ad σ H locs) (hl : lv_has ls 1 [(0, .ref o)]) : W p l e rm_X12_readText s m args below meth c H locs 0 0 (MQ below (rf_Qv P o ad post) args s 0 0 (rf_A o ad)) (F0 m 70 ls []) := by
  obtain ⟨hx, hb, hml, hown, hK, -, -⟩ := id hC
  refine lv_aload_n hx hb dX12_readText_70 rfl (lv_at hl 0 rfl) ?_
  refine lv_aload_n hx hb dX12_readText_71 rfl (lv_at hl 0 rfl) ?_
  refine rf_get hx hb hK hT hown 4 (by decide) kfX12_104 (v := .int (σ.1 4)) rfl dX12_readText_72 ?_
  refine lv_aload_n hx hb dX12_readText_75 rfl (lv_at hl 0 rfl) ?_
  refine rf_get hx hb hK hT hown 57 (by decide) kfX12_350 (v := .int (σ.1 57)) rfl dX12_readText_76 ?_
  refine lv_isub hx hb dX12_readText_79 ?_
  refine rf_puti hx hb hK hT hown 56 (by decide) kfX12_347 rfl rfl dX12_readText_80 (fun H locs hT => ?_)
  refine lv_aload_n hx hb dX12_readText_83 rfl (lv_at hl 0 rfl) ?_
  refine lv_aload_n hx hb dX12_readText_84 rfl (lv_at hl 0 rfl) ?_
  refine lv_aload_n hx hb dX12_readText_85 rfl (lv_at hl 0 rfl) ?_
  refine rf_get hx hb hK hT hown 4 (by decide) kfX12_104 (v := .int (σ.1 4)) rfl dX12_readText_86 ?_
  refine rf_calli (rf_runV hx hb hml hown hK hT (c_X12_byteAt h) rfl rfl klX12_107 ki_X12_byteAt ks_X12_byteAt kn_X12 kc_X12_byteAt 1 ⟨rfl, by decide, by decide, by decide +kernel⟩ ⟨by decide, by decide⟩ rfl hl.1 rfl (Nat.le_of_ble_eq_true rfl) ⟨Nat.le_refl _, Nat.le_refl _⟩ dX12_readText_89) hT (fun r5 σ5 H locs h hT => ?_)
  refine lv_bipush (v := 34) hx hb dX12_readText_92 (by decide) ?_
  refine lv_icmp_ne (tgt := 110) hx hb dX12_readText_94 (by decide) (fun hc => ?_) (fun hc => ?_)
  · have h := h.1 hc
    exact t_X12_readText_110 hC σ5 _ _ _ h hT (lv_sub hl [0] rfl)
  · have h := h.2 hc
    refine lv_aload_n hx hb dX12_readText_97 rfl (lv_at hl 0 rfl) ?_
    refine rf_get hx hb hK hT hown 56 (by decide) kfX12_347 (v := .int (σ5.1 56)) rfl dX12_readText_98 ?_
    refine lv_bipush (v := 24) hx hb dX12_readText_101 (by decide) ?_
    refine lv_icmp_gt (tgt := 110) hx hb dX12_readText_103 (by decide) (fun hc => ?_) (fun hc => ?_)
    · have h := h.1 hc
      exact t_X12_readText_110 hC σ5 _ _ _ h hT (lv_sub hl [0] rfl)
    · have h := h.2 hc
      refine lv_iconst (v := 3) hx hb dX12_readText_106 (by decide) ?_
      refine lv_goto (tgt := 112) hx hb dX12_readText_107 (by decide) ?_
      exact t_X12_readText_112 hC σ5 3 _ _ _ h hT (lv_sub hl [0] rfl)
end
def w_X12_readText_18 (post : rf_S → Prop) : Nat → rf_S → Prop
  | 0, _ => False
  | n + 1, σ => wp_X12_byteAt (fun r6 σ6 => (r6 < 32 → w_X12_readText_70 post σ6) ∧ (¬ r6 < 32 → wp_X12_byteAt (fun r7 σ7 => (127 ≤ r7 → w_X12_readText_70 post σ7) ∧ (¬ 127 ≤ r7 → wp_X12_byteAt (fun r8 σ8 => (r8 = 34 → w_X12_readText_70 post σ8) ∧ (¬ r8 = 34 → w_X12_readText_18 post n (rf_ui σ8 4 ((σ8.1 4) + 1)))) σ7 (σ7.1 4))) σ6 (σ6.1 4))) σ (σ.1 4)
section
variable {p : Program} {l : Launch} {e : Env} {s : State} {m : MethodId} {args : Array Value} {below : List Frame} {meth : Method} {c : Code} {P : hw_G} {o : Nat} {ad : Nat → Nat}
set_option maxRecDepth 100000 in
set_option maxHeartbeats 4000000 in
theorem t_X12_readText_18 {post : rf_S → Prop} (hC : rf_C P RX12 p s m meth c cX12_readText 1 none) : ∀ (n : Nat) (σ : rf_S)  (H : Heap) (locs : List Loc) (ls : Array Slot), w_X12_readText_18 post n σ  → rf_T P s (rf_A o ad) o ad σ H locs → lv_has ls 1 [(0, .ref o)] → W p l e rm_X12_readText s m args below meth c H locs 0 0 (MQ below (rf_Qv P o ad post) args s 0 0 (rf_A o ad)) (F0 m 18 ls []) := by
  obtain ⟨hx, hb, hml, hown, hK, -, -⟩ := id hC
  intro n
  induction n with
  | zero => intro σ  H locs ls h; exact False.elim h
  | succ n ih =>
    intro σ  H locs ls h hT hl
    refine lv_aload_n hx hb dX12_readText_18 rfl (lv_at hl 0 rfl) ?_
    refine lv_aload_n hx hb dX12_readText_19 rfl (lv_at hl 0 rfl) ?_
    refine rf_get hx hb hK hT hown 4 (by decide) kfX12_104 (v := .int (σ.1 4)) rfl dX12_readText_20 ?_
    refine rf_calli (rf_runV hx hb hml hown hK hT (c_X12_byteAt h) rfl rfl klX12_107 ki_X12_byteAt ks_X12_byteAt kn_X12 kc_X12_byteAt 1 ⟨rfl, by decide, by decide, by decide +kernel⟩ ⟨by decide, by decide⟩ rfl hl.1 rfl (Nat.le_of_ble_eq_true rfl) ⟨Nat.le_refl _, Nat.le_refl _⟩ dX12_readText_23) hT (fun r6 σ6 H locs h hT => ?_)
    refine lv_bipush (v := 32) hx hb dX12_readText_26 (by decide) ?_
    refine lv_icmp_lt (tgt := 70) hx hb dX12_readText_28 (by decide) (fun hc => ?_) (fun hc => ?_)
    · have h := h.1 hc
      exact t_X12_readText_70 hC σ6 _ _ _ h hT (lv_sub hl [0] rfl)
    · have h := h.2 hc
      refine lv_aload_n hx hb dX12_readText_31 rfl (lv_at hl 0 rfl) ?_
      refine lv_aload_n hx hb dX12_readText_32 rfl (lv_at hl 0 rfl) ?_
      refine rf_get hx hb hK hT hown 4 (by decide) kfX12_104 (v := .int (σ6.1 4)) rfl dX12_readText_33 ?_
      refine rf_calli (rf_runV hx hb hml hown hK hT (c_X12_byteAt h) rfl rfl klX12_107 ki_X12_byteAt ks_X12_byteAt kn_X12 kc_X12_byteAt 1 ⟨rfl, by decide, by decide, by decide +kernel⟩ ⟨by decide, by decide⟩ rfl hl.1 rfl (Nat.le_of_ble_eq_true rfl) ⟨Nat.le_refl _, Nat.le_refl _⟩ dX12_readText_36) hT (fun r7 σ7 H locs h hT => ?_)
      refine lv_bipush (v := 127) hx hb dX12_readText_39 (by decide) ?_
      refine lv_icmp_ge (tgt := 70) hx hb dX12_readText_41 (by decide) (fun hc => ?_) (fun hc => ?_)
      · have h := h.1 hc
        exact t_X12_readText_70 hC σ7 _ _ _ h hT (lv_sub hl [0] rfl)
      · have h := h.2 hc
        refine lv_aload_n hx hb dX12_readText_44 rfl (lv_at hl 0 rfl) ?_
        refine lv_aload_n hx hb dX12_readText_45 rfl (lv_at hl 0 rfl) ?_
        refine rf_get hx hb hK hT hown 4 (by decide) kfX12_104 (v := .int (σ7.1 4)) rfl dX12_readText_46 ?_
        refine rf_calli (rf_runV hx hb hml hown hK hT (c_X12_byteAt h) rfl rfl klX12_107 ki_X12_byteAt ks_X12_byteAt kn_X12 kc_X12_byteAt 1 ⟨rfl, by decide, by decide, by decide +kernel⟩ ⟨by decide, by decide⟩ rfl hl.1 rfl (Nat.le_of_ble_eq_true rfl) ⟨Nat.le_refl _, Nat.le_refl _⟩ dX12_readText_49) hT (fun r8 σ8 H locs h hT => ?_)
        refine lv_bipush (v := 34) hx hb dX12_readText_52 (by decide) ?_
        refine lv_icmp_eq (tgt := 70) hx hb dX12_readText_54 (by decide) (fun hc => ?_) (fun hc => ?_)
        · have h := h.1 hc
          exact t_X12_readText_70 hC σ8 _ _ _ h hT (lv_sub hl [0] rfl)
        · have h := h.2 hc
          refine lv_aload_n hx hb dX12_readText_57 rfl (lv_at hl 0 rfl) ?_
          refine lv_dup hx hb dX12_readText_58 rfl ?_
          refine rf_get hx hb hK hT hown 4 (by decide) kfX12_104 (v := .int (σ8.1 4)) rfl dX12_readText_59 ?_
          refine lv_iconst (v := 1) hx hb dX12_readText_62 (by decide) ?_
          refine lv_iadd hx hb dX12_readText_63 ?_
          refine rf_puti hx hb hK hT hown 4 (by decide) kfX12_104 rfl rfl dX12_readText_64 (fun H locs hT => ?_)
          refine lv_goto (tgt := 18) hx hb dX12_readText_67 (by decide) ?_
          exact ih (rf_ui σ8 4 ((σ8.1 4) + 1)) _ _ _ h hT (lv_sub hl [0] rfl)
end
def wp_X12_readText (post : rf_S → Prop) (σ : rf_S)  : Prop := ∃ n9, w_X12_readText_18 post n9 (rf_ui (rf_ui σ 4 ((σ.1 4) + 1)) 57 ((σ.1 4) + 1))
set_option maxRecDepth 100000 in
set_option maxHeartbeats 4000000 in
theorem c_X12_readText {l : Launch} {P : hw_G} {o : Nat} {ad : Nat → Nat} {σ : rf_S}  {post : rf_S → Prop} (h : wp_X12_readText post σ ) : Met l yX12_readText [Cond.code yX12_readText cX12_readText 1 none] rm_X12_readText (rf_Pc P o ad σ [.ref o]) (rf_Qv P o ad post) 0 0 (rf_A o ad) := by
  refine rf_met (by decide) rfl (Nat.le_of_ble_eq_true rfl) ?_
  intro p e s m below meth c ls hC hT hl
  obtain ⟨hx, hb, hml, hown, hK, -, -⟩ := id hC
  have hl : lv_has ls 1 [(0, .ref o)] := hl
  refine lv_aload_n hx hb dX12_readText_0 rfl (lv_at hl 0 rfl) ?_
  refine lv_dup hx hb dX12_readText_1 rfl ?_
  refine rf_get hx hb hK hT hown 4 (by decide) kfX12_104 (v := .int (σ.1 4)) rfl dX12_readText_2 ?_
  refine lv_iconst (v := 1) hx hb dX12_readText_5 (by decide) ?_
  refine lv_iadd hx hb dX12_readText_6 ?_
  refine rf_puti hx hb hK hT hown 4 (by decide) kfX12_104 rfl rfl dX12_readText_7 (fun H locs hT => ?_)
  refine lv_aload_n hx hb dX12_readText_10 rfl (lv_at hl 0 rfl) ?_
  refine lv_aload_n hx hb dX12_readText_11 rfl (lv_at hl 0 rfl) ?_
  refine rf_get hx hb hK hT hown 4 (by decide) kfX12_104 (v := .int ((σ.1 4) + 1)) rfl dX12_readText_12 ?_
  refine rf_puti hx hb hK hT hown 57 (by decide) kfX12_350 rfl rfl dX12_readText_15 (fun H locs hT => ?_)
  obtain ⟨n9, h⟩ := h
  exact t_X12_readText_18 hC n9 (rf_ui (rf_ui σ 4 ((σ.1 4) + 1)) 57 ((σ.1 4) + 1)) _ _ _ h hT (lv_sub hl [0] rfl)
/-! X12_readSign -/
abbrev rm_X12_readSign : Room := { frames := 1, cells := 0, slots := 0, locals := 21 }
def w_X12_readSign_142 (post : rf_S → Prop) (σ : rf_S) (y1 : Int32) (y2 : Int32) : Prop := post (rf_ui σ 4 (y1 + y2))
section
variable {p : Program} {l : Launch} {e : Env} {s : State} {m : MethodId} {args : Array Value} {below : List Frame} {meth : Method} {c : Code} {P : hw_G} {o : Nat} {ad : Nat → Nat}
set_option maxRecDepth 100000 in
set_option maxHeartbeats 4000000 in
theorem t_X12_readSign_142 {post : rf_S → Prop} (hC : rf_C P RX12 p s m meth c cX12_readSign 4 none) (σ : rf_S) (y1 : Int32) (y2 : Int32) (H : Heap) (locs : List Loc) (ls : Array Slot) (h : w_X12_readSign_142 post σ y1 y2) (hT : rf_T P s (rf_A o ad) o ad σ H locs) (hl : lv_has ls 4 []) : W p l e rm_X12_readSign s m args below meth c H locs 0 0 (MQ below (rf_Qv P o ad post) args s 0 0 (rf_A o ad)) (F0 m 142 ls [.int y2, .int y1, .ref o]) := by
  obtain ⟨hx, hb, hml, hown, hK, -, -⟩ := id hC
  refine lv_iadd hx hb dX12_readSign_142 ?_
  refine rf_puti hx hb hK hT hown 4 (by decide) kfX12_104 rfl rfl dX12_readSign_143 (fun H locs hT => ?_)
  exact rf_vret hC hT h dX12_readSign_146
end
def w_X12_readSign_125 (post : rf_S → Prop) (σ : rf_S) (x2 : Int32) (y1 : Int32) : Prop := (x2 = 0 → w_X12_readSign_142 post (rf_ui σ 56 y1) (σ.1 4) 1) ∧ (¬ x2 = 0 → w_X12_readSign_142 post (rf_ui σ 56 y1) (σ.1 4) 2)
section
variable {p : Program} {l : Launch} {e : Env} {s : State} {m : MethodId} {args : Array Value} {below : List Frame} {meth : Method} {c : Code} {P : hw_G} {o : Nat} {ad : Nat → Nat}
set_option maxRecDepth 100000 in
set_option maxHeartbeats 4000000 in
theorem t_X12_readSign_125 {post : rf_S → Prop} (hC : rf_C P RX12 p s m meth c cX12_readSign 4 none) (σ : rf_S) (x2 : Int32) (y1 : Int32) (H : Heap) (locs : List Loc) (ls : Array Slot) (h : w_X12_readSign_125 post σ x2 y1) (hT : rf_T P s (rf_A o ad) o ad σ H locs) (hl : lv_has ls 4 [(0, .ref o), (2, .int x2)]) : W p l e rm_X12_readSign s m args below meth c H locs 0 0 (MQ below (rf_Qv P o ad post) args s 0 0 (rf_A o ad)) (F0 m 125 ls [.int y1, .ref o]) := by
  obtain ⟨hx, hb, hml, hown, hK, -, -⟩ := id hC
  refine rf_puti hx hb hK hT hown 56 (by decide) kfX12_347 rfl rfl dX12_readSign_125 (fun H locs hT => ?_)
  refine lv_aload_n hx hb dX12_readSign_128 rfl (lv_at hl 0 rfl) ?_
  refine lv_dup hx hb dX12_readSign_129 rfl ?_
  refine rf_get hx hb hK hT hown 4 (by decide) kfX12_104 (v := .int (σ.1 4)) rfl dX12_readSign_130 ?_
  refine lv_iload_n hx hb dX12_readSign_133 rfl (lv_at hl 1 rfl) ?_
  refine lv_if_eq (tgt := 141) hx hb dX12_readSign_134 (by decide) (fun hc => ?_) (fun hc => ?_)
  · have h := h.1 hc
    refine lv_iconst (v := 1) hx hb dX12_readSign_141 (by decide) ?_
    exact t_X12_readSign_142 hC (rf_ui σ 56 y1) (σ.1 4) 1 _ _ _ h hT (lv_sub hl [] rfl)
  · have h := h.2 hc
    refine lv_iconst (v := 2) hx hb dX12_readSign_137 (by decide) ?_
    refine lv_goto (tgt := 142) hx hb dX12_readSign_138 (by decide) ?_
    exact t_X12_readSign_142 hC (rf_ui σ 56 y1) (σ.1 4) 2 _ _ _ h hT (lv_sub hl [] rfl)
end
def w_X12_readSign_108 (post : rf_S → Prop) (σ : rf_S) (x1 : Int32) (x2 : Int32) (y1 : Int32) : Prop := (x2 = 0 → w_X12_readSign_125 post (rf_ui σ 54 y1) x2 x1) ∧ (¬ x2 = 0 → w_X12_readSign_125 post (rf_ui σ 54 y1) x2 (256 + x1))
section
variable {p : Program} {l : Launch} {e : Env} {s : State} {m : MethodId} {args : Array Value} {below : List Frame} {meth : Method} {c : Code} {P : hw_G} {o : Nat} {ad : Nat → Nat}
set_option maxRecDepth 100000 in
set_option maxHeartbeats 4000000 in
theorem t_X12_readSign_108 {post : rf_S → Prop} (hC : rf_C P RX12 p s m meth c cX12_readSign 4 none) (σ : rf_S) (x1 : Int32) (x2 : Int32) (y1 : Int32) (H : Heap) (locs : List Loc) (ls : Array Slot) (h : w_X12_readSign_108 post σ x1 x2 y1) (hT : rf_T P s (rf_A o ad) o ad σ H locs) (hl : lv_has ls 4 [(0, .ref o), (1, .int x1), (2, .int x2)]) : W p l e rm_X12_readSign s m args below meth c H locs 0 0 (MQ below (rf_Qv P o ad post) args s 0 0 (rf_A o ad)) (F0 m 108 ls [.int y1, .ref o]) := by
  obtain ⟨hx, hb, hml, hown, hK, -, -⟩ := id hC
  refine rf_puti hx hb hK hT hown 54 (by decide) kfX12_316 rfl rfl dX12_readSign_108 (fun H locs hT => ?_)
  refine lv_aload_n hx hb dX12_readSign_111 rfl (lv_at hl 0 rfl) ?_
  refine lv_iload_n hx hb dX12_readSign_112 rfl (lv_at hl 2 rfl) ?_
  refine lv_if_eq (tgt := 124) hx hb dX12_readSign_113 (by decide) (fun hc => ?_) (fun hc => ?_)
  · have h := h.1 hc
    refine lv_iload_n hx hb dX12_readSign_124 rfl (lv_at hl 1 rfl) ?_
    exact t_X12_readSign_125 hC (rf_ui σ 54 y1) x2 x1 _ _ _ h hT (lv_sub hl [0, 2] rfl)
  · have h := h.2 hc
    refine lv_sipush (v := 256) hx hb dX12_readSign_116 (by decide) ?_
    refine lv_iload_n hx hb dX12_readSign_119 rfl (lv_at hl 1 rfl) ?_
    refine lv_iadd hx hb dX12_readSign_120 ?_
    refine lv_goto (tgt := 125) hx hb dX12_readSign_121 (by decide) ?_
    exact t_X12_readSign_125 hC (rf_ui σ 54 y1) x2 (256 + x1) _ _ _ h hT (lv_sub hl [0, 2] rfl)
end
def w_X12_readSign_102 (post : rf_S → Prop) (σ : rf_S) (x1 : Int32) (x2 : Int32) : Prop := w_X12_readSign_108 post σ x1 x2 5
section
variable {p : Program} {l : Launch} {e : Env} {s : State} {m : MethodId} {args : Array Value} {below : List Frame} {meth : Method} {c : Code} {P : hw_G} {o : Nat} {ad : Nat → Nat}
set_option maxRecDepth 100000 in
set_option maxHeartbeats 4000000 in
theorem t_X12_readSign_102 {post : rf_S → Prop} (hC : rf_C P RX12 p s m meth c cX12_readSign 4 none) (σ : rf_S) (x1 : Int32) (x2 : Int32) (H : Heap) (locs : List Loc) (ls : Array Slot) (h : w_X12_readSign_102 post σ x1 x2) (hT : rf_T P s (rf_A o ad) o ad σ H locs) (hl : lv_has ls 4 [(0, .ref o), (1, .int x1), (2, .int x2)]) : W p l e rm_X12_readSign s m args below meth c H locs 0 0 (MQ below (rf_Qv P o ad post) args s 0 0 (rf_A o ad)) (F0 m 102 ls [.ref o]) := by
  obtain ⟨hx, hb, hml, hown, hK, -, -⟩ := id hC
  refine lv_iconst (v := 5) hx hb dX12_readSign_102 (by decide) ?_
  refine lv_goto (tgt := 108) hx hb dX12_readSign_103 (by decide) ?_
  exact t_X12_readSign_108 hC σ x1 x2 5 _ _ _ h hT (lv_sub hl [0, 1, 2] rfl)
end
def w_X12_readSign_92 (post : rf_S → Prop) (σ : rf_S) (x1 : Int32) (x2 : Int32) (y0 : Int32) : Prop := (¬ x2 = 0 → w_X12_readSign_102 post σ x1 x2) ∧ (x2 = 0 → (y0 = 0 → w_X12_readSign_108 post σ x1 x2 6) ∧ (¬ y0 = 0 → w_X12_readSign_102 post σ x1 x2))
section
variable {p : Program} {l : Launch} {e : Env} {s : State} {m : MethodId} {args : Array Value} {below : List Frame} {meth : Method} {c : Code} {P : hw_G} {o : Nat} {ad : Nat → Nat}
set_option maxRecDepth 100000 in
set_option maxHeartbeats 4000000 in
theorem t_X12_readSign_92 {post : rf_S → Prop} (hC : rf_C P RX12 p s m meth c cX12_readSign 4 none) (σ : rf_S) (x1 : Int32) (x2 : Int32) (y0 : Int32) (H : Heap) (locs : List Loc) (ls : Array Slot) (h : w_X12_readSign_92 post σ x1 x2 y0) (hT : rf_T P s (rf_A o ad) o ad σ H locs) (hl : lv_has ls 4 [(0, .ref o), (1, .int x1), (2, .int x2)]) : W p l e rm_X12_readSign s m args below meth c H locs 0 0 (MQ below (rf_Qv P o ad post) args s 0 0 (rf_A o ad)) (F0 m 92 ls [.int y0]) := by
  obtain ⟨hx, hb, hml, hown, hK, -, -⟩ := id hC
  refine lv_istore_n (lv' := [(3, _), (0, _), (1, _), (2, _)]) hx hb dX12_readSign_92 rfl hl (by decide) rfl (fun ls hl => ?_)
  refine lv_aload_n hx hb dX12_readSign_93 rfl (lv_at hl 1 rfl) ?_
  refine lv_iload_n hx hb dX12_readSign_94 rfl (lv_at hl 3 rfl) ?_
  refine lv_if_ne (tgt := 102) hx hb dX12_readSign_95 (by decide) (fun hc => ?_) (fun hc => ?_)
  · have h := h.1 hc
    exact t_X12_readSign_102 hC σ x1 x2 _ _ _ h hT (lv_sub hl [1, 2, 3] rfl)
  · have h := h.2 hc
    refine lv_iload_n hx hb dX12_readSign_98 rfl (lv_at hl 0 rfl) ?_
    refine lv_if_eq (tgt := 106) hx hb dX12_readSign_99 (by decide) (fun hc => ?_) (fun hc => ?_)
    · have h := h.1 hc
      refine lv_bipush (v := 6) hx hb dX12_readSign_106 (by decide) ?_
      exact t_X12_readSign_108 hC σ x1 x2 6 _ _ _ h hT (lv_sub hl [1, 2, 3] rfl)
    · have h := h.2 hc
      exact t_X12_readSign_102 hC σ x1 x2 _ _ _ h hT (lv_sub hl [1, 2, 3] rfl)
end
def w_X12_readSign_87 (post : rf_S → Prop) (σ : rf_S) (x1 : Int32) (x2 : Int32) : Prop := w_X12_readSign_92 post σ x1 x2 1
section
variable {p : Program} {l : Launch} {e : Env} {s : State} {m : MethodId} {args : Array Value} {below : List Frame} {meth : Method} {c : Code} {P : hw_G} {o : Nat} {ad : Nat → Nat}
set_option maxRecDepth 100000 in
set_option maxHeartbeats 4000000 in
theorem t_X12_readSign_87 {post : rf_S → Prop} (hC : rf_C P RX12 p s m meth c cX12_readSign 4 none) (σ : rf_S) (x1 : Int32) (x2 : Int32) (H : Heap) (locs : List Loc) (ls : Array Slot) (h : w_X12_readSign_87 post σ x1 x2) (hT : rf_T P s (rf_A o ad) o ad σ H locs) (hl : lv_has ls 4 [(0, .ref o), (1, .int x1), (2, .int x2)]) : W p l e rm_X12_readSign s m args below meth c H locs 0 0 (MQ below (rf_Qv P o ad post) args s 0 0 (rf_A o ad)) (F0 m 87 ls []) := by
  obtain ⟨hx, hb, hml, hown, hK, -, -⟩ := id hC
  refine lv_iconst (v := 1) hx hb dX12_readSign_87 (by decide) ?_
  refine lv_goto (tgt := 92) hx hb dX12_readSign_88 (by decide) ?_
  exact t_X12_readSign_92 hC σ x1 x2 1 _ _ _ h hT (lv_sub hl [0, 1, 2] rfl)
end
def w_X12_readSign_38 (post : rf_S → Prop) (σ : rf_S) (x1 : Int32) (y0 : Int32) : Prop := (x1 = 40 → w_X12_readSign_87 post σ x1 y0) ∧ (¬ x1 = 40 → (x1 = 41 → w_X12_readSign_87 post σ x1 y0) ∧ (¬ x1 = 41 → (x1 = 44 → w_X12_readSign_87 post σ x1 y0) ∧ (¬ x1 = 44 → (x1 = 59 → w_X12_readSign_87 post σ x1 y0) ∧ (¬ x1 = 59 → (x1 = 47 → w_X12_readSign_87 post σ x1 y0) ∧ (¬ x1 = 47 → (x1 = 61 → w_X12_readSign_87 post σ x1 y0) ∧ (¬ x1 = 61 → (x1 = 60 → w_X12_readSign_87 post σ x1 y0) ∧ (¬ x1 = 60 → (¬ x1 = 62 → w_X12_readSign_92 post σ x1 y0 0) ∧ (x1 = 62 → w_X12_readSign_87 post σ x1 y0))))))))
section
variable {p : Program} {l : Launch} {e : Env} {s : State} {m : MethodId} {args : Array Value} {below : List Frame} {meth : Method} {c : Code} {P : hw_G} {o : Nat} {ad : Nat → Nat}
set_option maxRecDepth 100000 in
set_option maxHeartbeats 4000000 in
theorem t_X12_readSign_38 {post : rf_S → Prop} (hC : rf_C P RX12 p s m meth c cX12_readSign 4 none) (σ : rf_S) (x1 : Int32) (y0 : Int32) (H : Heap) (locs : List Loc) (ls : Array Slot) (h : w_X12_readSign_38 post σ x1 y0) (hT : rf_T P s (rf_A o ad) o ad σ H locs) (hl : lv_has ls 4 [(0, .ref o), (1, .int x1)]) : W p l e rm_X12_readSign s m args below meth c H locs 0 0 (MQ below (rf_Qv P o ad post) args s 0 0 (rf_A o ad)) (F0 m 38 ls [.int y0]) := by
  obtain ⟨hx, hb, hml, hown, hK, -, -⟩ := id hC
  refine lv_istore_n (lv' := [(2, _), (0, _), (1, _)]) hx hb dX12_readSign_38 rfl hl (by decide) rfl (fun ls hl => ?_)
  refine lv_iload_n hx hb dX12_readSign_39 rfl (lv_at hl 2 rfl) ?_
  refine lv_bipush (v := 40) hx hb dX12_readSign_40 (by decide) ?_
  refine lv_icmp_eq (tgt := 87) hx hb dX12_readSign_42 (by decide) (fun hc => ?_) (fun hc => ?_)
  · have h := h.1 hc
    exact t_X12_readSign_87 hC σ x1 y0 _ _ _ h hT (lv_sub hl [1, 2, 0] rfl)
  · have h := h.2 hc
    refine lv_iload_n hx hb dX12_readSign_45 rfl (lv_at hl 2 rfl) ?_
    refine lv_bipush (v := 41) hx hb dX12_readSign_46 (by decide) ?_
    refine lv_icmp_eq (tgt := 87) hx hb dX12_readSign_48 (by decide) (fun hc => ?_) (fun hc => ?_)
    · have h := h.1 hc
      exact t_X12_readSign_87 hC σ x1 y0 _ _ _ h hT (lv_sub hl [1, 2, 0] rfl)
    · have h := h.2 hc
      refine lv_iload_n hx hb dX12_readSign_51 rfl (lv_at hl 2 rfl) ?_
      refine lv_bipush (v := 44) hx hb dX12_readSign_52 (by decide) ?_
      refine lv_icmp_eq (tgt := 87) hx hb dX12_readSign_54 (by decide) (fun hc => ?_) (fun hc => ?_)
      · have h := h.1 hc
        exact t_X12_readSign_87 hC σ x1 y0 _ _ _ h hT (lv_sub hl [1, 2, 0] rfl)
      · have h := h.2 hc
        refine lv_iload_n hx hb dX12_readSign_57 rfl (lv_at hl 2 rfl) ?_
        refine lv_bipush (v := 59) hx hb dX12_readSign_58 (by decide) ?_
        refine lv_icmp_eq (tgt := 87) hx hb dX12_readSign_60 (by decide) (fun hc => ?_) (fun hc => ?_)
        · have h := h.1 hc
          exact t_X12_readSign_87 hC σ x1 y0 _ _ _ h hT (lv_sub hl [1, 2, 0] rfl)
        · have h := h.2 hc
          refine lv_iload_n hx hb dX12_readSign_63 rfl (lv_at hl 2 rfl) ?_
          refine lv_bipush (v := 47) hx hb dX12_readSign_64 (by decide) ?_
          refine lv_icmp_eq (tgt := 87) hx hb dX12_readSign_66 (by decide) (fun hc => ?_) (fun hc => ?_)
          · have h := h.1 hc
            exact t_X12_readSign_87 hC σ x1 y0 _ _ _ h hT (lv_sub hl [1, 2, 0] rfl)
          · have h := h.2 hc
            refine lv_iload_n hx hb dX12_readSign_69 rfl (lv_at hl 2 rfl) ?_
            refine lv_bipush (v := 61) hx hb dX12_readSign_70 (by decide) ?_
            refine lv_icmp_eq (tgt := 87) hx hb dX12_readSign_72 (by decide) (fun hc => ?_) (fun hc => ?_)
            · have h := h.1 hc
              exact t_X12_readSign_87 hC σ x1 y0 _ _ _ h hT (lv_sub hl [1, 2, 0] rfl)
            · have h := h.2 hc
              refine lv_iload_n hx hb dX12_readSign_75 rfl (lv_at hl 2 rfl) ?_
              refine lv_bipush (v := 60) hx hb dX12_readSign_76 (by decide) ?_
              refine lv_icmp_eq (tgt := 87) hx hb dX12_readSign_78 (by decide) (fun hc => ?_) (fun hc => ?_)
              · have h := h.1 hc
                exact t_X12_readSign_87 hC σ x1 y0 _ _ _ h hT (lv_sub hl [1, 2, 0] rfl)
              · have h := h.2 hc
                refine lv_iload_n hx hb dX12_readSign_81 rfl (lv_at hl 2 rfl) ?_
                refine lv_bipush (v := 62) hx hb dX12_readSign_82 (by decide) ?_
                refine lv_icmp_ne (tgt := 91) hx hb dX12_readSign_84 (by decide) (fun hc => ?_) (fun hc => ?_)
                · have h := h.1 hc
                  refine lv_iconst (v := 0) hx hb dX12_readSign_91 (by decide) ?_
                  exact t_X12_readSign_92 hC σ x1 y0 0 _ _ _ h hT (lv_sub hl [1, 2, 0] rfl)
                · have h := h.2 hc
                  exact t_X12_readSign_87 hC σ x1 y0 _ _ _ h hT (lv_sub hl [1, 2, 0] rfl)
end
def w_X12_readSign_37 (post : rf_S → Prop) (σ : rf_S) (x1 : Int32) : Prop := w_X12_readSign_38 post σ x1 0
section
variable {p : Program} {l : Launch} {e : Env} {s : State} {m : MethodId} {args : Array Value} {below : List Frame} {meth : Method} {c : Code} {P : hw_G} {o : Nat} {ad : Nat → Nat}
set_option maxRecDepth 100000 in
set_option maxHeartbeats 4000000 in
theorem t_X12_readSign_37 {post : rf_S → Prop} (hC : rf_C P RX12 p s m meth c cX12_readSign 4 none) (σ : rf_S) (x1 : Int32) (H : Heap) (locs : List Loc) (ls : Array Slot) (h : w_X12_readSign_37 post σ x1) (hT : rf_T P s (rf_A o ad) o ad σ H locs) (hl : lv_has ls 4 [(0, .ref o), (1, .int x1)]) : W p l e rm_X12_readSign s m args below meth c H locs 0 0 (MQ below (rf_Qv P o ad post) args s 0 0 (rf_A o ad)) (F0 m 37 ls []) := by
  obtain ⟨hx, hb, hml, hown, hK, -, -⟩ := id hC
  refine lv_iconst (v := 0) hx hb dX12_readSign_37 (by decide) ?_
  exact t_X12_readSign_38 hC σ x1 0 _ _ _ h hT (lv_sub hl [0, 1] rfl)
end
def w_X12_readSign_33 (post : rf_S → Prop) (σ : rf_S) (x1 : Int32) : Prop := w_X12_readSign_38 post σ x1 1
section
variable {p : Program} {l : Launch} {e : Env} {s : State} {m : MethodId} {args : Array Value} {below : List Frame} {meth : Method} {c : Code} {P : hw_G} {o : Nat} {ad : Nat → Nat}
set_option maxRecDepth 100000 in
set_option maxHeartbeats 4000000 in
theorem t_X12_readSign_33 {post : rf_S → Prop} (hC : rf_C P RX12 p s m meth c cX12_readSign 4 none) (σ : rf_S) (x1 : Int32) (H : Heap) (locs : List Loc) (ls : Array Slot) (h : w_X12_readSign_33 post σ x1) (hT : rf_T P s (rf_A o ad) o ad σ H locs) (hl : lv_has ls 4 [(0, .ref o), (1, .int x1)]) : W p l e rm_X12_readSign s m args below meth c H locs 0 0 (MQ below (rf_Qv P o ad post) args s 0 0 (rf_A o ad)) (F0 m 33 ls []) := by
  obtain ⟨hx, hb, hml, hown, hK, -, -⟩ := id hC
  refine lv_iconst (v := 1) hx hb dX12_readSign_33 (by decide) ?_
  refine lv_goto (tgt := 38) hx hb dX12_readSign_34 (by decide) ?_
  exact t_X12_readSign_38 hC σ x1 1 _ _ _ h hT (lv_sub hl [0, 1] rfl)
end
def wp_X12_readSign (post : rf_S → Prop) (σ : rf_S) (p1 : Int32) : Prop := wp_X12_byteAt (fun r2 σ2 => (¬ r2 = 61 → w_X12_readSign_37 post σ2 p1) ∧ (r2 = 61 → (p1 = 33 → w_X12_readSign_33 post σ2 p1) ∧ (¬ p1 = 33 → (p1 = 60 → w_X12_readSign_33 post σ2 p1) ∧ (¬ p1 = 60 → (¬ p1 = 62 → w_X12_readSign_37 post σ2 p1) ∧ (p1 = 62 → w_X12_readSign_33 post σ2 p1))))) σ ((σ.1 4) + 1)
set_option maxRecDepth 100000 in
set_option maxHeartbeats 4000000 in
theorem c_X12_readSign {l : Launch} {P : hw_G} {o : Nat} {ad : Nat → Nat} {σ : rf_S} {p1 : Int32} {post : rf_S → Prop} (h : wp_X12_readSign post σ p1) : Met l yX12_readSign [Cond.code yX12_readSign cX12_readSign 4 none] rm_X12_readSign (rf_Pc P o ad σ [.ref o, .int p1]) (rf_Qv P o ad post) 0 0 (rf_A o ad) := by
  refine rf_met (by decide) rfl (Nat.le_of_ble_eq_true rfl) ?_
  intro p e s m below meth c ls hC hT hl
  obtain ⟨hx, hb, hml, hown, hK, -, -⟩ := id hC
  have hl : lv_has ls 4 [(0, .ref o), (1, .int p1)] := hl
  refine lv_aload_n hx hb dX12_readSign_0 rfl (lv_at hl 0 rfl) ?_
  refine lv_aload_n hx hb dX12_readSign_1 rfl (lv_at hl 0 rfl) ?_
  refine rf_get hx hb hK hT hown 4 (by decide) kfX12_104 (v := .int (σ.1 4)) rfl dX12_readSign_2 ?_
  refine lv_iconst (v := 1) hx hb dX12_readSign_5 (by decide) ?_
  refine lv_iadd hx hb dX12_readSign_6 ?_
  refine rf_calli (rf_runV hx hb hml hown hK hT (c_X12_byteAt h) rfl rfl klX12_107 ki_X12_byteAt ks_X12_byteAt kn_X12 kc_X12_byteAt 1 ⟨rfl, by decide, by decide, by decide +kernel⟩ ⟨by decide, by decide⟩ rfl hl.1 rfl (Nat.le_of_ble_eq_true rfl) ⟨Nat.le_refl _, Nat.le_refl _⟩ dX12_readSign_7) hT (fun r2 σ2 H locs h hT => ?_)
  refine lv_bipush (v := 61) hx hb dX12_readSign_10 (by decide) ?_
  refine lv_icmp_ne (tgt := 37) hx hb dX12_readSign_12 (by decide) (fun hc => ?_) (fun hc => ?_)
  · have h := h.1 hc
    exact t_X12_readSign_37 hC σ2 p1 _ _ _ h hT (lv_sub hl [0, 1] rfl)
  · have h := h.2 hc
    refine lv_iload_n hx hb dX12_readSign_15 rfl (lv_at hl 1 rfl) ?_
    refine lv_bipush (v := 33) hx hb dX12_readSign_16 (by decide) ?_
    refine lv_icmp_eq (tgt := 33) hx hb dX12_readSign_18 (by decide) (fun hc => ?_) (fun hc => ?_)
    · have h := h.1 hc
      exact t_X12_readSign_33 hC σ2 p1 _ _ _ h hT (lv_sub hl [0, 1] rfl)
    · have h := h.2 hc
      refine lv_iload_n hx hb dX12_readSign_21 rfl (lv_at hl 1 rfl) ?_
      refine lv_bipush (v := 60) hx hb dX12_readSign_22 (by decide) ?_
      refine lv_icmp_eq (tgt := 33) hx hb dX12_readSign_24 (by decide) (fun hc => ?_) (fun hc => ?_)
      · have h := h.1 hc
        exact t_X12_readSign_33 hC σ2 p1 _ _ _ h hT (lv_sub hl [0, 1] rfl)
      · have h := h.2 hc
        refine lv_iload_n hx hb dX12_readSign_27 rfl (lv_at hl 1 rfl) ?_
        refine lv_bipush (v := 62) hx hb dX12_readSign_28 (by decide) ?_
        refine lv_icmp_ne (tgt := 37) hx hb dX12_readSign_30 (by decide) (fun hc => ?_) (fun hc => ?_)
        · have h := h.1 hc
          exact t_X12_readSign_37 hC σ2 p1 _ _ _ h hT (lv_sub hl [0, 1] rfl)
        · have h := h.2 hc
          exact t_X12_readSign_33 hC σ2 p1 _ _ _ h hT (lv_sub hl [0, 1] rfl)
/-! X12_next -/
abbrev rm_X12_next : Room := { frames := 3, cells := 0, slots := 0, locals := 72 }
def w_X12_next_26 (post : rf_S → Prop) (k0 : rf_S → Prop) (σ : rf_S)  : Prop := k0 (rf_ui σ 4 ((σ.1 4) + 1))
section
variable {p : Program} {l : Launch} {e : Env} {s : State} {m : MethodId} {args : Array Value} {below : List Frame} {meth : Method} {c : Code} {P : hw_G} {o : Nat} {ad : Nat → Nat}
set_option maxRecDepth 100000 in
set_option maxHeartbeats 4000000 in
theorem t_X12_next_26 {post : rf_S → Prop} {k0 : rf_S → Prop} (hC : rf_C P RX12 p s m meth c cX12_next 2 none) (hk0 : ∀ (σ : rf_S)  (H : Heap) (locs : List Loc) (ls : Array Slot), k0 σ  → rf_T P s (rf_A o ad) o ad σ H locs → lv_has ls 2 [(0, .ref o)] → W p l e rm_X12_next s m args below meth c H locs 0 0 (MQ below (rf_Qv P o ad post) args s 0 0 (rf_A o ad)) (F0 m 0 ls [])) (σ : rf_S)  (H : Heap) (locs : List Loc) (ls : Array Slot) (h : w_X12_next_26 post k0 σ ) (hT : rf_T P s (rf_A o ad) o ad σ H locs) (hl : lv_has ls 2 [(0, .ref o)]) : W p l e rm_X12_next s m args below meth c H locs 0 0 (MQ below (rf_Qv P o ad post) args s 0 0 (rf_A o ad)) (F0 m 26 ls []) := by
  obtain ⟨hx, hb, hml, hown, hK, -, -⟩ := id hC
  refine lv_aload_n hx hb dX12_next_26 rfl (lv_at hl 0 rfl) ?_
  refine lv_dup hx hb dX12_next_27 rfl ?_
  refine rf_get hx hb hK hT hown 4 (by decide) kfX12_104 (v := .int (σ.1 4)) rfl dX12_next_28 ?_
  refine lv_iconst (v := 1) hx hb dX12_next_31 (by decide) ?_
  refine lv_iadd hx hb dX12_next_32 ?_
  refine rf_puti hx hb hK hT hown 4 (by decide) kfX12_104 rfl rfl dX12_next_33 (fun H locs hT => ?_)
  refine lv_goto (tgt := 0) hx hb dX12_next_36 (by decide) ?_
  exact hk0 (rf_ui σ 4 ((σ.1 4) + 1)) _ _ _ h hT (lv_sub hl [0] rfl)
end
def w_X12_next_149 (post : rf_S → Prop) (σ : rf_S)  : Prop := post σ
section
variable {p : Program} {l : Launch} {e : Env} {s : State} {m : MethodId} {args : Array Value} {below : List Frame} {meth : Method} {c : Code} {P : hw_G} {o : Nat} {ad : Nat → Nat}
set_option maxRecDepth 100000 in
set_option maxHeartbeats 4000000 in
theorem t_X12_next_149 {post : rf_S → Prop} (hC : rf_C P RX12 p s m meth c cX12_next 2 none) (σ : rf_S)  (H : Heap) (locs : List Loc) (ls : Array Slot) (h : w_X12_next_149 post σ ) (hT : rf_T P s (rf_A o ad) o ad σ H locs) (hl : lv_has ls 2 []) : W p l e rm_X12_next s m args below meth c H locs 0 0 (MQ below (rf_Qv P o ad post) args s 0 0 (rf_A o ad)) (F0 m 149 ls []) := by
  obtain ⟨hx, hb, hml, hown, hK, -, -⟩ := id hC
  exact rf_vret hC hT h dX12_next_149
end
def w_X12_next_124 (post : rf_S → Prop) (σ : rf_S)  : Prop := wp_X12_readNumber (fun σ10 => w_X12_next_149 post σ10) σ
section
variable {p : Program} {l : Launch} {e : Env} {s : State} {m : MethodId} {args : Array Value} {below : List Frame} {meth : Method} {c : Code} {P : hw_G} {o : Nat} {ad : Nat → Nat}
set_option maxRecDepth 100000 in
set_option maxHeartbeats 4000000 in
theorem t_X12_next_124 {post : rf_S → Prop} (hC : rf_C P RX12 p s m meth c cX12_next 2 none) (σ : rf_S)  (H : Heap) (locs : List Loc) (ls : Array Slot) (h : w_X12_next_124 post σ ) (hT : rf_T P s (rf_A o ad) o ad σ H locs) (hl : lv_has ls 2 [(0, .ref o)]) : W p l e rm_X12_next s m args below meth c H locs 0 0 (MQ below (rf_Qv P o ad post) args s 0 0 (rf_A o ad)) (F0 m 124 ls []) := by
  obtain ⟨hx, hb, hml, hown, hK, -, -⟩ := id hC
  refine lv_aload_n hx hb dX12_next_124 rfl (lv_at hl 0 rfl) ?_
  refine rf_callv (rf_runV hx hb hml hown hK hT (c_X12_readNumber h) rfl rfl klX12_328 ki_X12_readNumber ks_X12_readNumber kn_X12 kc_X12_readNumber 0 ⟨rfl, by decide, by decide, by decide +kernel⟩ ⟨by decide, by decide⟩ rfl hl.1 rfl (Nat.le_of_ble_eq_true rfl) ⟨Nat.le_refl _, Nat.le_refl _⟩ dX12_next_125) hT (fun σ10 H locs h hT => ?_)
  refine lv_goto (tgt := 149) hx hb dX12_next_128 (by decide) ?_
  exact t_X12_next_149 hC σ10 _ _ _ h hT (lv_sub hl [] rfl)
end
def w_X12_next_85 (post : rf_S → Prop) (σ : rf_S) (x1 : Int32) : Prop := (0 ≤ x1 → wp_X12_isSmall (fun r11 σ11 => (r11 = 0 → wp_X12_isDigit (fun r12 σ12 => (¬ r12 = 0 → w_X12_next_124 post σ12) ∧ (r12 = 0 → (¬ x1 = 45 → (¬ x1 = 34 → wp_X12_readSign (fun σ13 => w_X12_next_149 post σ13) σ12 x1) ∧ (x1 = 34 → wp_X12_readText (fun σ14 => w_X12_next_149 post σ14) σ12)) ∧ (x1 = 45 → w_X12_next_124 post σ12))) σ11 x1) ∧ (¬ r11 = 0 → wp_X12_readWord (fun σ15 => w_X12_next_149 post σ15) σ11)) σ x1) ∧ (¬ 0 ≤ x1 → w_X12_next_149 post (rf_ui σ 54 0))
section
variable {p : Program} {l : Launch} {e : Env} {s : State} {m : MethodId} {args : Array Value} {below : List Frame} {meth : Method} {c : Code} {P : hw_G} {o : Nat} {ad : Nat → Nat}
set_option maxRecDepth 100000 in
set_option maxHeartbeats 4000000 in
theorem t_X12_next_85 {post : rf_S → Prop} (hC : rf_C P RX12 p s m meth c cX12_next 2 none) (σ : rf_S) (x1 : Int32) (H : Heap) (locs : List Loc) (ls : Array Slot) (h : w_X12_next_85 post σ x1) (hT : rf_T P s (rf_A o ad) o ad σ H locs) (hl : lv_has ls 2 [(0, .ref o), (1, .int x1)]) : W p l e rm_X12_next s m args below meth c H locs 0 0 (MQ below (rf_Qv P o ad post) args s 0 0 (rf_A o ad)) (F0 m 85 ls []) := by
  obtain ⟨hx, hb, hml, hown, hK, -, -⟩ := id hC
  refine lv_iload_n hx hb dX12_next_85 rfl (lv_at hl 1 rfl) ?_
  refine lv_if_ge (tgt := 97) hx hb dX12_next_86 (by decide) (fun hc => ?_) (fun hc => ?_)
  · have h := h.1 hc
    refine lv_iload_n hx hb dX12_next_97 rfl (lv_at hl 1 rfl) ?_
    refine rf_calli (rf_runS hx hb hml hown hK hT (c_X12_isSmall h) rfl rfl klX12_319 ki_X12_isSmall kn_X12 kc_X12_isSmall 1 ⟨by decide, by decide, by decide +kernel⟩ ⟨by decide, by decide⟩ rfl hl.1 rfl (Nat.le_of_ble_eq_true rfl) ⟨Nat.le_refl _, Nat.le_refl _⟩ dX12_next_98) hT (fun r11 σ11 H locs h hT => ?_)
    refine lv_if_eq (tgt := 111) hx hb dX12_next_101 (by decide) (fun hc => ?_) (fun hc => ?_)
    · have h := h.1 hc
      refine lv_iload_n hx hb dX12_next_111 rfl (lv_at hl 1 rfl) ?_
      refine rf_calli (rf_runS hx hb hml hown hK hT (c_X12_isDigit h) rfl rfl klX12_325 ki_X12_isDigit kn_X12 kc_X12_isDigit 1 ⟨by decide, by decide, by decide +kernel⟩ ⟨by decide, by decide⟩ rfl hl.1 rfl (Nat.le_of_ble_eq_true rfl) ⟨Nat.le_refl _, Nat.le_refl _⟩ dX12_next_112) hT (fun r12 σ12 H locs h hT => ?_)
      refine lv_if_ne (tgt := 124) hx hb dX12_next_115 (by decide) (fun hc => ?_) (fun hc => ?_)
      · have h := h.1 hc
        exact t_X12_next_124 hC σ12 _ _ _ h hT (lv_sub hl [0] rfl)
      · have h := h.2 hc
        refine lv_iload_n hx hb dX12_next_118 rfl (lv_at hl 1 rfl) ?_
        refine lv_bipush (v := 45) hx hb dX12_next_119 (by decide) ?_
        refine lv_icmp_ne (tgt := 131) hx hb dX12_next_121 (by decide) (fun hc => ?_) (fun hc => ?_)
        · have h := h.1 hc
          refine lv_iload_n hx hb dX12_next_131 rfl (lv_at hl 1 rfl) ?_
          refine lv_bipush (v := 34) hx hb dX12_next_132 (by decide) ?_
          refine lv_icmp_ne (tgt := 144) hx hb dX12_next_134 (by decide) (fun hc => ?_) (fun hc => ?_)
          · have h := h.1 hc
            refine lv_aload_n hx hb dX12_next_144 rfl (lv_at hl 0 rfl) ?_
            refine lv_iload_n hx hb dX12_next_145 rfl (lv_at hl 1 rfl) ?_
            refine rf_callv (rf_runV hx hb hml hown hK hT (c_X12_readSign h) rfl rfl klX12_334 ki_X12_readSign ks_X12_readSign kn_X12 kc_X12_readSign 1 ⟨rfl, by decide, by decide, by decide +kernel⟩ ⟨by decide, by decide⟩ rfl hl.1 rfl (Nat.le_of_ble_eq_true rfl) ⟨Nat.le_refl _, Nat.le_refl _⟩ dX12_next_146) hT (fun σ13 H locs h hT => ?_)
            exact t_X12_next_149 hC σ13 _ _ _ h hT (lv_sub hl [] rfl)
          · have h := h.2 hc
            refine lv_aload_n hx hb dX12_next_137 rfl (lv_at hl 0 rfl) ?_
            refine rf_callv (rf_runV hx hb hml hown hK hT (c_X12_readText h) rfl rfl klX12_331 ki_X12_readText ks_X12_readText kn_X12 kc_X12_readText 0 ⟨rfl, by decide, by decide, by decide +kernel⟩ ⟨by decide, by decide⟩ rfl hl.1 rfl (Nat.le_of_ble_eq_true rfl) ⟨Nat.le_refl _, Nat.le_refl _⟩ dX12_next_138) hT (fun σ14 H locs h hT => ?_)
            refine lv_goto (tgt := 149) hx hb dX12_next_141 (by decide) ?_
            exact t_X12_next_149 hC σ14 _ _ _ h hT (lv_sub hl [] rfl)
        · have h := h.2 hc
          exact t_X12_next_124 hC σ12 _ _ _ h hT (lv_sub hl [0] rfl)
    · have h := h.2 hc
      refine lv_aload_n hx hb dX12_next_104 rfl (lv_at hl 0 rfl) ?_
      refine rf_callv (rf_runV hx hb hml hown hK hT (c_X12_readWord h) rfl rfl klX12_322 ki_X12_readWord ks_X12_readWord kn_X12 kc_X12_readWord 0 ⟨rfl, by decide, by decide, by decide +kernel⟩ ⟨by decide, by decide⟩ rfl hl.1 rfl (Nat.le_of_ble_eq_true rfl) ⟨Nat.le_refl _, Nat.le_refl _⟩ dX12_next_105) hT (fun σ15 H locs h hT => ?_)
      refine lv_goto (tgt := 149) hx hb dX12_next_108 (by decide) ?_
      exact t_X12_next_149 hC σ15 _ _ _ h hT (lv_sub hl [] rfl)
  · have h := h.2 hc
    refine lv_aload_n hx hb dX12_next_89 rfl (lv_at hl 0 rfl) ?_
    refine lv_iconst (v := 0) hx hb dX12_next_90 (by decide) ?_
    refine rf_puti hx hb hK hT hown 54 (by decide) kfX12_316 rfl rfl dX12_next_91 (fun H locs hT => ?_)
    refine lv_goto (tgt := 149) hx hb dX12_next_94 (by decide) ?_
    exact t_X12_next_149 hC (rf_ui σ 54 0) _ _ _ h hT (lv_sub hl [] rfl)
end
def w_X12_next_0 (post : rf_S → Prop) : Nat → rf_S → Prop
  | 0, _ => False
  | n + 1, σ => wp_X12_byteAt (fun r16 σ16 => (r16 = 32 → w_X12_next_26 post (w_X12_next_0 post n) σ16) ∧ (¬ r16 = 32 → wp_X12_byteAt (fun r17 σ17 => (¬ r17 = 10 → wp_X12_byteAt (fun r18 σ18 => ((σ18.1 55) < 2000 → w_X12_next_85 post σ18 r18) ∧ (¬ (σ18.1 55) < 2000 → ((σ18.1 3) ≤ 2000 → w_X12_next_85 post σ18 r18) ∧ (¬ (σ18.1 3) ≤ 2000 → w_X12_next_149 post (rf_ui σ18 54 6)))) (rf_ui σ17 55 (σ17.1 4)) (σ17.1 4)) ∧ (r17 = 10 → w_X12_next_26 post (w_X12_next_0 post n) σ17)) σ16 (σ16.1 4))) σ (σ.1 4)
section
variable {p : Program} {l : Launch} {e : Env} {s : State} {m : MethodId} {args : Array Value} {below : List Frame} {meth : Method} {c : Code} {P : hw_G} {o : Nat} {ad : Nat → Nat}
set_option maxRecDepth 100000 in
set_option maxHeartbeats 4000000 in
theorem t_X12_next_0 {post : rf_S → Prop} (hC : rf_C P RX12 p s m meth c cX12_next 2 none) : ∀ (n : Nat) (σ : rf_S)  (H : Heap) (locs : List Loc) (ls : Array Slot), w_X12_next_0 post n σ  → rf_T P s (rf_A o ad) o ad σ H locs → lv_has ls 2 [(0, .ref o)] → W p l e rm_X12_next s m args below meth c H locs 0 0 (MQ below (rf_Qv P o ad post) args s 0 0 (rf_A o ad)) (F0 m 0 ls []) := by
  obtain ⟨hx, hb, hml, hown, hK, -, -⟩ := id hC
  intro n
  induction n with
  | zero => intro σ  H locs ls h; exact False.elim h
  | succ n ih =>
    intro σ  H locs ls h hT hl
    refine lv_aload_n hx hb dX12_next_0 rfl (lv_at hl 0 rfl) ?_
    refine lv_aload_n hx hb dX12_next_1 rfl (lv_at hl 0 rfl) ?_
    refine rf_get hx hb hK hT hown 4 (by decide) kfX12_104 (v := .int (σ.1 4)) rfl dX12_next_2 ?_
    refine rf_calli (rf_runV hx hb hml hown hK hT (c_X12_byteAt h) rfl rfl klX12_107 ki_X12_byteAt ks_X12_byteAt kn_X12 kc_X12_byteAt 1 ⟨rfl, by decide, by decide, by decide +kernel⟩ ⟨by decide, by decide⟩ rfl hl.1 rfl (Nat.le_of_ble_eq_true rfl) ⟨Nat.le_refl _, Nat.le_refl _⟩ dX12_next_5) hT (fun r16 σ16 H locs h hT => ?_)
    refine lv_bipush (v := 32) hx hb dX12_next_8 (by decide) ?_
    refine lv_icmp_eq (tgt := 26) hx hb dX12_next_10 (by decide) (fun hc => ?_) (fun hc => ?_)
    · have h := h.1 hc
      exact t_X12_next_26 hC ih σ16 _ _ _ h hT (lv_sub hl [0] rfl)
    · have h := h.2 hc
      refine lv_aload_n hx hb dX12_next_13 rfl (lv_at hl 0 rfl) ?_
      refine lv_aload_n hx hb dX12_next_14 rfl (lv_at hl 0 rfl) ?_
      refine rf_get hx hb hK hT hown 4 (by decide) kfX12_104 (v := .int (σ16.1 4)) rfl dX12_next_15 ?_
      refine rf_calli (rf_runV hx hb hml hown hK hT (c_X12_byteAt h) rfl rfl klX12_107 ki_X12_byteAt ks_X12_byteAt kn_X12 kc_X12_byteAt 1 ⟨rfl, by decide, by decide, by decide +kernel⟩ ⟨by decide, by decide⟩ rfl hl.1 rfl (Nat.le_of_ble_eq_true rfl) ⟨Nat.le_refl _, Nat.le_refl _⟩ dX12_next_18) hT (fun r17 σ17 H locs h hT => ?_)
      refine lv_bipush (v := 10) hx hb dX12_next_21 (by decide) ?_
      refine lv_icmp_ne (tgt := 39) hx hb dX12_next_23 (by decide) (fun hc => ?_) (fun hc => ?_)
      · have h := h.1 hc
        refine lv_aload_n hx hb dX12_next_39 rfl (lv_at hl 0 rfl) ?_
        refine lv_aload_n hx hb dX12_next_40 rfl (lv_at hl 0 rfl) ?_
        refine rf_get hx hb hK hT hown 4 (by decide) kfX12_104 (v := .int (σ17.1 4)) rfl dX12_next_41 ?_
        refine rf_puti hx hb hK hT hown 55 (by decide) kfX12_313 rfl rfl dX12_next_44 (fun H locs hT => ?_)
        refine lv_aload_n hx hb dX12_next_47 rfl (lv_at hl 0 rfl) ?_
        refine lv_aload_n hx hb dX12_next_48 rfl (lv_at hl 0 rfl) ?_
        refine rf_get hx hb hK hT hown 4 (by decide) kfX12_104 (v := .int (σ17.1 4)) rfl dX12_next_49 ?_
        refine rf_calli (rf_runV hx hb hml hown hK hT (c_X12_byteAt h) rfl rfl klX12_107 ki_X12_byteAt ks_X12_byteAt kn_X12 kc_X12_byteAt 1 ⟨rfl, by decide, by decide, by decide +kernel⟩ ⟨by decide, by decide⟩ rfl hl.1 rfl (Nat.le_of_ble_eq_true rfl) ⟨Nat.le_refl _, Nat.le_refl _⟩ dX12_next_52) hT (fun r18 σ18 H locs h hT => ?_)
        refine lv_istore_n (lv' := [(1, _), (0, _)]) hx hb dX12_next_55 rfl hl (by decide) rfl (fun ls hl => ?_)
        refine lv_aload_n hx hb dX12_next_56 rfl (lv_at hl 1 rfl) ?_
        refine rf_get hx hb hK hT hown 55 (by decide) kfX12_313 (v := .int (σ18.1 55)) rfl dX12_next_57 ?_
        refine lv_sipush (v := 2000) hx hb dX12_next_60 (by decide) ?_
        refine lv_icmp_lt (tgt := 85) hx hb dX12_next_63 (by decide) (fun hc => ?_) (fun hc => ?_)
        · have h := h.1 hc
          exact t_X12_next_85 hC σ18 r18 _ _ _ h hT (lv_sub hl [1, 0] rfl)
        · have h := h.2 hc
          refine lv_aload_n hx hb dX12_next_66 rfl (lv_at hl 1 rfl) ?_
          refine rf_get hx hb hK hT hown 3 (by decide) kfX12_24 (v := .int (σ18.1 3)) rfl dX12_next_67 ?_
          refine lv_sipush (v := 2000) hx hb dX12_next_70 (by decide) ?_
          refine lv_icmp_le (tgt := 85) hx hb dX12_next_73 (by decide) (fun hc => ?_) (fun hc => ?_)
          · have h := h.1 hc
            exact t_X12_next_85 hC σ18 r18 _ _ _ h hT (lv_sub hl [1, 0] rfl)
          · have h := h.2 hc
            refine lv_aload_n hx hb dX12_next_76 rfl (lv_at hl 1 rfl) ?_
            refine lv_bipush (v := 6) hx hb dX12_next_77 (by decide) ?_
            refine rf_puti hx hb hK hT hown 54 (by decide) kfX12_316 rfl rfl dX12_next_79 (fun H locs hT => ?_)
            refine lv_goto (tgt := 149) hx hb dX12_next_82 (by decide) ?_
            exact t_X12_next_149 hC (rf_ui σ18 54 6) _ _ _ h hT (lv_sub hl [] rfl)
      · have h := h.2 hc
        exact t_X12_next_26 hC ih σ17 _ _ _ h hT (lv_sub hl [0] rfl)
end
def wp_X12_next (post : rf_S → Prop) (σ : rf_S)  : Prop := ∃ n9, w_X12_next_0 post n9 σ
set_option maxRecDepth 100000 in
set_option maxHeartbeats 4000000 in
theorem c_X12_next {l : Launch} {P : hw_G} {o : Nat} {ad : Nat → Nat} {σ : rf_S}  {post : rf_S → Prop} (h : wp_X12_next post σ ) : Met l yX12_next [Cond.code yX12_next cX12_next 2 none] rm_X12_next (rf_Pc P o ad σ [.ref o]) (rf_Qv P o ad post) 0 0 (rf_A o ad) := by
  refine rf_met (by decide) rfl (Nat.le_of_ble_eq_true rfl) ?_
  intro p e s m below meth c ls hC hT hl
  obtain ⟨hx, hb, hml, hown, hK, -, -⟩ := id hC
  have hl : lv_has ls 2 [(0, .ref o)] := hl
  obtain ⟨n9, h⟩ := h
  exact t_X12_next_0 hC n9 σ _ _ _ h hT (lv_sub hl [0] rfl)
/-! X12_cant -/
abbrev rm_X12_cant : Room := { frames := 1, cells := 0, slots := 0, locals := 22 }
def w_X12_cant_44 (post : Int32 → rf_S → Prop) (σ : rf_S) (y1 : Int32) (y2 : Int32) : Prop := wp_X12_wrong (fun r2 σ2 => narrow .boolean (.int r2) = .int r2 ∧ post r2 σ2) σ y1 y2
section
variable {p : Program} {l : Launch} {e : Env} {s : State} {m : MethodId} {args : Array Value} {below : List Frame} {meth : Method} {c : Code} {P : hw_G} {o : Nat} {ad : Nat → Nat}
set_option maxRecDepth 100000 in
set_option maxHeartbeats 4000000 in
theorem t_X12_cant_44 {post : Int32 → rf_S → Prop} (hC : rf_C P RX12 p s m meth c cX12_cant 1 (some .boolean)) (σ : rf_S) (y1 : Int32) (y2 : Int32) (H : Heap) (locs : List Loc) (ls : Array Slot) (h : w_X12_cant_44 post σ y1 y2) (hT : rf_T P s (rf_A o ad) o ad σ H locs) (hl : lv_has ls 1 []) : W p l e rm_X12_cant s m args below meth c H locs 0 0 (MQ below (rf_Qi P o ad post) args s 0 0 (rf_A o ad)) (F0 m 44 ls [.int y2, .int y1, .ref o]) := by
  obtain ⟨hx, hb, hml, hown, hK, -, -⟩ := id hC
  refine rf_calli (rf_runV hx hb hml hown hK hT (c_X12_wrong h) rfl rfl klX12_111 ki_X12_wrong ks_X12_wrong kn_X12 kc_X12_wrong 2 ⟨rfl, by decide, by decide, by decide +kernel⟩ ⟨by decide, by decide⟩ rfl hl.1 rfl (Nat.le_of_ble_eq_true rfl) ⟨Nat.le_refl _, Nat.le_refl _⟩ dX12_cant_44) hT (fun r2 σ2 H locs h hT => ?_)
  exact rf_zret hC hT h.1 h.2 dX12_cant_47
end
def w_X12_cant_40 (post : Int32 → rf_S → Prop) (σ : rf_S) (y1 : Int32) : Prop := w_X12_cant_44 post σ y1 (σ.1 55)
section
variable {p : Program} {l : Launch} {e : Env} {s : State} {m : MethodId} {args : Array Value} {below : List Frame} {meth : Method} {c : Code} {P : hw_G} {o : Nat} {ad : Nat → Nat}
set_option maxRecDepth 100000 in
set_option maxHeartbeats 4000000 in
theorem t_X12_cant_40 {post : Int32 → rf_S → Prop} (hC : rf_C P RX12 p s m meth c cX12_cant 1 (some .boolean)) (σ : rf_S) (y1 : Int32) (H : Heap) (locs : List Loc) (ls : Array Slot) (h : w_X12_cant_40 post σ y1) (hT : rf_T P s (rf_A o ad) o ad σ H locs) (hl : lv_has ls 1 [(0, .ref o)]) : W p l e rm_X12_cant s m args below meth c H locs 0 0 (MQ below (rf_Qi P o ad post) args s 0 0 (rf_A o ad)) (F0 m 40 ls [.int y1, .ref o]) := by
  obtain ⟨hx, hb, hml, hown, hK, -, -⟩ := id hC
  refine lv_aload_n hx hb dX12_cant_40 rfl (lv_at hl 0 rfl) ?_
  refine rf_get hx hb hK hT hown 55 (by decide) kfX12_313 (v := .int (σ.1 55)) rfl dX12_cant_41 ?_
  exact t_X12_cant_44 hC σ y1 (σ.1 55) _ _ _ h hT (lv_sub hl [] rfl)
end
def w_X12_cant_15 (post : Int32 → rf_S → Prop) (σ : rf_S) (y1 : Int32) : Prop := (¬ (σ.1 54) = 6 → w_X12_cant_40 post σ y1) ∧ ((σ.1 54) = 6 → ((σ.1 55) ≤ 2000 → w_X12_cant_40 post σ y1) ∧ (¬ (σ.1 55) ≤ 2000 → w_X12_cant_44 post σ y1 2000))
section
variable {p : Program} {l : Launch} {e : Env} {s : State} {m : MethodId} {args : Array Value} {below : List Frame} {meth : Method} {c : Code} {P : hw_G} {o : Nat} {ad : Nat → Nat}
set_option maxRecDepth 100000 in
set_option maxHeartbeats 4000000 in
theorem t_X12_cant_15 {post : Int32 → rf_S → Prop} (hC : rf_C P RX12 p s m meth c cX12_cant 1 (some .boolean)) (σ : rf_S) (y1 : Int32) (H : Heap) (locs : List Loc) (ls : Array Slot) (h : w_X12_cant_15 post σ y1) (hT : rf_T P s (rf_A o ad) o ad σ H locs) (hl : lv_has ls 1 [(0, .ref o)]) : W p l e rm_X12_cant s m args below meth c H locs 0 0 (MQ below (rf_Qi P o ad post) args s 0 0 (rf_A o ad)) (F0 m 15 ls [.int y1, .ref o]) := by
  obtain ⟨hx, hb, hml, hown, hK, -, -⟩ := id hC
  refine lv_aload_n hx hb dX12_cant_15 rfl (lv_at hl 0 rfl) ?_
  refine rf_get hx hb hK hT hown 54 (by decide) kfX12_316 (v := .int (σ.1 54)) rfl dX12_cant_16 ?_
  refine lv_bipush (v := 6) hx hb dX12_cant_19 (by decide) ?_
  refine lv_icmp_ne (tgt := 40) hx hb dX12_cant_21 (by decide) (fun hc => ?_) (fun hc => ?_)
  · have h := h.1 hc
    exact t_X12_cant_40 hC σ y1 _ _ _ h hT (lv_sub hl [0] rfl)
  · have h := h.2 hc
    refine lv_aload_n hx hb dX12_cant_24 rfl (lv_at hl 0 rfl) ?_
    refine rf_get hx hb hK hT hown 55 (by decide) kfX12_313 (v := .int (σ.1 55)) rfl dX12_cant_25 ?_
    refine lv_sipush (v := 2000) hx hb dX12_cant_28 (by decide) ?_
    refine lv_icmp_le (tgt := 40) hx hb dX12_cant_31 (by decide) (fun hc => ?_) (fun hc => ?_)
    · have h := h.1 hc
      exact t_X12_cant_40 hC σ y1 _ _ _ h hT (lv_sub hl [0] rfl)
    · have h := h.2 hc
      refine lv_sipush (v := 2000) hx hb dX12_cant_34 (by decide) ?_
      refine lv_goto (tgt := 44) hx hb dX12_cant_37 (by decide) ?_
      exact t_X12_cant_44 hC σ y1 2000 _ _ _ h hT (lv_sub hl [] rfl)
end
def wp_X12_cant (post : Int32 → rf_S → Prop) (σ : rf_S)  : Prop := (¬ (σ.1 54) = 6 → w_X12_cant_15 post σ 2) ∧ ((σ.1 54) = 6 → w_X12_cant_15 post σ 1)
set_option maxRecDepth 100000 in
set_option maxHeartbeats 4000000 in
theorem c_X12_cant {l : Launch} {P : hw_G} {o : Nat} {ad : Nat → Nat} {σ : rf_S}  {post : Int32 → rf_S → Prop} (h : wp_X12_cant post σ ) : Met l yX12_cant [Cond.code yX12_cant cX12_cant 1 (some .boolean)] rm_X12_cant (rf_Pc P o ad σ [.ref o]) (rf_Qi P o ad post) 0 0 (rf_A o ad) := by
  refine rf_met (by decide) rfl (Nat.le_of_ble_eq_true rfl) ?_
  intro p e s m below meth c ls hC hT hl
  obtain ⟨hx, hb, hml, hown, hK, -, -⟩ := id hC
  have hl : lv_has ls 1 [(0, .ref o)] := hl
  refine lv_aload_n hx hb dX12_cant_0 rfl (lv_at hl 0 rfl) ?_
  refine lv_aload_n hx hb dX12_cant_1 rfl (lv_at hl 0 rfl) ?_
  refine rf_get hx hb hK hT hown 54 (by decide) kfX12_316 (v := .int (σ.1 54)) rfl dX12_cant_2 ?_
  refine lv_bipush (v := 6) hx hb dX12_cant_5 (by decide) ?_
  refine lv_icmp_ne (tgt := 14) hx hb dX12_cant_7 (by decide) (fun hc => ?_) (fun hc => ?_)
  · have h := h.1 hc
    refine lv_iconst (v := 2) hx hb dX12_cant_14 (by decide) ?_
    exact t_X12_cant_15 hC σ 2 _ _ _ h hT (lv_sub hl [0] rfl)
  · have h := h.2 hc
    refine lv_iconst (v := 1) hx hb dX12_cant_10 (by decide) ?_
    refine lv_goto (tgt := 15) hx hb dX12_cant_11 (by decide) ?_
    exact t_X12_cant_15 hC σ 1 _ _ _ h hT (lv_sub hl [0] rfl)
/-! X12_isWord -/
abbrev rm_X12_isWord : Room := { frames := 0, cells := 0, slots := 0, locals := 0 }
def w_X12_isWord_27 (post : Int32 → rf_S → Prop) (σ : rf_S) (y0 : Int32) : Prop := narrow .boolean (.int y0) = .int y0 ∧ post y0 σ
section
variable {p : Program} {l : Launch} {e : Env} {s : State} {m : MethodId} {args : Array Value} {below : List Frame} {meth : Method} {c : Code} {P : hw_G} {o : Nat} {ad : Nat → Nat}
set_option maxRecDepth 100000 in
set_option maxHeartbeats 4000000 in
theorem t_X12_isWord_27 {post : Int32 → rf_S → Prop} (hC : rf_C P RX12 p s m meth c cX12_isWord 2 (some .boolean)) (σ : rf_S) (y0 : Int32) (H : Heap) (locs : List Loc) (ls : Array Slot) (h : w_X12_isWord_27 post σ y0) (hT : rf_T P s (rf_A o ad) o ad σ H locs) (hl : lv_has ls 2 []) : W p l e rm_X12_isWord s m args below meth c H locs 0 0 (MQ below (rf_Qi P o ad post) args s 0 0 (rf_A o ad)) (F0 m 27 ls [.int y0]) := by
  obtain ⟨hx, hb, hml, hown, hK, -, -⟩ := id hC
  exact rf_zret hC hT h.1 h.2 dX12_isWord_27
end
def w_X12_isWord_26 (post : Int32 → rf_S → Prop) (σ : rf_S)  : Prop := w_X12_isWord_27 post σ 0
section
variable {p : Program} {l : Launch} {e : Env} {s : State} {m : MethodId} {args : Array Value} {below : List Frame} {meth : Method} {c : Code} {P : hw_G} {o : Nat} {ad : Nat → Nat}
set_option maxRecDepth 100000 in
set_option maxHeartbeats 4000000 in
theorem t_X12_isWord_26 {post : Int32 → rf_S → Prop} (hC : rf_C P RX12 p s m meth c cX12_isWord 2 (some .boolean)) (σ : rf_S)  (H : Heap) (locs : List Loc) (ls : Array Slot) (h : w_X12_isWord_26 post σ ) (hT : rf_T P s (rf_A o ad) o ad σ H locs) (hl : lv_has ls 2 []) : W p l e rm_X12_isWord s m args below meth c H locs 0 0 (MQ below (rf_Qi P o ad post) args s 0 0 (rf_A o ad)) (F0 m 26 ls []) := by
  obtain ⟨hx, hb, hml, hown, hK, -, -⟩ := id hC
  refine lv_iconst (v := 0) hx hb dX12_isWord_26 (by decide) ?_
  exact t_X12_isWord_27 hC σ 0 _ _ _ h hT (lv_sub hl [] rfl)
end
def wp_X12_isWord (post : Int32 → rf_S → Prop) (σ : rf_S) (p1 : Int32) : Prop := (¬ (σ.1 54) = 1 → w_X12_isWord_26 post σ) ∧ ((σ.1 54) = 1 → vp_in p1 (rf_n 59) ∧ (¬ (lg_cmp (σ.2.1 58) (σ.2.2.2 59 p1.toNatClampNeg)) = 0 → w_X12_isWord_26 post σ) ∧ ((lg_cmp (σ.2.1 58) (σ.2.2.2 59 p1.toNatClampNeg)) = 0 → w_X12_isWord_27 post σ 1))
set_option maxRecDepth 100000 in
set_option maxHeartbeats 4000000 in
theorem c_X12_isWord {l : Launch} {P : hw_G} {o : Nat} {ad : Nat → Nat} {σ : rf_S} {p1 : Int32} {post : Int32 → rf_S → Prop} (h : wp_X12_isWord post σ p1) : Met l yX12_isWord [Cond.code yX12_isWord cX12_isWord 2 (some .boolean)] rm_X12_isWord (rf_Pc P o ad σ [.ref o, .int p1]) (rf_Qi P o ad post) 0 0 (rf_A o ad) := by
  refine rf_met (by decide) rfl (Nat.le_of_ble_eq_true rfl) ?_
  intro p e s m below meth c ls hC hT hl
  obtain ⟨hx, hb, hml, hown, hK, -, -⟩ := id hC
  have hl : lv_has ls 2 [(0, .ref o), (1, .int p1)] := hl
  refine lv_aload_n hx hb dX12_isWord_0 rfl (lv_at hl 0 rfl) ?_
  refine rf_get hx hb hK hT hown 54 (by decide) kfX12_316 (v := .int (σ.1 54)) rfl dX12_isWord_1 ?_
  refine lv_iconst (v := 1) hx hb dX12_isWord_4 (by decide) ?_
  refine lv_icmp_ne (tgt := 26) hx hb dX12_isWord_5 (by decide) (fun hc => ?_) (fun hc => ?_)
  · have h := h.1 hc
    exact t_X12_isWord_26 hC σ _ _ _ h hT (lv_sub hl [] rfl)
  · have h := h.2 hc
    refine lv_aload_n hx hb dX12_isWord_8 rfl (lv_at hl 0 rfl) ?_
    refine rf_get hx hb hK hT hown 58 (by decide) kfX12_337 (v := .long (σ.2.1 58)) rfl dX12_isWord_9 ?_
    refine lv_aload_n hx hb dX12_isWord_12 rfl (lv_at hl 0 rfl) ?_
    refine rf_get hx hb hK hT hown 59 (by decide) kfX12_253 (v := .ref (ad 59)) rfl dX12_isWord_13 ?_
    refine lv_iload_n hx hb dX12_isWord_16 rfl (lv_at hl 1 rfl) ?_
    obtain ⟨hi, h⟩ := h
    refine rf_lald hx hb hK hT 59 (by decide) rfl hi (v := σ.2.2.2 59 p1.toNatClampNeg) rfl dX12_isWord_17 ?_
    refine W.lcmp hx hb dX12_isWord_18 ?_
    refine lv_if_ne (tgt := 26) hx hb dX12_isWord_19 (by decide) (fun hc => ?_) (fun hc => ?_)
    · have h := h.1 hc
      exact t_X12_isWord_26 hC σ _ _ _ h hT (lv_sub hl [] rfl)
    · have h := h.2 hc
      refine lv_iconst (v := 1) hx hb dX12_isWord_22 (by decide) ?_
      refine lv_goto (tgt := 27) hx hb dX12_isWord_23 (by decide) ?_
      exact t_X12_isWord_27 hC σ 1 _ _ _ h hT (lv_sub hl [] rfl)
/-! X12_isSign -/
abbrev rm_X12_isSign : Room := { frames := 0, cells := 0, slots := 0, locals := 0 }
def w_X12_isSign_21 (post : Int32 → rf_S → Prop) (σ : rf_S) (y0 : Int32) : Prop := narrow .boolean (.int y0) = .int y0 ∧ post y0 σ
section
variable {p : Program} {l : Launch} {e : Env} {s : State} {m : MethodId} {args : Array Value} {below : List Frame} {meth : Method} {c : Code} {P : hw_G} {o : Nat} {ad : Nat → Nat}
set_option maxRecDepth 100000 in
set_option maxHeartbeats 4000000 in
theorem t_X12_isSign_21 {post : Int32 → rf_S → Prop} (hC : rf_C P RX12 p s m meth c cX12_isSign 2 (some .boolean)) (σ : rf_S) (y0 : Int32) (H : Heap) (locs : List Loc) (ls : Array Slot) (h : w_X12_isSign_21 post σ y0) (hT : rf_T P s (rf_A o ad) o ad σ H locs) (hl : lv_has ls 2 []) : W p l e rm_X12_isSign s m args below meth c H locs 0 0 (MQ below (rf_Qi P o ad post) args s 0 0 (rf_A o ad)) (F0 m 21 ls [.int y0]) := by
  obtain ⟨hx, hb, hml, hown, hK, -, -⟩ := id hC
  exact rf_zret hC hT h.1 h.2 dX12_isSign_21
end
def w_X12_isSign_20 (post : Int32 → rf_S → Prop) (σ : rf_S)  : Prop := w_X12_isSign_21 post σ 0
section
variable {p : Program} {l : Launch} {e : Env} {s : State} {m : MethodId} {args : Array Value} {below : List Frame} {meth : Method} {c : Code} {P : hw_G} {o : Nat} {ad : Nat → Nat}
set_option maxRecDepth 100000 in
set_option maxHeartbeats 4000000 in
theorem t_X12_isSign_20 {post : Int32 → rf_S → Prop} (hC : rf_C P RX12 p s m meth c cX12_isSign 2 (some .boolean)) (σ : rf_S)  (H : Heap) (locs : List Loc) (ls : Array Slot) (h : w_X12_isSign_20 post σ ) (hT : rf_T P s (rf_A o ad) o ad σ H locs) (hl : lv_has ls 2 []) : W p l e rm_X12_isSign s m args below meth c H locs 0 0 (MQ below (rf_Qi P o ad post) args s 0 0 (rf_A o ad)) (F0 m 20 ls []) := by
  obtain ⟨hx, hb, hml, hown, hK, -, -⟩ := id hC
  refine lv_iconst (v := 0) hx hb dX12_isSign_20 (by decide) ?_
  exact t_X12_isSign_21 hC σ 0 _ _ _ h hT (lv_sub hl [] rfl)
end
def wp_X12_isSign (post : Int32 → rf_S → Prop) (σ : rf_S) (p1 : Int32) : Prop := (¬ (σ.1 54) = 5 → w_X12_isSign_20 post σ) ∧ ((σ.1 54) = 5 → (¬ (σ.1 56) = p1 → w_X12_isSign_20 post σ) ∧ ((σ.1 56) = p1 → w_X12_isSign_21 post σ 1))
set_option maxRecDepth 100000 in
set_option maxHeartbeats 4000000 in
theorem c_X12_isSign {l : Launch} {P : hw_G} {o : Nat} {ad : Nat → Nat} {σ : rf_S} {p1 : Int32} {post : Int32 → rf_S → Prop} (h : wp_X12_isSign post σ p1) : Met l yX12_isSign [Cond.code yX12_isSign cX12_isSign 2 (some .boolean)] rm_X12_isSign (rf_Pc P o ad σ [.ref o, .int p1]) (rf_Qi P o ad post) 0 0 (rf_A o ad) := by
  refine rf_met (by decide) rfl (Nat.le_of_ble_eq_true rfl) ?_
  intro p e s m below meth c ls hC hT hl
  obtain ⟨hx, hb, hml, hown, hK, -, -⟩ := id hC
  have hl : lv_has ls 2 [(0, .ref o), (1, .int p1)] := hl
  refine lv_aload_n hx hb dX12_isSign_0 rfl (lv_at hl 0 rfl) ?_
  refine rf_get hx hb hK hT hown 54 (by decide) kfX12_316 (v := .int (σ.1 54)) rfl dX12_isSign_1 ?_
  refine lv_iconst (v := 5) hx hb dX12_isSign_4 (by decide) ?_
  refine lv_icmp_ne (tgt := 20) hx hb dX12_isSign_5 (by decide) (fun hc => ?_) (fun hc => ?_)
  · have h := h.1 hc
    exact t_X12_isSign_20 hC σ _ _ _ h hT (lv_sub hl [] rfl)
  · have h := h.2 hc
    refine lv_aload_n hx hb dX12_isSign_8 rfl (lv_at hl 0 rfl) ?_
    refine rf_get hx hb hK hT hown 56 (by decide) kfX12_347 (v := .int (σ.1 56)) rfl dX12_isSign_9 ?_
    refine lv_iload_n hx hb dX12_isSign_12 rfl (lv_at hl 1 rfl) ?_
    refine lv_icmp_ne (tgt := 20) hx hb dX12_isSign_13 (by decide) (fun hc => ?_) (fun hc => ?_)
    · have h := h.1 hc
      exact t_X12_isSign_20 hC σ _ _ _ h hT (lv_sub hl [] rfl)
    · have h := h.2 hc
      refine lv_iconst (v := 1) hx hb dX12_isSign_16 (by decide) ?_
      refine lv_goto (tgt := 21) hx hb dX12_isSign_17 (by decide) ?_
      exact t_X12_isSign_21 hC σ 1 _ _ _ h hT (lv_sub hl [] rfl)
/-! X12_must -/
abbrev rm_X12_must : Room := { frames := 4, cells := 0, slots := 0, locals := 93 }
def wp_X12_must (post : Int32 → rf_S → Prop) (σ : rf_S) (p1 : Int32) : Prop := wp_X12_isWord (fun r4 σ4 => (¬ r4 = 0 → wp_X12_next (fun σ5 => post 1 σ5) σ4) ∧ (r4 = 0 → wp_X12_cant (fun r6 σ6 => narrow .boolean (.int r6) = .int r6 ∧ post r6 σ6) σ4)) σ p1
set_option maxRecDepth 100000 in
set_option maxHeartbeats 4000000 in
theorem c_X12_must {l : Launch} {P : hw_G} {o : Nat} {ad : Nat → Nat} {σ : rf_S} {p1 : Int32} {post : Int32 → rf_S → Prop} (h : wp_X12_must post σ p1) : Met l yX12_must [Cond.code yX12_must cX12_must 2 (some .boolean)] rm_X12_must (rf_Pc P o ad σ [.ref o, .int p1]) (rf_Qi P o ad post) 0 0 (rf_A o ad) := by
  refine rf_met (by decide) rfl (Nat.le_of_ble_eq_true rfl) ?_
  intro p e s m below meth c ls hC hT hl
  obtain ⟨hx, hb, hml, hown, hK, -, -⟩ := id hC
  have hl : lv_has ls 2 [(0, .ref o), (1, .int p1)] := hl
  refine lv_aload_n hx hb dX12_must_0 rfl (lv_at hl 0 rfl) ?_
  refine lv_iload_n hx hb dX12_must_1 rfl (lv_at hl 1 rfl) ?_
  refine rf_calli (rf_runV hx hb hml hown hK hT (c_X12_isWord h) rfl rfl klX12_353 ki_X12_isWord ks_X12_isWord kn_X12 kc_X12_isWord 1 ⟨rfl, by decide, by decide, by decide +kernel⟩ ⟨by decide, by decide⟩ rfl hl.1 rfl (Nat.le_of_ble_eq_true rfl) ⟨Nat.le_refl _, Nat.le_refl _⟩ dX12_must_2) hT (fun r4 σ4 H locs h hT => ?_)
  refine lv_if_ne (tgt := 13) hx hb dX12_must_5 (by decide) (fun hc => ?_) (fun hc => ?_)
  · have h := h.1 hc
    refine lv_aload_n hx hb dX12_must_13 rfl (lv_at hl 0 rfl) ?_
    refine rf_callv (rf_runV hx hb hml hown hK hT (c_X12_next h) rfl rfl klX12_359 ki_X12_next ks_X12_next kn_X12 kc_X12_next 0 ⟨rfl, by decide, by decide, by decide +kernel⟩ ⟨by decide, by decide⟩ rfl hl.1 rfl (Nat.le_of_ble_eq_true rfl) ⟨Nat.le_refl _, Nat.le_refl _⟩ dX12_must_14) hT (fun σ5 H locs h hT => ?_)
    refine lv_iconst (v := 1) hx hb dX12_must_17 (by decide) ?_
    exact rf_zret hC hT rfl h dX12_must_18
  · have h := h.2 hc
    refine lv_aload_n hx hb dX12_must_8 rfl (lv_at hl 0 rfl) ?_
    refine rf_calli (rf_runV hx hb hml hown hK hT (c_X12_cant h) rfl rfl klX12_356 ki_X12_cant ks_X12_cant kn_X12 kc_X12_cant 0 ⟨rfl, by decide, by decide, by decide +kernel⟩ ⟨by decide, by decide⟩ rfl hl.1 rfl (Nat.le_of_ble_eq_true rfl) ⟨Nat.le_refl _, Nat.le_refl _⟩ dX12_must_9) hT (fun r6 σ6 H locs h hT => ?_)
    exact rf_zret hC hT h.1 h.2 dX12_must_12
/-! X12_mustSign -/
abbrev rm_X12_mustSign : Room := { frames := 4, cells := 0, slots := 0, locals := 93 }
def wp_X12_mustSign (post : Int32 → rf_S → Prop) (σ : rf_S) (p1 : Int32) : Prop := wp_X12_isSign (fun r4 σ4 => (¬ r4 = 0 → wp_X12_next (fun σ5 => post 1 σ5) σ4) ∧ (r4 = 0 → wp_X12_cant (fun r6 σ6 => narrow .boolean (.int r6) = .int r6 ∧ post r6 σ6) σ4)) σ p1
set_option maxRecDepth 100000 in
set_option maxHeartbeats 4000000 in
theorem c_X12_mustSign {l : Launch} {P : hw_G} {o : Nat} {ad : Nat → Nat} {σ : rf_S} {p1 : Int32} {post : Int32 → rf_S → Prop} (h : wp_X12_mustSign post σ p1) : Met l yX12_mustSign [Cond.code yX12_mustSign cX12_mustSign 2 (some .boolean)] rm_X12_mustSign (rf_Pc P o ad σ [.ref o, .int p1]) (rf_Qi P o ad post) 0 0 (rf_A o ad) := by
  refine rf_met (by decide) rfl (Nat.le_of_ble_eq_true rfl) ?_
  intro p e s m below meth c ls hC hT hl
  obtain ⟨hx, hb, hml, hown, hK, -, -⟩ := id hC
  have hl : lv_has ls 2 [(0, .ref o), (1, .int p1)] := hl
  refine lv_aload_n hx hb dX12_mustSign_0 rfl (lv_at hl 0 rfl) ?_
  refine lv_iload_n hx hb dX12_mustSign_1 rfl (lv_at hl 1 rfl) ?_
  refine rf_calli (rf_runV hx hb hml hown hK hT (c_X12_isSign h) rfl rfl klX12_362 ki_X12_isSign ks_X12_isSign kn_X12 kc_X12_isSign 1 ⟨rfl, by decide, by decide, by decide +kernel⟩ ⟨by decide, by decide⟩ rfl hl.1 rfl (Nat.le_of_ble_eq_true rfl) ⟨Nat.le_refl _, Nat.le_refl _⟩ dX12_mustSign_2) hT (fun r4 σ4 H locs h hT => ?_)
  refine lv_if_ne (tgt := 13) hx hb dX12_mustSign_5 (by decide) (fun hc => ?_) (fun hc => ?_)
  · have h := h.1 hc
    refine lv_aload_n hx hb dX12_mustSign_13 rfl (lv_at hl 0 rfl) ?_
    refine rf_callv (rf_runV hx hb hml hown hK hT (c_X12_next h) rfl rfl klX12_359 ki_X12_next ks_X12_next kn_X12 kc_X12_next 0 ⟨rfl, by decide, by decide, by decide +kernel⟩ ⟨by decide, by decide⟩ rfl hl.1 rfl (Nat.le_of_ble_eq_true rfl) ⟨Nat.le_refl _, Nat.le_refl _⟩ dX12_mustSign_14) hT (fun σ5 H locs h hT => ?_)
    refine lv_iconst (v := 1) hx hb dX12_mustSign_17 (by decide) ?_
    exact rf_zret hC hT rfl h dX12_mustSign_18
  · have h := h.2 hc
    refine lv_aload_n hx hb dX12_mustSign_8 rfl (lv_at hl 0 rfl) ?_
    refine rf_calli (rf_runV hx hb hml hown hK hT (c_X12_cant h) rfl rfl klX12_356 ki_X12_cant ks_X12_cant kn_X12 kc_X12_cant 0 ⟨rfl, by decide, by decide, by decide +kernel⟩ ⟨by decide, by decide⟩ rfl hl.1 rfl (Nat.le_of_ble_eq_true rfl) ⟨Nat.le_refl _, Nat.le_refl _⟩ dX12_mustSign_9) hT (fun r6 σ6 H locs h hT => ?_)
    exact rf_zret hC hT h.1 h.2 dX12_mustSign_12
/-! X12_isName -/
abbrev rm_X12_isName : Room := { frames := 0, cells := 0, slots := 0, locals := 0 }
def w_X12_isName_12 (post : Int32 → rf_S → Prop) : Nat → rf_S → Int32 → Prop
  | 0, _, _ => False
  | n + 1, σ, x1 => (20 ≤ x1 → post 1 σ) ∧ (¬ 20 ≤ x1 → vp_in x1 (rf_n 59) ∧ (¬ (lg_cmp (σ.2.2.2 59 x1.toNatClampNeg) (σ.2.1 58)) = 0 → w_X12_isName_12 post n σ (x1 + 1)) ∧ ((lg_cmp (σ.2.2.2 59 x1.toNatClampNeg) (σ.2.1 58)) = 0 → post 0 σ))
section
variable {p : Program} {l : Launch} {e : Env} {s : State} {m : MethodId} {args : Array Value} {below : List Frame} {meth : Method} {c : Code} {P : hw_G} {o : Nat} {ad : Nat → Nat}
set_option maxRecDepth 100000 in
set_option maxHeartbeats 4000000 in
theorem t_X12_isName_12 {post : Int32 → rf_S → Prop} (hC : rf_C P RX12 p s m meth c cX12_isName 2 (some .boolean)) : ∀ (n : Nat) (σ : rf_S) (x1 : Int32) (H : Heap) (locs : List Loc) (ls : Array Slot), w_X12_isName_12 post n σ x1 → rf_T P s (rf_A o ad) o ad σ H locs → lv_has ls 2 [(0, .ref o), (1, .int x1)] → W p l e rm_X12_isName s m args below meth c H locs 0 0 (MQ below (rf_Qi P o ad post) args s 0 0 (rf_A o ad)) (F0 m 12 ls []) := by
  obtain ⟨hx, hb, hml, hown, hK, -, -⟩ := id hC
  intro n
  induction n with
  | zero => intro σ x1 H locs ls h; exact False.elim h
  | succ n ih =>
    intro σ x1 H locs ls h hT hl
    refine lv_iload_n hx hb dX12_isName_12 rfl (lv_at hl 1 rfl) ?_
    refine lv_bipush (v := 20) hx hb dX12_isName_13 (by decide) ?_
    refine lv_icmp_ge (tgt := 40) hx hb dX12_isName_15 (by decide) (fun hc => ?_) (fun hc => ?_)
    · have h := h.1 hc
      refine lv_iconst (v := 1) hx hb dX12_isName_40 (by decide) ?_
      exact rf_zret hC hT rfl h dX12_isName_41
    · have h := h.2 hc
      refine lv_aload_n hx hb dX12_isName_18 rfl (lv_at hl 0 rfl) ?_
      refine rf_get hx hb hK hT hown 59 (by decide) kfX12_253 (v := .ref (ad 59)) rfl dX12_isName_19 ?_
      refine lv_iload_n hx hb dX12_isName_22 rfl (lv_at hl 1 rfl) ?_
      obtain ⟨hi, h⟩ := h
      refine rf_lald hx hb hK hT 59 (by decide) rfl hi (v := σ.2.2.2 59 x1.toNatClampNeg) rfl dX12_isName_23 ?_
      refine lv_aload_n hx hb dX12_isName_24 rfl (lv_at hl 0 rfl) ?_
      refine rf_get hx hb hK hT hown 58 (by decide) kfX12_337 (v := .long (σ.2.1 58)) rfl dX12_isName_25 ?_
      refine W.lcmp hx hb dX12_isName_28 ?_
      refine lv_if_ne (tgt := 34) hx hb dX12_isName_29 (by decide) (fun hc => ?_) (fun hc => ?_)
      · have h := h.1 hc
        refine lv_iinc (v := x1 + 1) (lv' := [(1, _), (0, _)]) hx hb dX12_isName_34 hl (k := 1) rfl rfl (by decide) rfl (fun ls hl => ?_)
        refine lv_goto (tgt := 12) hx hb dX12_isName_37 (by decide) ?_
        exact ih σ (x1 + 1) _ _ _ h hT (lv_sub hl [1, 0] rfl)
      · have h := h.2 hc
        refine lv_iconst (v := 0) hx hb dX12_isName_32 (by decide) ?_
        exact rf_zret hC hT rfl h dX12_isName_33
end
def wp_X12_isName (post : Int32 → rf_S → Prop) (σ : rf_S)  : Prop := ((σ.1 54) = 1 → ∃ n9, w_X12_isName_12 post n9 σ 0) ∧ (¬ (σ.1 54) = 1 → post 0 σ)
set_option maxRecDepth 100000 in
set_option maxHeartbeats 4000000 in
theorem c_X12_isName {l : Launch} {P : hw_G} {o : Nat} {ad : Nat → Nat} {σ : rf_S}  {post : Int32 → rf_S → Prop} (h : wp_X12_isName post σ ) : Met l yX12_isName [Cond.code yX12_isName cX12_isName 2 (some .boolean)] rm_X12_isName (rf_Pc P o ad σ [.ref o]) (rf_Qi P o ad post) 0 0 (rf_A o ad) := by
  refine rf_met (by decide) rfl (Nat.le_of_ble_eq_true rfl) ?_
  intro p e s m below meth c ls hC hT hl
  obtain ⟨hx, hb, hml, hown, hK, -, -⟩ := id hC
  have hl : lv_has ls 2 [(0, .ref o)] := hl
  refine lv_aload_n hx hb dX12_isName_0 rfl (lv_at hl 0 rfl) ?_
  refine rf_get hx hb hK hT hown 54 (by decide) kfX12_316 (v := .int (σ.1 54)) rfl dX12_isName_1 ?_
  refine lv_iconst (v := 1) hx hb dX12_isName_4 (by decide) ?_
  refine lv_icmp_eq (tgt := 10) hx hb dX12_isName_5 (by decide) (fun hc => ?_) (fun hc => ?_)
  · have h := h.1 hc
    refine lv_iconst (v := 0) hx hb dX12_isName_10 (by decide) ?_
    refine lv_istore_n (lv' := [(1, _), (0, _)]) hx hb dX12_isName_11 rfl hl (by decide) rfl (fun ls hl => ?_)
    obtain ⟨n9, h⟩ := h
    exact t_X12_isName_12 hC n9 σ 0 _ _ _ h hT (lv_sub hl [1, 0] rfl)
  · have h := h.2 hc
    refine lv_iconst (v := 0) hx hb dX12_isName_8 (by decide) ?_
    exact rf_zret hC hT rfl h dX12_isName_9
/-! X12_mustNumber -/
abbrev rm_X12_mustNumber : Room := { frames := 4, cells := 0, slots := 0, locals := 93 }
def w_X12_mustNumber_29 (post : Int32 → rf_S → Prop) (σ : rf_S)  : Prop := wp_X12_wrong (fun r4 σ4 => narrow .boolean (.int r4) = .int r4 ∧ post r4 σ4) σ 3 (σ.1 55)
section
variable {p : Program} {l : Launch} {e : Env} {s : State} {m : MethodId} {args : Array Value} {below : List Frame} {meth : Method} {c : Code} {P : hw_G} {o : Nat} {ad : Nat → Nat}
set_option maxRecDepth 100000 in
set_option maxHeartbeats 4000000 in
theorem t_X12_mustNumber_29 {post : Int32 → rf_S → Prop} (hC : rf_C P RX12 p s m meth c cX12_mustNumber 3 (some .boolean)) (σ : rf_S)  (H : Heap) (locs : List Loc) (ls : Array Slot) (h : w_X12_mustNumber_29 post σ ) (hT : rf_T P s (rf_A o ad) o ad σ H locs) (hl : lv_has ls 3 [(0, .ref o)]) : W p l e rm_X12_mustNumber s m args below meth c H locs 0 0 (MQ below (rf_Qi P o ad post) args s 0 0 (rf_A o ad)) (F0 m 29 ls []) := by
  obtain ⟨hx, hb, hml, hown, hK, -, -⟩ := id hC
  refine lv_aload_n hx hb dX12_mustNumber_29 rfl (lv_at hl 0 rfl) ?_
  refine lv_iconst (v := 3) hx hb dX12_mustNumber_30 (by decide) ?_
  refine lv_aload_n hx hb dX12_mustNumber_31 rfl (lv_at hl 0 rfl) ?_
  refine rf_get hx hb hK hT hown 55 (by decide) kfX12_313 (v := .int (σ.1 55)) rfl dX12_mustNumber_32 ?_
  refine rf_calli (rf_runV hx hb hml hown hK hT (c_X12_wrong h) rfl rfl klX12_111 ki_X12_wrong ks_X12_wrong kn_X12 kc_X12_wrong 2 ⟨rfl, by decide, by decide, by decide +kernel⟩ ⟨by decide, by decide⟩ rfl hl.1 rfl (Nat.le_of_ble_eq_true rfl) ⟨Nat.le_refl _, Nat.le_refl _⟩ dX12_mustNumber_35) hT (fun r4 σ4 H locs h hT => ?_)
  exact rf_zret hC hT h.1 h.2 dX12_mustNumber_38
end
def wp_X12_mustNumber (post : Int32 → rf_S → Prop) (σ : rf_S) (p1 : Int32) (p2 : Int32) : Prop := ((σ.1 54) = 2 → ((σ.1 56) < p1 → w_X12_mustNumber_29 post σ) ∧ (¬ (σ.1 56) < p1 → ((σ.1 56) ≤ p2 → wp_X12_next (fun σ5 => post 1 σ5) (rf_ui σ 60 (σ.1 56))) ∧ (¬ (σ.1 56) ≤ p2 → w_X12_mustNumber_29 post σ))) ∧ (¬ (σ.1 54) = 2 → wp_X12_cant (fun r6 σ6 => narrow .boolean (.int r6) = .int r6 ∧ post r6 σ6) σ)
set_option maxRecDepth 100000 in
set_option maxHeartbeats 4000000 in
theorem c_X12_mustNumber {l : Launch} {P : hw_G} {o : Nat} {ad : Nat → Nat} {σ : rf_S} {p1 : Int32} {p2 : Int32} {post : Int32 → rf_S → Prop} (h : wp_X12_mustNumber post σ p1 p2) : Met l yX12_mustNumber [Cond.code yX12_mustNumber cX12_mustNumber 3 (some .boolean)] rm_X12_mustNumber (rf_Pc P o ad σ [.ref o, .int p1, .int p2]) (rf_Qi P o ad post) 0 0 (rf_A o ad) := by
  refine rf_met (by decide) rfl (Nat.le_of_ble_eq_true rfl) ?_
  intro p e s m below meth c ls hC hT hl
  obtain ⟨hx, hb, hml, hown, hK, -, -⟩ := id hC
  have hl : lv_has ls 3 [(0, .ref o), (1, .int p1), (2, .int p2)] := hl
  refine lv_aload_n hx hb dX12_mustNumber_0 rfl (lv_at hl 0 rfl) ?_
  refine rf_get hx hb hK hT hown 54 (by decide) kfX12_316 (v := .int (σ.1 54)) rfl dX12_mustNumber_1 ?_
  refine lv_iconst (v := 2) hx hb dX12_mustNumber_4 (by decide) ?_
  refine lv_icmp_eq (tgt := 13) hx hb dX12_mustNumber_5 (by decide) (fun hc => ?_) (fun hc => ?_)
  · have h := h.1 hc
    refine lv_aload_n hx hb dX12_mustNumber_13 rfl (lv_at hl 0 rfl) ?_
    refine rf_get hx hb hK hT hown 56 (by decide) kfX12_347 (v := .int (σ.1 56)) rfl dX12_mustNumber_14 ?_
    refine lv_iload_n hx hb dX12_mustNumber_17 rfl (lv_at hl 1 rfl) ?_
    refine lv_icmp_lt (tgt := 29) hx hb dX12_mustNumber_18 (by decide) (fun hc => ?_) (fun hc => ?_)
    · have h := h.1 hc
      exact t_X12_mustNumber_29 hC σ _ _ _ h hT (lv_sub hl [0] rfl)
    · have h := h.2 hc
      refine lv_aload_n hx hb dX12_mustNumber_21 rfl (lv_at hl 0 rfl) ?_
      refine rf_get hx hb hK hT hown 56 (by decide) kfX12_347 (v := .int (σ.1 56)) rfl dX12_mustNumber_22 ?_
      refine lv_iload_n hx hb dX12_mustNumber_25 rfl (lv_at hl 2 rfl) ?_
      refine lv_icmp_le (tgt := 39) hx hb dX12_mustNumber_26 (by decide) (fun hc => ?_) (fun hc => ?_)
      · have h := h.1 hc
        refine lv_aload_n hx hb dX12_mustNumber_39 rfl (lv_at hl 0 rfl) ?_
        refine lv_aload_n hx hb dX12_mustNumber_40 rfl (lv_at hl 0 rfl) ?_
        refine rf_get hx hb hK hT hown 56 (by decide) kfX12_347 (v := .int (σ.1 56)) rfl dX12_mustNumber_41 ?_
        refine rf_puti hx hb hK hT hown 60 (by decide) kfX12_365 rfl rfl dX12_mustNumber_44 (fun H locs hT => ?_)
        refine lv_aload_n hx hb dX12_mustNumber_47 rfl (lv_at hl 0 rfl) ?_
        refine rf_callv (rf_runV hx hb hml hown hK hT (c_X12_next h) rfl rfl klX12_359 ki_X12_next ks_X12_next kn_X12 kc_X12_next 0 ⟨rfl, by decide, by decide, by decide +kernel⟩ ⟨by decide, by decide⟩ rfl hl.1 rfl (Nat.le_of_ble_eq_true rfl) ⟨Nat.le_refl _, Nat.le_refl _⟩ dX12_mustNumber_48) hT (fun σ5 H locs h hT => ?_)
        refine lv_iconst (v := 1) hx hb dX12_mustNumber_51 (by decide) ?_
        exact rf_zret hC hT rfl h dX12_mustNumber_52
      · have h := h.2 hc
        exact t_X12_mustNumber_29 hC σ _ _ _ h hT (lv_sub hl [0] rfl)
  · have h := h.2 hc
    refine lv_aload_n hx hb dX12_mustNumber_8 rfl (lv_at hl 0 rfl) ?_
    refine rf_calli (rf_runV hx hb hml hown hK hT (c_X12_cant h) rfl rfl klX12_356 ki_X12_cant ks_X12_cant kn_X12 kc_X12_cant 0 ⟨rfl, by decide, by decide, by decide +kernel⟩ ⟨by decide, by decide⟩ rfl hl.1 rfl (Nat.le_of_ble_eq_true rfl) ⟨Nat.le_refl _, Nat.le_refl _⟩ dX12_mustNumber_9) hT (fun r6 σ6 H locs h hT => ?_)
    exact rf_zret hC hT h.1 h.2 dX12_mustNumber_12
