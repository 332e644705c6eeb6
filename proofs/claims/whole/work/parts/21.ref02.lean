/-! X12_like -/
abbrev rm_X12_like : Room := { frames := 0, cells := 0, slots := 0, locals := 0 }
def w_X12_like_186 (post : Int32 → rf_S → Prop) (k42 : rf_S → Int32 → Int32 → Int32 → Int32 → Prop) (σ : rf_S) (x2 : Int32) (x3 : Int32) (x5 : Int32) (x6 : Int32) : Prop := k42 σ x2 x3 x5 (x6 + 1)
section
variable {p : Program} {l : Launch} {e : Env} {s : State} {m : MethodId} {args : Array Value} {below : List Frame} {meth : Method} {c : Code} {P : hw_G} {o : Nat} {ad : Nat → Nat}
set_option maxRecDepth 100000 in
set_option maxHeartbeats 4000000 in
theorem t_X12_like_186 {post : Int32 → rf_S → Prop} {k42 : rf_S → Int32 → Int32 → Int32 → Int32 → Prop} (hC : rf_C P RX12 p s m meth c cX12_like 9 (some .boolean)) (hk42 : ∀ (σ : rf_S) (x2 : Int32) (x3 : Int32) (x5 : Int32) (x6 : Int32) (H : Heap) (locs : List Loc) (ls : Array Slot), k42 σ x2 x3 x5 x6 → rf_T P s (rf_A o ad) o ad σ H locs → lv_has ls 9 [(0, .ref o), (2, .int x2), (3, .int x3), (5, .int x5), (6, .int x6)] → W p l e rm_X12_like s m args below meth c H locs 0 0 (MQ below (rf_Qi P o ad post) args s 0 0 (rf_A o ad)) (F0 m 42 ls [])) (σ : rf_S) (x2 : Int32) (x3 : Int32) (x5 : Int32) (x6 : Int32) (H : Heap) (locs : List Loc) (ls : Array Slot) (h : w_X12_like_186 post k42 σ x2 x3 x5 x6) (hT : rf_T P s (rf_A o ad) o ad σ H locs) (hl : lv_has ls 9 [(0, .ref o), (2, .int x2), (3, .int x3), (5, .int x5), (6, .int x6)]) : W p l e rm_X12_like s m args below meth c H locs 0 0 (MQ below (rf_Qi P o ad post) args s 0 0 (rf_A o ad)) (F0 m 186 ls []) := by
  obtain ⟨hx, hb, hml, hown, hK, -, -⟩ := id hC
  refine lv_iinc (v := x6 + 1) (lv' := [(6, _), (0, _), (2, _), (3, _), (5, _)]) hx hb dX12_like_186 hl (k := 4) rfl rfl (by decide) rfl (fun ls hl => ?_)
  refine lv_goto (tgt := 42) hx hb dX12_like_189 (by decide) ?_
  exact hk42 σ x2 x3 x5 (x6 + 1) _ _ _ h hT (lv_sub hl [1, 2, 3, 4, 0] rfl)
end
def w_X12_like_172 (post : Int32 → rf_S → Prop) (k42 : rf_S → Int32 → Int32 → Int32 → Int32 → Prop) (k121 : rf_S → Int32 → Int32 → Int32 → Int32 → Int32 → Int32 → Prop) (σ : rf_S) (x2 : Int32) (x3 : Int32) (x5 : Int32) (x6 : Int32) (x7 : Int32) (x8 : Int32) (y1 : Int32) (y2 : Int32) : Prop := vp_in y1 (rf_n 62) ∧ k121 (rf_ua σ 62 y1.toNatClampNeg (vp_nar .boolean y2)) x2 x3 x5 x6 x7 (x8 + (-1))
section
variable {p : Program} {l : Launch} {e : Env} {s : State} {m : MethodId} {args : Array Value} {below : List Frame} {meth : Method} {c : Code} {P : hw_G} {o : Nat} {ad : Nat → Nat}
set_option maxRecDepth 100000 in
set_option maxHeartbeats 4000000 in
theorem t_X12_like_172 {post : Int32 → rf_S → Prop} {k42 : rf_S → Int32 → Int32 → Int32 → Int32 → Prop} {k121 : rf_S → Int32 → Int32 → Int32 → Int32 → Int32 → Int32 → Prop} (hC : rf_C P RX12 p s m meth c cX12_like 9 (some .boolean)) (hk42 : ∀ (σ : rf_S) (x2 : Int32) (x3 : Int32) (x5 : Int32) (x6 : Int32) (H : Heap) (locs : List Loc) (ls : Array Slot), k42 σ x2 x3 x5 x6 → rf_T P s (rf_A o ad) o ad σ H locs → lv_has ls 9 [(0, .ref o), (2, .int x2), (3, .int x3), (5, .int x5), (6, .int x6)] → W p l e rm_X12_like s m args below meth c H locs 0 0 (MQ below (rf_Qi P o ad post) args s 0 0 (rf_A o ad)) (F0 m 42 ls [])) (hk121 : ∀ (σ : rf_S) (x2 : Int32) (x3 : Int32) (x5 : Int32) (x6 : Int32) (x7 : Int32) (x8 : Int32) (H : Heap) (locs : List Loc) (ls : Array Slot), k121 σ x2 x3 x5 x6 x7 x8 → rf_T P s (rf_A o ad) o ad σ H locs → lv_has ls 9 [(0, .ref o), (2, .int x2), (3, .int x3), (5, .int x5), (6, .int x6), (7, .int x7), (8, .int x8)] → W p l e rm_X12_like s m args below meth c H locs 0 0 (MQ below (rf_Qi P o ad post) args s 0 0 (rf_A o ad)) (F0 m 121 ls [])) (σ : rf_S) (x2 : Int32) (x3 : Int32) (x5 : Int32) (x6 : Int32) (x7 : Int32) (x8 : Int32) (y1 : Int32) (y2 : Int32) (H : Heap) (locs : List Loc) (ls : Array Slot) (h : w_X12_like_172 post k42 k121 σ x2 x3 x5 x6 x7 x8 y1 y2) (hT : rf_T P s (rf_A o ad) o ad σ H locs) (hl : lv_has ls 9 [(0, .ref o), (2, .int x2), (3, .int x3), (5, .int x5), (6, .int x6), (7, .int x7), (8, .int x8)]) : W p l e rm_X12_like s m args below meth c H locs 0 0 (MQ below (rf_Qi P o ad post) args s 0 0 (rf_A o ad)) (F0 m 172 ls [.int y2, .int y1, .ref (ad 62)]) := by
  obtain ⟨hx, hb, hml, hown, hK, -, -⟩ := id hC
  obtain ⟨hi, h⟩ := h
  refine rf_zast hx hb hK hT 62 (by decide) rfl hi dX12_like_172 (fun H locs hT => ?_)
  refine lv_iinc (v := x8 + (-1)) (lv' := [(8, _), (0, _), (2, _), (3, _), (5, _), (6, _), (7, _)]) hx hb dX12_like_173 hl (k := 6) rfl rfl (by decide) rfl (fun ls hl => ?_)
  refine lv_goto (tgt := 121) hx hb dX12_like_176 (by decide) ?_
  exact hk121 (rf_ua σ 62 y1.toNatClampNeg (vp_nar .boolean y2)) x2 x3 x5 x6 x7 (x8 + (-1)) _ _ _ h hT (lv_sub hl [1, 2, 3, 4, 5, 6, 0] rfl)
end
def w_X12_like_171 (post : Int32 → rf_S → Prop) (k42 : rf_S → Int32 → Int32 → Int32 → Int32 → Prop) (k121 : rf_S → Int32 → Int32 → Int32 → Int32 → Int32 → Int32 → Prop) (σ : rf_S) (x2 : Int32) (x3 : Int32) (x5 : Int32) (x6 : Int32) (x7 : Int32) (x8 : Int32) (y1 : Int32) : Prop := w_X12_like_172 post k42 k121 σ x2 x3 x5 x6 x7 x8 y1 0
section
variable {p : Program} {l : Launch} {e : Env} {s : State} {m : MethodId} {args : Array Value} {below : List Frame} {meth : Method} {c : Code} {P : hw_G} {o : Nat} {ad : Nat → Nat}
set_option maxRecDepth 100000 in
set_option maxHeartbeats 4000000 in
theorem t_X12_like_171 {post : Int32 → rf_S → Prop} {k42 : rf_S → Int32 → Int32 → Int32 → Int32 → Prop} {k121 : rf_S → Int32 → Int32 → Int32 → Int32 → Int32 → Int32 → Prop} (hC : rf_C P RX12 p s m meth c cX12_like 9 (some .boolean)) (hk42 : ∀ (σ : rf_S) (x2 : Int32) (x3 : Int32) (x5 : Int32) (x6 : Int32) (H : Heap) (locs : List Loc) (ls : Array Slot), k42 σ x2 x3 x5 x6 → rf_T P s (rf_A o ad) o ad σ H locs → lv_has ls 9 [(0, .ref o), (2, .int x2), (3, .int x3), (5, .int x5), (6, .int x6)] → W p l e rm_X12_like s m args below meth c H locs 0 0 (MQ below (rf_Qi P o ad post) args s 0 0 (rf_A o ad)) (F0 m 42 ls [])) (hk121 : ∀ (σ : rf_S) (x2 : Int32) (x3 : Int32) (x5 : Int32) (x6 : Int32) (x7 : Int32) (x8 : Int32) (H : Heap) (locs : List Loc) (ls : Array Slot), k121 σ x2 x3 x5 x6 x7 x8 → rf_T P s (rf_A o ad) o ad σ H locs → lv_has ls 9 [(0, .ref o), (2, .int x2), (3, .int x3), (5, .int x5), (6, .int x6), (7, .int x7), (8, .int x8)] → W p l e rm_X12_like s m args below meth c H locs 0 0 (MQ below (rf_Qi P o ad post) args s 0 0 (rf_A o ad)) (F0 m 121 ls [])) (σ : rf_S) (x2 : Int32) (x3 : Int32) (x5 : Int32) (x6 : Int32) (x7 : Int32) (x8 : Int32) (y1 : Int32) (H : Heap) (locs : List Loc) (ls : Array Slot) (h : w_X12_like_171 post k42 k121 σ x2 x3 x5 x6 x7 x8 y1) (hT : rf_T P s (rf_A o ad) o ad σ H locs) (hl : lv_has ls 9 [(0, .ref o), (2, .int x2), (3, .int x3), (5, .int x5), (6, .int x6), (7, .int x7), (8, .int x8)]) : W p l e rm_X12_like s m args below meth c H locs 0 0 (MQ below (rf_Qi P o ad post) args s 0 0 (rf_A o ad)) (F0 m 171 ls [.int y1, .ref (ad 62)]) := by
  obtain ⟨hx, hb, hml, hown, hK, -, -⟩ := id hC
  refine lv_iconst (v := 0) hx hb dX12_like_171 (by decide) ?_
  exact t_X12_like_172 hC hk42 hk121 σ x2 x3 x5 x6 x7 x8 y1 0 _ _ _ h hT (lv_sub hl [0, 1, 2, 3, 4, 5, 6] rfl)
end
def w_X12_like_167 (post : Int32 → rf_S → Prop) (k42 : rf_S → Int32 → Int32 → Int32 → Int32 → Prop) (k121 : rf_S → Int32 → Int32 → Int32 → Int32 → Int32 → Int32 → Prop) (σ : rf_S) (x2 : Int32) (x3 : Int32) (x5 : Int32) (x6 : Int32) (x7 : Int32) (x8 : Int32) (y1 : Int32) : Prop := w_X12_like_172 post k42 k121 σ x2 x3 x5 x6 x7 x8 y1 1
section
variable {p : Program} {l : Launch} {e : Env} {s : State} {m : MethodId} {args : Array Value} {below : List Frame} {meth : Method} {c : Code} {P : hw_G} {o : Nat} {ad : Nat → Nat}
set_option maxRecDepth 100000 in
set_option maxHeartbeats 4000000 in
theorem t_X12_like_167 {post : Int32 → rf_S → Prop} {k42 : rf_S → Int32 → Int32 → Int32 → Int32 → Prop} {k121 : rf_S → Int32 → Int32 → Int32 → Int32 → Int32 → Int32 → Prop} (hC : rf_C P RX12 p s m meth c cX12_like 9 (some .boolean)) (hk42 : ∀ (σ : rf_S) (x2 : Int32) (x3 : Int32) (x5 : Int32) (x6 : Int32) (H : Heap) (locs : List Loc) (ls : Array Slot), k42 σ x2 x3 x5 x6 → rf_T P s (rf_A o ad) o ad σ H locs → lv_has ls 9 [(0, .ref o), (2, .int x2), (3, .int x3), (5, .int x5), (6, .int x6)] → W p l e rm_X12_like s m args below meth c H locs 0 0 (MQ below (rf_Qi P o ad post) args s 0 0 (rf_A o ad)) (F0 m 42 ls [])) (hk121 : ∀ (σ : rf_S) (x2 : Int32) (x3 : Int32) (x5 : Int32) (x6 : Int32) (x7 : Int32) (x8 : Int32) (H : Heap) (locs : List Loc) (ls : Array Slot), k121 σ x2 x3 x5 x6 x7 x8 → rf_T P s (rf_A o ad) o ad σ H locs → lv_has ls 9 [(0, .ref o), (2, .int x2), (3, .int x3), (5, .int x5), (6, .int x6), (7, .int x7), (8, .int x8)] → W p l e rm_X12_like s m args below meth c H locs 0 0 (MQ below (rf_Qi P o ad post) args s 0 0 (rf_A o ad)) (F0 m 121 ls [])) (σ : rf_S) (x2 : Int32) (x3 : Int32) (x5 : Int32) (x6 : Int32) (x7 : Int32) (x8 : Int32) (y1 : Int32) (H : Heap) (locs : List Loc) (ls : Array Slot) (h : w_X12_like_167 post k42 k121 σ x2 x3 x5 x6 x7 x8 y1) (hT : rf_T P s (rf_A o ad) o ad σ H locs) (hl : lv_has ls 9 [(0, .ref o), (2, .int x2), (3, .int x3), (5, .int x5), (6, .int x6), (7, .int x7), (8, .int x8)]) : W p l e rm_X12_like s m args below meth c H locs 0 0 (MQ below (rf_Qi P o ad post) args s 0 0 (rf_A o ad)) (F0 m 167 ls [.int y1, .ref (ad 62)]) := by
  obtain ⟨hx, hb, hml, hown, hK, -, -⟩ := id hC
  refine lv_iconst (v := 1) hx hb dX12_like_167 (by decide) ?_
  refine lv_goto (tgt := 172) hx hb dX12_like_168 (by decide) ?_
  exact t_X12_like_172 hC hk42 hk121 σ x2 x3 x5 x6 x7 x8 y1 1 _ _ _ h hT (lv_sub hl [0, 1, 2, 3, 4, 5, 6] rfl)
end
def w_X12_like_121 (post : Int32 → rf_S → Prop) (k42 : rf_S → Int32 → Int32 → Int32 → Int32 → Prop) : Nat → rf_S → Int32 → Int32 → Int32 → Int32 → Int32 → Int32 → Prop
  | 0, _, _, _, _, _, _, _ => False
  | n + 1, σ, x2, x3, x5, x6, x7, x8 => (x8 ≤ 0 → vp_in 0 (rf_n 62) ∧ w_X12_like_186 post k42 (rf_ua σ 62 (0 : Int32).toNatClampNeg (vp_nar .boolean 0)) x2 x3 x5 x6) ∧ (¬ x8 ≤ 0 → vp_in (x8 - 1) (rf_n 62) ∧ ((σ.2.2.1 62 (x8 - 1).toNatClampNeg) = 0 → w_X12_like_171 post k42 (w_X12_like_121 post k42 n) σ x2 x3 x5 x6 x7 x8 x8) ∧ (¬ (σ.2.2.1 62 (x8 - 1).toNatClampNeg) = 0 → (x7 = 63 → w_X12_like_167 post k42 (w_X12_like_121 post k42 n) σ x2 x3 x5 x6 x7 x8 x8) ∧ (¬ x7 = 63 → vp_in ((x3 + x8) - 1) (rf_n 18) ∧ (¬ (σ.2.2.1 18 ((x3 + x8) - 1).toNatClampNeg) = x7 → w_X12_like_171 post k42 (w_X12_like_121 post k42 n) σ x2 x3 x5 x6 x7 x8 x8) ∧ ((σ.2.2.1 18 ((x3 + x8) - 1).toNatClampNeg) = x7 → w_X12_like_167 post k42 (w_X12_like_121 post k42 n) σ x2 x3 x5 x6 x7 x8 x8))))
section
variable {p : Program} {l : Launch} {e : Env} {s : State} {m : MethodId} {args : Array Value} {below : List Frame} {meth : Method} {c : Code} {P : hw_G} {o : Nat} {ad : Nat → Nat}
set_option maxRecDepth 100000 in
set_option maxHeartbeats 4000000 in
theorem t_X12_like_121 {post : Int32 → rf_S → Prop} {k42 : rf_S → Int32 → Int32 → Int32 → Int32 → Prop} (hC : rf_C P RX12 p s m meth c cX12_like 9 (some .boolean)) (hk42 : ∀ (σ : rf_S) (x2 : Int32) (x3 : Int32) (x5 : Int32) (x6 : Int32) (H : Heap) (locs : List Loc) (ls : Array Slot), k42 σ x2 x3 x5 x6 → rf_T P s (rf_A o ad) o ad σ H locs → lv_has ls 9 [(0, .ref o), (2, .int x2), (3, .int x3), (5, .int x5), (6, .int x6)] → W p l e rm_X12_like s m args below meth c H locs 0 0 (MQ below (rf_Qi P o ad post) args s 0 0 (rf_A o ad)) (F0 m 42 ls [])) : ∀ (n : Nat) (σ : rf_S) (x2 : Int32) (x3 : Int32) (x5 : Int32) (x6 : Int32) (x7 : Int32) (x8 : Int32) (H : Heap) (locs : List Loc) (ls : Array Slot), w_X12_like_121 post k42 n σ x2 x3 x5 x6 x7 x8 → rf_T P s (rf_A o ad) o ad σ H locs → lv_has ls 9 [(0, .ref o), (2, .int x2), (3, .int x3), (5, .int x5), (6, .int x6), (7, .int x7), (8, .int x8)] → W p l e rm_X12_like s m args below meth c H locs 0 0 (MQ below (rf_Qi P o ad post) args s 0 0 (rf_A o ad)) (F0 m 121 ls []) := by
  obtain ⟨hx, hb, hml, hown, hK, -, -⟩ := id hC
  intro n
  induction n with
  | zero => intro σ x2 x3 x5 x6 x7 x8 H locs ls h; exact False.elim h
  | succ n ih =>
    intro σ x2 x3 x5 x6 x7 x8 H locs ls h hT hl
    refine lv_iload hx hb dX12_like_121 (lv_at hl 6 rfl) ?_
    refine lv_if_le (tgt := 179) hx hb dX12_like_123 (by decide) (fun hc => ?_) (fun hc => ?_)
    · have h := h.1 hc
      refine lv_aload_n hx hb dX12_like_179 rfl (lv_at hl 0 rfl) ?_
      refine rf_get hx hb hK hT hown 62 (by decide) kfX12_256 (v := .ref (ad 62)) rfl dX12_like_180 ?_
      refine lv_iconst (v := 0) hx hb dX12_like_183 (by decide) ?_
      refine lv_iconst (v := 0) hx hb dX12_like_184 (by decide) ?_
      obtain ⟨hi, h⟩ := h
      refine rf_zast hx hb hK hT 62 (by decide) rfl hi dX12_like_185 (fun H locs hT => ?_)
      exact t_X12_like_186 hC hk42 (rf_ua σ 62 (0 : Int32).toNatClampNeg (vp_nar .boolean 0)) x2 x3 x5 x6 _ _ _ h hT (lv_sub hl [0, 1, 2, 3, 4] rfl)
    · have h := h.2 hc
      refine lv_aload_n hx hb dX12_like_126 rfl (lv_at hl 0 rfl) ?_
      refine rf_get hx hb hK hT hown 62 (by decide) kfX12_256 (v := .ref (ad 62)) rfl dX12_like_127 ?_
      refine lv_iload hx hb dX12_like_130 (lv_at hl 6 rfl) ?_
      refine lv_aload_n hx hb dX12_like_132 rfl (lv_at hl 0 rfl) ?_
      refine rf_get hx hb hK hT hown 62 (by decide) kfX12_256 (v := .ref (ad 62)) rfl dX12_like_133 ?_
      refine lv_iload hx hb dX12_like_136 (lv_at hl 6 rfl) ?_
      refine lv_iconst (v := 1) hx hb dX12_like_138 (by decide) ?_
      refine lv_isub hx hb dX12_like_139 ?_
      obtain ⟨hi, h⟩ := h
      refine rf_zald hx hb hK hT 62 (by decide) rfl hi (v := σ.2.2.1 62 (x8 - 1).toNatClampNeg) rfl dX12_like_140 ?_
      refine lv_if_eq (tgt := 171) hx hb dX12_like_141 (by decide) (fun hc => ?_) (fun hc => ?_)
      · have h := h.1 hc
        exact t_X12_like_171 hC hk42 ih σ x2 x3 x5 x6 x7 x8 x8 _ _ _ h hT (lv_sub hl [0, 1, 2, 3, 4, 5, 6] rfl)
      · have h := h.2 hc
        refine lv_iload hx hb dX12_like_144 (lv_at hl 5 rfl) ?_
        refine lv_bipush (v := 63) hx hb dX12_like_146 (by decide) ?_
        refine lv_icmp_eq (tgt := 167) hx hb dX12_like_148 (by decide) (fun hc => ?_) (fun hc => ?_)
        · have h := h.1 hc
          exact t_X12_like_167 hC hk42 ih σ x2 x3 x5 x6 x7 x8 x8 _ _ _ h hT (lv_sub hl [0, 1, 2, 3, 4, 5, 6] rfl)
        · have h := h.2 hc
          refine lv_aload_n hx hb dX12_like_151 rfl (lv_at hl 0 rfl) ?_
          refine rf_get hx hb hK hT hown 18 (by decide) kfX12_34 (v := .ref (ad 18)) rfl dX12_like_152 ?_
          refine lv_iload_n hx hb dX12_like_155 rfl (lv_at hl 2 rfl) ?_
          refine lv_iload hx hb dX12_like_156 (lv_at hl 6 rfl) ?_
          refine lv_iadd hx hb dX12_like_158 ?_
          refine lv_iconst (v := 1) hx hb dX12_like_159 (by decide) ?_
          refine lv_isub hx hb dX12_like_160 ?_
          obtain ⟨hi, h⟩ := h
          refine rf_bald hx hb hK hT 18 (by decide) rfl hi (v := σ.2.2.1 18 ((x3 + x8) - 1).toNatClampNeg) rfl dX12_like_161 ?_
          refine lv_iload hx hb dX12_like_162 (lv_at hl 5 rfl) ?_
          refine lv_icmp_ne (tgt := 171) hx hb dX12_like_164 (by decide) (fun hc => ?_) (fun hc => ?_)
          · have h := h.1 hc
            exact t_X12_like_171 hC hk42 ih σ x2 x3 x5 x6 x7 x8 x8 _ _ _ h hT (lv_sub hl [0, 1, 2, 3, 4, 5, 6] rfl)
          · have h := h.2 hc
            exact t_X12_like_167 hC hk42 ih σ x2 x3 x5 x6 x7 x8 x8 _ _ _ h hT (lv_sub hl [0, 1, 2, 3, 4, 5, 6] rfl)
end
def w_X12_like_107 (post : Int32 → rf_S → Prop) (k42 : rf_S → Int32 → Int32 → Int32 → Int32 → Prop) (k67 : rf_S → Int32 → Int32 → Int32 → Int32 → Int32 → Prop) (σ : rf_S) (x2 : Int32) (x3 : Int32) (x5 : Int32) (x6 : Int32) (x8 : Int32) (y1 : Int32) (y2 : Int32) : Prop := vp_in y1 (rf_n 62) ∧ k67 (rf_ua σ 62 y1.toNatClampNeg (vp_nar .boolean y2)) x2 x3 x5 x6 (x8 + 1)
section
variable {p : Program} {l : Launch} {e : Env} {s : State} {m : MethodId} {args : Array Value} {below : List Frame} {meth : Method} {c : Code} {P : hw_G} {o : Nat} {ad : Nat → Nat}
set_option maxRecDepth 100000 in
set_option maxHeartbeats 4000000 in
theorem t_X12_like_107 {post : Int32 → rf_S → Prop} {k42 : rf_S → Int32 → Int32 → Int32 → Int32 → Prop} {k67 : rf_S → Int32 → Int32 → Int32 → Int32 → Int32 → Prop} (hC : rf_C P RX12 p s m meth c cX12_like 9 (some .boolean)) (hk42 : ∀ (σ : rf_S) (x2 : Int32) (x3 : Int32) (x5 : Int32) (x6 : Int32) (H : Heap) (locs : List Loc) (ls : Array Slot), k42 σ x2 x3 x5 x6 → rf_T P s (rf_A o ad) o ad σ H locs → lv_has ls 9 [(0, .ref o), (2, .int x2), (3, .int x3), (5, .int x5), (6, .int x6)] → W p l e rm_X12_like s m args below meth c H locs 0 0 (MQ below (rf_Qi P o ad post) args s 0 0 (rf_A o ad)) (F0 m 42 ls [])) (hk67 : ∀ (σ : rf_S) (x2 : Int32) (x3 : Int32) (x5 : Int32) (x6 : Int32) (x8 : Int32) (H : Heap) (locs : List Loc) (ls : Array Slot), k67 σ x2 x3 x5 x6 x8 → rf_T P s (rf_A o ad) o ad σ H locs → lv_has ls 9 [(0, .ref o), (2, .int x2), (3, .int x3), (5, .int x5), (6, .int x6), (8, .int x8)] → W p l e rm_X12_like s m args below meth c H locs 0 0 (MQ below (rf_Qi P o ad post) args s 0 0 (rf_A o ad)) (F0 m 67 ls [])) (σ : rf_S) (x2 : Int32) (x3 : Int32) (x5 : Int32) (x6 : Int32) (x8 : Int32) (y1 : Int32) (y2 : Int32) (H : Heap) (locs : List Loc) (ls : Array Slot) (h : w_X12_like_107 post k42 k67 σ x2 x3 x5 x6 x8 y1 y2) (hT : rf_T P s (rf_A o ad) o ad σ H locs) (hl : lv_has ls 9 [(0, .ref o), (2, .int x2), (3, .int x3), (5, .int x5), (6, .int x6), (8, .int x8)]) : W p l e rm_X12_like s m args below meth c H locs 0 0 (MQ below (rf_Qi P o ad post) args s 0 0 (rf_A o ad)) (F0 m 107 ls [.int y2, .int y1, .ref (ad 62)]) := by
  obtain ⟨hx, hb, hml, hown, hK, -, -⟩ := id hC
  obtain ⟨hi, h⟩ := h
  refine rf_zast hx hb hK hT 62 (by decide) rfl hi dX12_like_107 (fun H locs hT => ?_)
  refine lv_iinc (v := x8 + 1) (lv' := [(8, _), (0, _), (2, _), (3, _), (5, _), (6, _)]) hx hb dX12_like_108 hl (k := 5) rfl rfl (by decide) rfl (fun ls hl => ?_)
  refine lv_goto (tgt := 67) hx hb dX12_like_111 (by decide) ?_
  exact hk67 (rf_ua σ 62 y1.toNatClampNeg (vp_nar .boolean y2)) x2 x3 x5 x6 (x8 + 1) _ _ _ h hT (lv_sub hl [1, 2, 3, 4, 5, 0] rfl)
end
def w_X12_like_102 (post : Int32 → rf_S → Prop) (k42 : rf_S → Int32 → Int32 → Int32 → Int32 → Prop) (k67 : rf_S → Int32 → Int32 → Int32 → Int32 → Int32 → Prop) (σ : rf_S) (x2 : Int32) (x3 : Int32) (x5 : Int32) (x6 : Int32) (x8 : Int32) (y1 : Int32) : Prop := w_X12_like_107 post k42 k67 σ x2 x3 x5 x6 x8 y1 1
section
variable {p : Program} {l : Launch} {e : Env} {s : State} {m : MethodId} {args : Array Value} {below : List Frame} {meth : Method} {c : Code} {P : hw_G} {o : Nat} {ad : Nat → Nat}
set_option maxRecDepth 100000 in
set_option maxHeartbeats 4000000 in
theorem t_X12_like_102 {post : Int32 → rf_S → Prop} {k42 : rf_S → Int32 → Int32 → Int32 → Int32 → Prop} {k67 : rf_S → Int32 → Int32 → Int32 → Int32 → Int32 → Prop} (hC : rf_C P RX12 p s m meth c cX12_like 9 (some .boolean)) (hk42 : ∀ (σ : rf_S) (x2 : Int32) (x3 : Int32) (x5 : Int32) (x6 : Int32) (H : Heap) (locs : List Loc) (ls : Array Slot), k42 σ x2 x3 x5 x6 → rf_T P s (rf_A o ad) o ad σ H locs → lv_has ls 9 [(0, .ref o), (2, .int x2), (3, .int x3), (5, .int x5), (6, .int x6)] → W p l e rm_X12_like s m args below meth c H locs 0 0 (MQ below (rf_Qi P o ad post) args s 0 0 (rf_A o ad)) (F0 m 42 ls [])) (hk67 : ∀ (σ : rf_S) (x2 : Int32) (x3 : Int32) (x5 : Int32) (x6 : Int32) (x8 : Int32) (H : Heap) (locs : List Loc) (ls : Array Slot), k67 σ x2 x3 x5 x6 x8 → rf_T P s (rf_A o ad) o ad σ H locs → lv_has ls 9 [(0, .ref o), (2, .int x2), (3, .int x3), (5, .int x5), (6, .int x6), (8, .int x8)] → W p l e rm_X12_like s m args below meth c H locs 0 0 (MQ below (rf_Qi P o ad post) args s 0 0 (rf_A o ad)) (F0 m 67 ls [])) (σ : rf_S) (x2 : Int32) (x3 : Int32) (x5 : Int32) (x6 : Int32) (x8 : Int32) (y1 : Int32) (H : Heap) (locs : List Loc) (ls : Array Slot) (h : w_X12_like_102 post k42 k67 σ x2 x3 x5 x6 x8 y1) (hT : rf_T P s (rf_A o ad) o ad σ H locs) (hl : lv_has ls 9 [(0, .ref o), (2, .int x2), (3, .int x3), (5, .int x5), (6, .int x6), (8, .int x8)]) : W p l e rm_X12_like s m args below meth c H locs 0 0 (MQ below (rf_Qi P o ad post) args s 0 0 (rf_A o ad)) (F0 m 102 ls [.int y1, .ref (ad 62)]) := by
  obtain ⟨hx, hb, hml, hown, hK, -, -⟩ := id hC
  refine lv_iconst (v := 1) hx hb dX12_like_102 (by decide) ?_
  refine lv_goto (tgt := 107) hx hb dX12_like_103 (by decide) ?_
  exact t_X12_like_107 hC hk42 hk67 σ x2 x3 x5 x6 x8 y1 1 _ _ _ h hT (lv_sub hl [0, 1, 2, 3, 4, 5] rfl)
end
def w_X12_like_67 (post : Int32 → rf_S → Prop) (k42 : rf_S → Int32 → Int32 → Int32 → Int32 → Prop) : Nat → rf_S → Int32 → Int32 → Int32 → Int32 → Int32 → Prop
  | 0, _, _, _, _, _, _ => False
  | n + 1, σ, x2, x3, x5, x6, x8 => (x5 < x8 → w_X12_like_186 post k42 σ x2 x3 x5 x6) ∧ (¬ x5 < x8 → vp_in x8 (rf_n 62) ∧ (¬ (σ.2.2.1 62 x8.toNatClampNeg) = 0 → w_X12_like_102 post k42 (w_X12_like_67 post k42 n) σ x2 x3 x5 x6 x8 x8) ∧ ((σ.2.2.1 62 x8.toNatClampNeg) = 0 → vp_in (x8 - 1) (rf_n 62) ∧ ((σ.2.2.1 62 (x8 - 1).toNatClampNeg) = 0 → w_X12_like_107 post k42 (w_X12_like_67 post k42 n) σ x2 x3 x5 x6 x8 x8 0) ∧ (¬ (σ.2.2.1 62 (x8 - 1).toNatClampNeg) = 0 → w_X12_like_102 post k42 (w_X12_like_67 post k42 n) σ x2 x3 x5 x6 x8 x8)))
section
variable {p : Program} {l : Launch} {e : Env} {s : State} {m : MethodId} {args : Array Value} {below : List Frame} {meth : Method} {c : Code} {P : hw_G} {o : Nat} {ad : Nat → Nat}
set_option maxRecDepth 100000 in
set_option maxHeartbeats 4000000 in
theorem t_X12_like_67 {post : Int32 → rf_S → Prop} {k42 : rf_S → Int32 → Int32 → Int32 → Int32 → Prop} (hC : rf_C P RX12 p s m meth c cX12_like 9 (some .boolean)) (hk42 : ∀ (σ : rf_S) (x2 : Int32) (x3 : Int32) (x5 : Int32) (x6 : Int32) (H : Heap) (locs : List Loc) (ls : Array Slot), k42 σ x2 x3 x5 x6 → rf_T P s (rf_A o ad) o ad σ H locs → lv_has ls 9 [(0, .ref o), (2, .int x2), (3, .int x3), (5, .int x5), (6, .int x6)] → W p l e rm_X12_like s m args below meth c H locs 0 0 (MQ below (rf_Qi P o ad post) args s 0 0 (rf_A o ad)) (F0 m 42 ls [])) : ∀ (n : Nat) (σ : rf_S) (x2 : Int32) (x3 : Int32) (x5 : Int32) (x6 : Int32) (x8 : Int32) (H : Heap) (locs : List Loc) (ls : Array Slot), w_X12_like_67 post k42 n σ x2 x3 x5 x6 x8 → rf_T P s (rf_A o ad) o ad σ H locs → lv_has ls 9 [(0, .ref o), (2, .int x2), (3, .int x3), (5, .int x5), (6, .int x6), (8, .int x8)] → W p l e rm_X12_like s m args below meth c H locs 0 0 (MQ below (rf_Qi P o ad post) args s 0 0 (rf_A o ad)) (F0 m 67 ls []) := by
  obtain ⟨hx, hb, hml, hown, hK, -, -⟩ := id hC
  intro n
  induction n with
  | zero => intro σ x2 x3 x5 x6 x8 H locs ls h; exact False.elim h
  | succ n ih =>
    intro σ x2 x3 x5 x6 x8 H locs ls h hT hl
    refine lv_iload hx hb dX12_like_67 (lv_at hl 5 rfl) ?_
    refine lv_iload hx hb dX12_like_69 (lv_at hl 3 rfl) ?_
    refine lv_icmp_gt (tgt := 114) hx hb dX12_like_71 (by decide) (fun hc => ?_) (fun hc => ?_)
    · have h := h.1 hc
      refine lv_goto (tgt := 186) hx hb dX12_like_114 (by decide) ?_
      exact t_X12_like_186 hC hk42 σ x2 x3 x5 x6 _ _ _ h hT (lv_sub hl [0, 1, 2, 3, 4] rfl)
    · have h := h.2 hc
      refine lv_aload_n hx hb dX12_like_74 rfl (lv_at hl 0 rfl) ?_
      refine rf_get hx hb hK hT hown 62 (by decide) kfX12_256 (v := .ref (ad 62)) rfl dX12_like_75 ?_
      refine lv_iload hx hb dX12_like_78 (lv_at hl 5 rfl) ?_
      refine lv_aload_n hx hb dX12_like_80 rfl (lv_at hl 0 rfl) ?_
      refine rf_get hx hb hK hT hown 62 (by decide) kfX12_256 (v := .ref (ad 62)) rfl dX12_like_81 ?_
      refine lv_iload hx hb dX12_like_84 (lv_at hl 5 rfl) ?_
      obtain ⟨hi, h⟩ := h
      refine rf_zald hx hb hK hT 62 (by decide) rfl hi (v := σ.2.2.1 62 x8.toNatClampNeg) rfl dX12_like_86 ?_
      refine lv_if_ne (tgt := 102) hx hb dX12_like_87 (by decide) (fun hc => ?_) (fun hc => ?_)
      · have h := h.1 hc
        exact t_X12_like_102 hC hk42 ih σ x2 x3 x5 x6 x8 x8 _ _ _ h hT (lv_sub hl [0, 1, 2, 3, 4, 5] rfl)
      · have h := h.2 hc
        refine lv_aload_n hx hb dX12_like_90 rfl (lv_at hl 0 rfl) ?_
        refine rf_get hx hb hK hT hown 62 (by decide) kfX12_256 (v := .ref (ad 62)) rfl dX12_like_91 ?_
        refine lv_iload hx hb dX12_like_94 (lv_at hl 5 rfl) ?_
        refine lv_iconst (v := 1) hx hb dX12_like_96 (by decide) ?_
        refine lv_isub hx hb dX12_like_97 ?_
        obtain ⟨hi, h⟩ := h
        refine rf_zald hx hb hK hT 62 (by decide) rfl hi (v := σ.2.2.1 62 (x8 - 1).toNatClampNeg) rfl dX12_like_98 ?_
        refine lv_if_eq (tgt := 106) hx hb dX12_like_99 (by decide) (fun hc => ?_) (fun hc => ?_)
        · have h := h.1 hc
          refine lv_iconst (v := 0) hx hb dX12_like_106 (by decide) ?_
          exact t_X12_like_107 hC hk42 ih σ x2 x3 x5 x6 x8 x8 0 _ _ _ h hT (lv_sub hl [0, 1, 2, 3, 4, 5] rfl)
        · have h := h.2 hc
          exact t_X12_like_102 hC hk42 ih σ x2 x3 x5 x6 x8 x8 _ _ _ h hT (lv_sub hl [0, 1, 2, 3, 4, 5] rfl)
end
def w_X12_like_42 (post : Int32 → rf_S → Prop) : Nat → rf_S → Int32 → Int32 → Int32 → Int32 → Prop
  | 0, _, _, _, _, _ => False
  | n + 1, σ, x2, x3, x5, x6 => (x2 ≤ x6 → vp_in x5 (rf_n 62) ∧ narrow .boolean (.int (σ.2.2.1 62 x5.toNatClampNeg)) = .int (σ.2.2.1 62 x5.toNatClampNeg) ∧ post (σ.2.2.1 62 x5.toNatClampNeg) σ) ∧ (¬ x2 ≤ x6 → vp_in x6 (rf_n 46) ∧ (¬ (σ.2.2.1 46 x6.toNatClampNeg) = 42 → ∃ n9, w_X12_like_121 post (w_X12_like_42 post n) n9 σ x2 x3 x5 x6 (σ.2.2.1 46 x6.toNatClampNeg) x5) ∧ ((σ.2.2.1 46 x6.toNatClampNeg) = 42 → ∃ n9, w_X12_like_67 post (w_X12_like_42 post n) n9 σ x2 x3 x5 x6 1))
section
variable {p : Program} {l : Launch} {e : Env} {s : State} {m : MethodId} {args : Array Value} {below : List Frame} {meth : Method} {c : Code} {P : hw_G} {o : Nat} {ad : Nat → Nat}
set_option maxRecDepth 100000 in
set_option maxHeartbeats 4000000 in
theorem t_X12_like_42 {post : Int32 → rf_S → Prop} (hC : rf_C P RX12 p s m meth c cX12_like 9 (some .boolean)) : ∀ (n : Nat) (σ : rf_S) (x2 : Int32) (x3 : Int32) (x5 : Int32) (x6 : Int32) (H : Heap) (locs : List Loc) (ls : Array Slot), w_X12_like_42 post n σ x2 x3 x5 x6 → rf_T P s (rf_A o ad) o ad σ H locs → lv_has ls 9 [(0, .ref o), (2, .int x2), (3, .int x3), (5, .int x5), (6, .int x6)] → W p l e rm_X12_like s m args below meth c H locs 0 0 (MQ below (rf_Qi P o ad post) args s 0 0 (rf_A o ad)) (F0 m 42 ls []) := by
  obtain ⟨hx, hb, hml, hown, hK, -, -⟩ := id hC
  intro n
  induction n with
  | zero => intro σ x2 x3 x5 x6 H locs ls h; exact False.elim h
  | succ n ih =>
    intro σ x2 x3 x5 x6 H locs ls h hT hl
    refine lv_iload hx hb dX12_like_42 (lv_at hl 4 rfl) ?_
    refine lv_iload_n hx hb dX12_like_44 rfl (lv_at hl 1 rfl) ?_
    refine lv_icmp_ge (tgt := 192) hx hb dX12_like_45 (by decide) (fun hc => ?_) (fun hc => ?_)
    · have h := h.1 hc
      refine lv_aload_n hx hb dX12_like_192 rfl (lv_at hl 0 rfl) ?_
      refine rf_get hx hb hK hT hown 62 (by decide) kfX12_256 (v := .ref (ad 62)) rfl dX12_like_193 ?_
      refine lv_iload hx hb dX12_like_196 (lv_at hl 3 rfl) ?_
      obtain ⟨hi, h⟩ := h
      refine rf_zald hx hb hK hT 62 (by decide) rfl hi (v := σ.2.2.1 62 x5.toNatClampNeg) rfl dX12_like_198 ?_
      exact rf_zret hC hT h.1 h.2 dX12_like_199
    · have h := h.2 hc
      refine lv_aload_n hx hb dX12_like_48 rfl (lv_at hl 0 rfl) ?_
      refine rf_get hx hb hK hT hown 46 (by decide) kfX12_232 (v := .ref (ad 46)) rfl dX12_like_49 ?_
      refine lv_iload hx hb dX12_like_52 (lv_at hl 4 rfl) ?_
      obtain ⟨hi, h⟩ := h
      refine rf_bald hx hb hK hT 46 (by decide) rfl hi (v := σ.2.2.1 46 x6.toNatClampNeg) rfl dX12_like_54 ?_
      refine lv_istore (lv' := [(7, _), (0, _), (2, _), (3, _), (5, _), (6, _)]) hx hb dX12_like_55 hl (by decide) rfl (fun ls hl => ?_)
      refine lv_iload hx hb dX12_like_57 (lv_at hl 0 rfl) ?_
      refine lv_bipush (v := 42) hx hb dX12_like_59 (by decide) ?_
      refine lv_icmp_ne (tgt := 117) hx hb dX12_like_61 (by decide) (fun hc => ?_) (fun hc => ?_)
      · have h := h.1 hc
        refine lv_iload hx hb dX12_like_117 (lv_at hl 4 rfl) ?_
        refine lv_istore (lv' := [(8, _), (7, _), (0, _), (2, _), (3, _), (5, _), (6, _)]) hx hb dX12_like_119 hl (by decide) rfl (fun ls hl => ?_)
        obtain ⟨n9, h⟩ := h
        exact t_X12_like_121 hC ih n9 σ x2 x3 x5 x6 (σ.2.2.1 46 x6.toNatClampNeg) x5 _ _ _ h hT (lv_sub hl [2, 3, 4, 5, 6, 1, 0] rfl)
      · have h := h.2 hc
        refine lv_iconst (v := 1) hx hb dX12_like_64 (by decide) ?_
        refine lv_istore (lv' := [(8, _), (7, _), (0, _), (2, _), (3, _), (5, _), (6, _)]) hx hb dX12_like_65 hl (by decide) rfl (fun ls hl => ?_)
        obtain ⟨n9, h⟩ := h
        exact t_X12_like_67 hC ih n9 σ x2 x3 x5 x6 1 _ _ _ h hT (lv_sub hl [2, 3, 4, 5, 6, 0] rfl)
end
def w_X12_like_32 (post : Int32 → rf_S → Prop) (k9 : rf_S → Int32 → Int32 → Int32 → Int32 → Int32 → Prop) (σ : rf_S) (x1 : Int32) (x2 : Int32) (x3 : Int32) (x5 : Int32) (x6 : Int32) (y1 : Int32) (y2 : Int32) : Prop := vp_in y1 (rf_n 62) ∧ k9 (rf_ua σ 62 y1.toNatClampNeg (vp_nar .boolean y2)) x1 x2 x3 x5 (x6 + 1)
section
variable {p : Program} {l : Launch} {e : Env} {s : State} {m : MethodId} {args : Array Value} {below : List Frame} {meth : Method} {c : Code} {P : hw_G} {o : Nat} {ad : Nat → Nat}
set_option maxRecDepth 100000 in
set_option maxHeartbeats 4000000 in
theorem t_X12_like_32 {post : Int32 → rf_S → Prop} {k9 : rf_S → Int32 → Int32 → Int32 → Int32 → Int32 → Prop} (hC : rf_C P RX12 p s m meth c cX12_like 9 (some .boolean)) (hk9 : ∀ (σ : rf_S) (x1 : Int32) (x2 : Int32) (x3 : Int32) (x5 : Int32) (x6 : Int32) (H : Heap) (locs : List Loc) (ls : Array Slot), k9 σ x1 x2 x3 x5 x6 → rf_T P s (rf_A o ad) o ad σ H locs → lv_has ls 9 [(0, .ref o), (1, .int x1), (2, .int x2), (3, .int x3), (5, .int x5), (6, .int x6)] → W p l e rm_X12_like s m args below meth c H locs 0 0 (MQ below (rf_Qi P o ad post) args s 0 0 (rf_A o ad)) (F0 m 9 ls [])) (σ : rf_S) (x1 : Int32) (x2 : Int32) (x3 : Int32) (x5 : Int32) (x6 : Int32) (y1 : Int32) (y2 : Int32) (H : Heap) (locs : List Loc) (ls : Array Slot) (h : w_X12_like_32 post k9 σ x1 x2 x3 x5 x6 y1 y2) (hT : rf_T P s (rf_A o ad) o ad σ H locs) (hl : lv_has ls 9 [(0, .ref o), (1, .int x1), (2, .int x2), (3, .int x3), (5, .int x5), (6, .int x6)]) : W p l e rm_X12_like s m args below meth c H locs 0 0 (MQ below (rf_Qi P o ad post) args s 0 0 (rf_A o ad)) (F0 m 32 ls [.int y2, .int y1, .ref (ad 62)]) := by
  obtain ⟨hx, hb, hml, hown, hK, -, -⟩ := id hC
  obtain ⟨hi, h⟩ := h
  refine rf_zast hx hb hK hT 62 (by decide) rfl hi dX12_like_32 (fun H locs hT => ?_)
  refine lv_iinc (v := x6 + 1) (lv' := [(6, _), (0, _), (1, _), (2, _), (3, _), (5, _)]) hx hb dX12_like_33 hl (k := 5) rfl rfl (by decide) rfl (fun ls hl => ?_)
  refine lv_goto (tgt := 9) hx hb dX12_like_36 (by decide) ?_
  exact hk9 (rf_ua σ 62 y1.toNatClampNeg (vp_nar .boolean y2)) x1 x2 x3 x5 (x6 + 1) _ _ _ h hT (lv_sub hl [1, 2, 3, 4, 5, 0] rfl)
end
def w_X12_like_9 (post : Int32 → rf_S → Prop) : Nat → rf_S → Int32 → Int32 → Int32 → Int32 → Int32 → Prop
  | 0, _, _, _, _, _, _ => False
  | n + 1, σ, x1, x2, x3, x5, x6 => (x5 < x6 → ∃ n9, w_X12_like_42 post n9 σ x2 x3 x5 x1) ∧ (¬ x5 < x6 → (¬ x6 = 0 → w_X12_like_32 post (w_X12_like_9 post n) σ x1 x2 x3 x5 x6 x6 0) ∧ (x6 = 0 → w_X12_like_32 post (w_X12_like_9 post n) σ x1 x2 x3 x5 x6 x6 1))
section
variable {p : Program} {l : Launch} {e : Env} {s : State} {m : MethodId} {args : Array Value} {below : List Frame} {meth : Method} {c : Code} {P : hw_G} {o : Nat} {ad : Nat → Nat}
set_option maxRecDepth 100000 in
set_option maxHeartbeats 4000000 in
theorem t_X12_like_9 {post : Int32 → rf_S → Prop} (hC : rf_C P RX12 p s m meth c cX12_like 9 (some .boolean)) : ∀ (n : Nat) (σ : rf_S) (x1 : Int32) (x2 : Int32) (x3 : Int32) (x5 : Int32) (x6 : Int32) (H : Heap) (locs : List Loc) (ls : Array Slot), w_X12_like_9 post n σ x1 x2 x3 x5 x6 → rf_T P s (rf_A o ad) o ad σ H locs → lv_has ls 9 [(0, .ref o), (1, .int x1), (2, .int x2), (3, .int x3), (5, .int x5), (6, .int x6)] → W p l e rm_X12_like s m args below meth c H locs 0 0 (MQ below (rf_Qi P o ad post) args s 0 0 (rf_A o ad)) (F0 m 9 ls []) := by
  obtain ⟨hx, hb, hml, hown, hK, -, -⟩ := id hC
  intro n
  induction n with
  | zero => intro σ x1 x2 x3 x5 x6 H locs ls h; exact False.elim h
  | succ n ih =>
    intro σ x1 x2 x3 x5 x6 H locs ls h hT hl
    refine lv_iload hx hb dX12_like_9 (lv_at hl 5 rfl) ?_
    refine lv_iload hx hb dX12_like_11 (lv_at hl 4 rfl) ?_
    refine lv_icmp_gt (tgt := 39) hx hb dX12_like_13 (by decide) (fun hc => ?_) (fun hc => ?_)
    · have h := h.1 hc
      refine lv_iload_n hx hb dX12_like_39 rfl (lv_at hl 1 rfl) ?_
      refine lv_istore (lv' := [(6, _), (0, _), (1, _), (2, _), (3, _), (5, _)]) hx hb dX12_like_40 hl (by decide) rfl (fun ls hl => ?_)
      obtain ⟨n9, h⟩ := h
      exact t_X12_like_42 hC n9 σ x2 x3 x5 x1 _ _ _ h hT (lv_sub hl [1, 3, 4, 5, 0] rfl)
    · have h := h.2 hc
      refine lv_aload_n hx hb dX12_like_16 rfl (lv_at hl 0 rfl) ?_
      refine rf_get hx hb hK hT hown 62 (by decide) kfX12_256 (v := .ref (ad 62)) rfl dX12_like_17 ?_
      refine lv_iload hx hb dX12_like_20 (lv_at hl 5 rfl) ?_
      refine lv_iload hx hb dX12_like_22 (lv_at hl 5 rfl) ?_
      refine lv_if_ne (tgt := 31) hx hb dX12_like_24 (by decide) (fun hc => ?_) (fun hc => ?_)
      · have h := h.1 hc
        refine lv_iconst (v := 0) hx hb dX12_like_31 (by decide) ?_
        exact t_X12_like_32 hC ih σ x1 x2 x3 x5 x6 x6 0 _ _ _ h hT (lv_sub hl [0, 1, 2, 3, 4, 5] rfl)
      · have h := h.2 hc
        refine lv_iconst (v := 1) hx hb dX12_like_27 (by decide) ?_
        refine lv_goto (tgt := 32) hx hb dX12_like_28 (by decide) ?_
        exact t_X12_like_32 hC ih σ x1 x2 x3 x5 x6 x6 1 _ _ _ h hT (lv_sub hl [0, 1, 2, 3, 4, 5] rfl)
end
def wp_X12_like (post : Int32 → rf_S → Prop) (σ : rf_S) (p1 : Int32) (p2 : Int32) (p3 : Int32) (p4 : Int32) : Prop := ∃ n9, w_X12_like_9 post n9 σ p1 p2 p3 (p4 - p3) 0
set_option maxRecDepth 100000 in
set_option maxHeartbeats 4000000 in
theorem c_X12_like {l : Launch} {P : hw_G} {o : Nat} {ad : Nat → Nat} {σ : rf_S} {p1 : Int32} {p2 : Int32} {p3 : Int32} {p4 : Int32} {post : Int32 → rf_S → Prop} (h : wp_X12_like post σ p1 p2 p3 p4) : Met l yX12_like [Cond.code yX12_like cX12_like 9 (some .boolean)] rm_X12_like (rf_Pc P o ad σ [.ref o, .int p1, .int p2, .int p3, .int p4]) (rf_Qi P o ad post) 0 0 (rf_A o ad) := by
  refine rf_met (by decide) rfl (Nat.le_of_ble_eq_true rfl) ?_
  intro p e s m below meth c ls hC hT hl
  obtain ⟨hx, hb, hml, hown, hK, -, -⟩ := id hC
  have hl : lv_has ls 9 [(0, .ref o), (1, .int p1), (2, .int p2), (3, .int p3), (4, .int p4)] := hl
  refine lv_iload hx hb dX12_like_0 (lv_at hl 4 rfl) ?_
  refine lv_iload_n hx hb dX12_like_2 rfl (lv_at hl 3 rfl) ?_
  refine lv_isub hx hb dX12_like_3 ?_
  refine lv_istore (lv' := [(5, _), (0, _), (1, _), (2, _), (3, _), (4, _)]) hx hb dX12_like_4 hl (by decide) rfl (fun ls hl => ?_)
  refine lv_iconst (v := 0) hx hb dX12_like_6 (by decide) ?_
  refine lv_istore (lv' := [(6, _), (5, _), (0, _), (1, _), (2, _), (3, _), (4, _)]) hx hb dX12_like_7 hl (by decide) rfl (fun ls hl => ?_)
  obtain ⟨n9, h⟩ := h
  exact t_X12_like_9 hC n9 σ p1 p2 p3 (p4 - p3) 0 _ _ _ h hT (lv_sub hl [2, 3, 4, 5, 1, 0] rfl)
/-! X12_isValue -/
abbrev rm_X12_isValue : Room := { frames := 0, cells := 0, slots := 0, locals := 0 }
def w_X12_isValue_31 (post : Int32 → rf_S → Prop) : Nat → rf_S → Int32 → Int32 → Int32 → Prop
  | 0, _, _, _, _ => False
  | n + 1, σ, x1, x2, x3 => vp_in x2 (rf_n 15) ∧ ((σ.2.2.1 15 x2.toNatClampNeg) ≤ x3 → post 1 σ) ∧ (¬ (σ.2.2.1 15 x2.toNatClampNeg) ≤ x3 → vp_in x2 (rf_n 16) ∧ vp_in ((σ.2.2.1 16 x2.toNatClampNeg) + x3) (rf_n 18) ∧ vp_in x1 (rf_n 48) ∧ vp_in ((σ.2.2.1 48 x1.toNatClampNeg) + x3) (rf_n 46) ∧ ((σ.2.2.1 18 ((σ.2.2.1 16 x2.toNatClampNeg) + x3).toNatClampNeg) = (σ.2.2.1 46 ((σ.2.2.1 48 x1.toNatClampNeg) + x3).toNatClampNeg) → w_X12_isValue_31 post n σ x1 x2 (x3 + 1)) ∧ (¬ (σ.2.2.1 18 ((σ.2.2.1 16 x2.toNatClampNeg) + x3).toNatClampNeg) = (σ.2.2.1 46 ((σ.2.2.1 48 x1.toNatClampNeg) + x3).toNatClampNeg) → post 0 σ))
section
variable {p : Program} {l : Launch} {e : Env} {s : State} {m : MethodId} {args : Array Value} {below : List Frame} {meth : Method} {c : Code} {P : hw_G} {o : Nat} {ad : Nat → Nat}
set_option maxRecDepth 100000 in
set_option maxHeartbeats 4000000 in
theorem t_X12_isValue_31 {post : Int32 → rf_S → Prop} (hC : rf_C P RX12 p s m meth c cX12_isValue 4 (some .boolean)) : ∀ (n : Nat) (σ : rf_S) (x1 : Int32) (x2 : Int32) (x3 : Int32) (H : Heap) (locs : List Loc) (ls : Array Slot), w_X12_isValue_31 post n σ x1 x2 x3 → rf_T P s (rf_A o ad) o ad σ H locs → lv_has ls 4 [(0, .ref o), (1, .int x1), (2, .int x2), (3, .int x3)] → W p l e rm_X12_isValue s m args below meth c H locs 0 0 (MQ below (rf_Qi P o ad post) args s 0 0 (rf_A o ad)) (F0 m 31 ls []) := by
  obtain ⟨hx, hb, hml, hown, hK, -, -⟩ := id hC
  intro n
  induction n with
  | zero => intro σ x1 x2 x3 H locs ls h; exact False.elim h
  | succ n ih =>
    intro σ x1 x2 x3 H locs ls h hT hl
    refine lv_iload_n hx hb dX12_isValue_31 rfl (lv_at hl 3 rfl) ?_
    refine lv_aload_n hx hb dX12_isValue_32 rfl (lv_at hl 0 rfl) ?_
    refine rf_get hx hb hK hT hown 15 (by decide) kfX12_30 (v := .ref (ad 15)) rfl dX12_isValue_33 ?_
    refine lv_iload_n hx hb dX12_isValue_36 rfl (lv_at hl 2 rfl) ?_
    obtain ⟨hi, h⟩ := h
    refine rf_iald hx hb hK hT 15 (by decide) rfl hi (v := σ.2.2.1 15 x2.toNatClampNeg) rfl dX12_isValue_37 ?_
    refine lv_icmp_ge (tgt := 78) hx hb dX12_isValue_38 (by decide) (fun hc => ?_) (fun hc => ?_)
    · have h := h.1 hc
      refine lv_iconst (v := 1) hx hb dX12_isValue_78 (by decide) ?_
      exact rf_zret hC hT rfl h dX12_isValue_79
    · have h := h.2 hc
      refine lv_aload_n hx hb dX12_isValue_41 rfl (lv_at hl 0 rfl) ?_
      refine rf_get hx hb hK hT hown 18 (by decide) kfX12_34 (v := .ref (ad 18)) rfl dX12_isValue_42 ?_
      refine lv_aload_n hx hb dX12_isValue_45 rfl (lv_at hl 0 rfl) ?_
      refine rf_get hx hb hK hT hown 16 (by decide) kfX12_37 (v := .ref (ad 16)) rfl dX12_isValue_46 ?_
      refine lv_iload_n hx hb dX12_isValue_49 rfl (lv_at hl 2 rfl) ?_
      obtain ⟨hi, h⟩ := h
      refine rf_iald hx hb hK hT 16 (by decide) rfl hi (v := σ.2.2.1 16 x2.toNatClampNeg) rfl dX12_isValue_50 ?_
      refine lv_iload_n hx hb dX12_isValue_51 rfl (lv_at hl 3 rfl) ?_
      refine lv_iadd hx hb dX12_isValue_52 ?_
      obtain ⟨hi, h⟩ := h
      refine rf_bald hx hb hK hT 18 (by decide) rfl hi (v := σ.2.2.1 18 ((σ.2.2.1 16 x2.toNatClampNeg) + x3).toNatClampNeg) rfl dX12_isValue_53 ?_
      refine lv_aload_n hx hb dX12_isValue_54 rfl (lv_at hl 0 rfl) ?_
      refine rf_get hx hb hK hT hown 46 (by decide) kfX12_232 (v := .ref (ad 46)) rfl dX12_isValue_55 ?_
      refine lv_aload_n hx hb dX12_isValue_58 rfl (lv_at hl 0 rfl) ?_
      refine rf_get hx hb hK hT hown 48 (by decide) kfX12_238 (v := .ref (ad 48)) rfl dX12_isValue_59 ?_
      refine lv_iload_n hx hb dX12_isValue_62 rfl (lv_at hl 1 rfl) ?_
      obtain ⟨hi, h⟩ := h
      refine rf_iald hx hb hK hT 48 (by decide) rfl hi (v := σ.2.2.1 48 x1.toNatClampNeg) rfl dX12_isValue_63 ?_
      refine lv_iload_n hx hb dX12_isValue_64 rfl (lv_at hl 3 rfl) ?_
      refine lv_iadd hx hb dX12_isValue_65 ?_
      obtain ⟨hi, h⟩ := h
      refine rf_bald hx hb hK hT 46 (by decide) rfl hi (v := σ.2.2.1 46 ((σ.2.2.1 48 x1.toNatClampNeg) + x3).toNatClampNeg) rfl dX12_isValue_66 ?_
      refine lv_icmp_eq (tgt := 72) hx hb dX12_isValue_67 (by decide) (fun hc => ?_) (fun hc => ?_)
      · have h := h.1 hc
        refine lv_iinc (v := x3 + 1) (lv' := [(3, _), (0, _), (1, _), (2, _)]) hx hb dX12_isValue_72 hl (k := 3) rfl rfl (by decide) rfl (fun ls hl => ?_)
        refine lv_goto (tgt := 31) hx hb dX12_isValue_75 (by decide) ?_
        exact ih σ x1 x2 (x3 + 1) _ _ _ h hT (lv_sub hl [1, 2, 3, 0] rfl)
      · have h := h.2 hc
        refine lv_iconst (v := 0) hx hb dX12_isValue_70 (by decide) ?_
        exact rf_zret hC hT rfl h dX12_isValue_71
end
def wp_X12_isValue (post : Int32 → rf_S → Prop) (σ : rf_S) (p1 : Int32) (p2 : Int32) : Prop := vp_in p2 (rf_n 15) ∧ vp_in p1 (rf_n 50) ∧ ((σ.2.2.1 15 p2.toNatClampNeg) = (σ.2.2.1 50 p1.toNatClampNeg) → vp_in p2 (rf_n 14) ∧ ((σ.2.2.1 14 p2.toNatClampNeg) = 1 → ∃ n9, w_X12_isValue_31 post n9 σ p1 p2 0) ∧ (¬ (σ.2.2.1 14 p2.toNatClampNeg) = 1 → post 1 σ)) ∧ (¬ (σ.2.2.1 15 p2.toNatClampNeg) = (σ.2.2.1 50 p1.toNatClampNeg) → post 0 σ)
set_option maxRecDepth 100000 in
set_option maxHeartbeats 4000000 in
theorem c_X12_isValue {l : Launch} {P : hw_G} {o : Nat} {ad : Nat → Nat} {σ : rf_S} {p1 : Int32} {p2 : Int32} {post : Int32 → rf_S → Prop} (h : wp_X12_isValue post σ p1 p2) : Met l yX12_isValue [Cond.code yX12_isValue cX12_isValue 4 (some .boolean)] rm_X12_isValue (rf_Pc P o ad σ [.ref o, .int p1, .int p2]) (rf_Qi P o ad post) 0 0 (rf_A o ad) := by
  refine rf_met (by decide) rfl (Nat.le_of_ble_eq_true rfl) ?_
  intro p e s m below meth c ls hC hT hl
  obtain ⟨hx, hb, hml, hown, hK, -, -⟩ := id hC
  have hl : lv_has ls 4 [(0, .ref o), (1, .int p1), (2, .int p2)] := hl
  refine lv_aload_n hx hb dX12_isValue_0 rfl (lv_at hl 0 rfl) ?_
  refine rf_get hx hb hK hT hown 15 (by decide) kfX12_30 (v := .ref (ad 15)) rfl dX12_isValue_1 ?_
  refine lv_iload_n hx hb dX12_isValue_4 rfl (lv_at hl 2 rfl) ?_
  obtain ⟨hi, h⟩ := h
  refine rf_iald hx hb hK hT 15 (by decide) rfl hi (v := σ.2.2.1 15 p2.toNatClampNeg) rfl dX12_isValue_5 ?_
  refine lv_aload_n hx hb dX12_isValue_6 rfl (lv_at hl 0 rfl) ?_
  refine rf_get hx hb hK hT hown 50 (by decide) kfX12_244 (v := .ref (ad 50)) rfl dX12_isValue_7 ?_
  refine lv_iload_n hx hb dX12_isValue_10 rfl (lv_at hl 1 rfl) ?_
  obtain ⟨hi, h⟩ := h
  refine rf_iald hx hb hK hT 50 (by decide) rfl hi (v := σ.2.2.1 50 p1.toNatClampNeg) rfl dX12_isValue_11 ?_
  refine lv_icmp_eq (tgt := 17) hx hb dX12_isValue_12 (by decide) (fun hc => ?_) (fun hc => ?_)
  · have h := h.1 hc
    refine lv_aload_n hx hb dX12_isValue_17 rfl (lv_at hl 0 rfl) ?_
    refine rf_get hx hb hK hT hown 14 (by decide) kfX12_27 (v := .ref (ad 14)) rfl dX12_isValue_18 ?_
    refine lv_iload_n hx hb dX12_isValue_21 rfl (lv_at hl 2 rfl) ?_
    obtain ⟨hi, h⟩ := h
    refine rf_bald hx hb hK hT 14 (by decide) rfl hi (v := σ.2.2.1 14 p2.toNatClampNeg) rfl dX12_isValue_22 ?_
    refine lv_iconst (v := 1) hx hb dX12_isValue_23 (by decide) ?_
    refine lv_icmp_eq (tgt := 29) hx hb dX12_isValue_24 (by decide) (fun hc => ?_) (fun hc => ?_)
    · have h := h.1 hc
      refine lv_iconst (v := 0) hx hb dX12_isValue_29 (by decide) ?_
      refine lv_istore_n (lv' := [(3, _), (0, _), (1, _), (2, _)]) hx hb dX12_isValue_30 rfl hl (by decide) rfl (fun ls hl => ?_)
      obtain ⟨n9, h⟩ := h
      exact t_X12_isValue_31 hC n9 σ p1 p2 0 _ _ _ h hT (lv_sub hl [1, 2, 3, 0] rfl)
    · have h := h.2 hc
      refine lv_iconst (v := 1) hx hb dX12_isValue_27 (by decide) ?_
      exact rf_zret hC hT rfl h dX12_isValue_28
  · have h := h.2 hc
    refine lv_iconst (v := 0) hx hb dX12_isValue_15 (by decide) ?_
    exact rf_zret hC hT rfl h dX12_isValue_16
/-! X12_fits -/
abbrev rm_X12_fits : Room := { frames := 1, cells := 0, slots := 0, locals := 28 }
def w_X12_fits_19 (post : Int32 → rf_S → Prop) (σ : rf_S)  : Prop := post 0 σ
section
variable {p : Program} {l : Launch} {e : Env} {s : State} {m : MethodId} {args : Array Value} {below : List Frame} {meth : Method} {c : Code} {P : hw_G} {o : Nat} {ad : Nat → Nat}
set_option maxRecDepth 100000 in
set_option maxHeartbeats 4000000 in
theorem t_X12_fits_19 {post : Int32 → rf_S → Prop} (hC : rf_C P RX12 p s m meth c cX12_fits 3 (some .boolean)) (σ : rf_S)  (H : Heap) (locs : List Loc) (ls : Array Slot) (h : w_X12_fits_19 post σ ) (hT : rf_T P s (rf_A o ad) o ad σ H locs) (hl : lv_has ls 3 []) : W p l e rm_X12_fits s m args below meth c H locs 0 0 (MQ below (rf_Qi P o ad post) args s 0 0 (rf_A o ad)) (F0 m 19 ls []) := by
  obtain ⟨hx, hb, hml, hown, hK, -, -⟩ := id hC
  refine lv_iconst (v := 0) hx hb dX12_fits_19 (by decide) ?_
  exact rf_zret hC hT rfl h dX12_fits_20
end
def w_X12_fits_257 (post : Int32 → rf_S → Prop) (σ : rf_S) (y0 : Int32) : Prop := narrow .boolean (.int y0) = .int y0 ∧ post y0 σ
section
variable {p : Program} {l : Launch} {e : Env} {s : State} {m : MethodId} {args : Array Value} {below : List Frame} {meth : Method} {c : Code} {P : hw_G} {o : Nat} {ad : Nat → Nat}
set_option maxRecDepth 100000 in
set_option maxHeartbeats 4000000 in
theorem t_X12_fits_257 {post : Int32 → rf_S → Prop} (hC : rf_C P RX12 p s m meth c cX12_fits 3 (some .boolean)) (σ : rf_S) (y0 : Int32) (H : Heap) (locs : List Loc) (ls : Array Slot) (h : w_X12_fits_257 post σ y0) (hT : rf_T P s (rf_A o ad) o ad σ H locs) (hl : lv_has ls 3 []) : W p l e rm_X12_fits s m args below meth c H locs 0 0 (MQ below (rf_Qi P o ad post) args s 0 0 (rf_A o ad)) (F0 m 257 ls [.int y0]) := by
  obtain ⟨hx, hb, hml, hown, hK, -, -⟩ := id hC
  exact rf_zret hC hT h.1 h.2 dX12_fits_257
end
def w_X12_fits_151 (post : Int32 → rf_S → Prop) (σ : rf_S) (y0 : Int32) : Prop := narrow .boolean (.int y0) = .int y0 ∧ post y0 σ
section
variable {p : Program} {l : Launch} {e : Env} {s : State} {m : MethodId} {args : Array Value} {below : List Frame} {meth : Method} {c : Code} {P : hw_G} {o : Nat} {ad : Nat → Nat}
set_option maxRecDepth 100000 in
set_option maxHeartbeats 4000000 in
theorem t_X12_fits_151 {post : Int32 → rf_S → Prop} (hC : rf_C P RX12 p s m meth c cX12_fits 3 (some .boolean)) (σ : rf_S) (y0 : Int32) (H : Heap) (locs : List Loc) (ls : Array Slot) (h : w_X12_fits_151 post σ y0) (hT : rf_T P s (rf_A o ad) o ad σ H locs) (hl : lv_has ls 3 []) : W p l e rm_X12_fits s m args below meth c H locs 0 0 (MQ below (rf_Qi P o ad post) args s 0 0 (rf_A o ad)) (F0 m 151 ls [.int y0]) := by
  obtain ⟨hx, hb, hml, hown, hK, -, -⟩ := id hC
  exact rf_zret hC hT h.1 h.2 dX12_fits_151
end
def w_X12_fits_146 (post : Int32 → rf_S → Prop) (σ : rf_S)  : Prop := w_X12_fits_151 post σ 1
section
variable {p : Program} {l : Launch} {e : Env} {s : State} {m : MethodId} {args : Array Value} {below : List Frame} {meth : Method} {c : Code} {P : hw_G} {o : Nat} {ad : Nat → Nat}
set_option maxRecDepth 100000 in
set_option maxHeartbeats 4000000 in
theorem t_X12_fits_146 {post : Int32 → rf_S → Prop} (hC : rf_C P RX12 p s m meth c cX12_fits 3 (some .boolean)) (σ : rf_S)  (H : Heap) (locs : List Loc) (ls : Array Slot) (h : w_X12_fits_146 post σ ) (hT : rf_T P s (rf_A o ad) o ad σ H locs) (hl : lv_has ls 3 []) : W p l e rm_X12_fits s m args below meth c H locs 0 0 (MQ below (rf_Qi P o ad post) args s 0 0 (rf_A o ad)) (F0 m 146 ls []) := by
  obtain ⟨hx, hb, hml, hown, hK, -, -⟩ := id hC
  refine lv_iconst (v := 1) hx hb dX12_fits_146 (by decide) ?_
  refine lv_goto (tgt := 151) hx hb dX12_fits_147 (by decide) ?_
  exact t_X12_fits_151 hC σ 1 _ _ _ h hT (lv_sub hl [] rfl)
end
def w_X12_fits_173 (post : Int32 → rf_S → Prop) (σ : rf_S) (y0 : Int32) : Prop := narrow .boolean (.int y0) = .int y0 ∧ post y0 σ
section
variable {p : Program} {l : Launch} {e : Env} {s : State} {m : MethodId} {args : Array Value} {below : List Frame} {meth : Method} {c : Code} {P : hw_G} {o : Nat} {ad : Nat → Nat}
set_option maxRecDepth 100000 in
set_option maxHeartbeats 4000000 in
theorem t_X12_fits_173 {post : Int32 → rf_S → Prop} (hC : rf_C P RX12 p s m meth c cX12_fits 3 (some .boolean)) (σ : rf_S) (y0 : Int32) (H : Heap) (locs : List Loc) (ls : Array Slot) (h : w_X12_fits_173 post σ y0) (hT : rf_T P s (rf_A o ad) o ad σ H locs) (hl : lv_has ls 3 []) : W p l e rm_X12_fits s m args below meth c H locs 0 0 (MQ below (rf_Qi P o ad post) args s 0 0 (rf_A o ad)) (F0 m 173 ls [.int y0]) := by
  obtain ⟨hx, hb, hml, hown, hK, -, -⟩ := id hC
  exact rf_zret hC hT h.1 h.2 dX12_fits_173
end
def w_X12_fits_194 (post : Int32 → rf_S → Prop) (σ : rf_S) (y0 : Int32) : Prop := narrow .boolean (.int y0) = .int y0 ∧ post y0 σ
section
variable {p : Program} {l : Launch} {e : Env} {s : State} {m : MethodId} {args : Array Value} {below : List Frame} {meth : Method} {c : Code} {P : hw_G} {o : Nat} {ad : Nat → Nat}
set_option maxRecDepth 100000 in
set_option maxHeartbeats 4000000 in
theorem t_X12_fits_194 {post : Int32 → rf_S → Prop} (hC : rf_C P RX12 p s m meth c cX12_fits 3 (some .boolean)) (σ : rf_S) (y0 : Int32) (H : Heap) (locs : List Loc) (ls : Array Slot) (h : w_X12_fits_194 post σ y0) (hT : rf_T P s (rf_A o ad) o ad σ H locs) (hl : lv_has ls 3 []) : W p l e rm_X12_fits s m args below meth c H locs 0 0 (MQ below (rf_Qi P o ad post) args s 0 0 (rf_A o ad)) (F0 m 194 ls [.int y0]) := by
  obtain ⟨hx, hb, hml, hown, hK, -, -⟩ := id hC
  exact rf_zret hC hT h.1 h.2 dX12_fits_194
end
def w_X12_fits_215 (post : Int32 → rf_S → Prop) (σ : rf_S) (y0 : Int32) : Prop := narrow .boolean (.int y0) = .int y0 ∧ post y0 σ
section
variable {p : Program} {l : Launch} {e : Env} {s : State} {m : MethodId} {args : Array Value} {below : List Frame} {meth : Method} {c : Code} {P : hw_G} {o : Nat} {ad : Nat → Nat}
set_option maxRecDepth 100000 in
set_option maxHeartbeats 4000000 in
theorem t_X12_fits_215 {post : Int32 → rf_S → Prop} (hC : rf_C P RX12 p s m meth c cX12_fits 3 (some .boolean)) (σ : rf_S) (y0 : Int32) (H : Heap) (locs : List Loc) (ls : Array Slot) (h : w_X12_fits_215 post σ y0) (hT : rf_T P s (rf_A o ad) o ad σ H locs) (hl : lv_has ls 3 []) : W p l e rm_X12_fits s m args below meth c H locs 0 0 (MQ below (rf_Qi P o ad post) args s 0 0 (rf_A o ad)) (F0 m 215 ls [.int y0]) := by
  obtain ⟨hx, hb, hml, hown, hK, -, -⟩ := id hC
  exact rf_zret hC hT h.1 h.2 dX12_fits_215
end
def w_X12_fits_236 (post : Int32 → rf_S → Prop) (σ : rf_S) (y0 : Int32) : Prop := narrow .boolean (.int y0) = .int y0 ∧ post y0 σ
section
variable {p : Program} {l : Launch} {e : Env} {s : State} {m : MethodId} {args : Array Value} {below : List Frame} {meth : Method} {c : Code} {P : hw_G} {o : Nat} {ad : Nat → Nat}
set_option maxRecDepth 100000 in
set_option maxHeartbeats 4000000 in
theorem t_X12_fits_236 {post : Int32 → rf_S → Prop} (hC : rf_C P RX12 p s m meth c cX12_fits 3 (some .boolean)) (σ : rf_S) (y0 : Int32) (H : Heap) (locs : List Loc) (ls : Array Slot) (h : w_X12_fits_236 post σ y0) (hT : rf_T P s (rf_A o ad) o ad σ H locs) (hl : lv_has ls 3 []) : W p l e rm_X12_fits s m args below meth c H locs 0 0 (MQ below (rf_Qi P o ad post) args s 0 0 (rf_A o ad)) (F0 m 236 ls [.int y0]) := by
  obtain ⟨hx, hb, hml, hown, hK, -, -⟩ := id hC
  exact rf_zret hC hT h.1 h.2 dX12_fits_236
end
def wp_X12_fits (post : Int32 → rf_S → Prop) (σ : rf_S) (p1 : Int32) (p2 : Int32) : Prop := (p2 < 0 → w_X12_fits_19 post σ) ∧ (¬ p2 < 0 → vp_in p2 (rf_n 14) ∧ vp_in p1 (rf_n 51) ∧ ((σ.2.2.1 14 p2.toNatClampNeg) = (σ.2.2.1 51 p1.toNatClampNeg) → vp_in p1 (rf_n 47) ∧ ((σ.2.2.1 47 p1.toNatClampNeg).toInt < 6 ∨ 12 < (σ.2.2.1 47 p1.toNatClampNeg).toInt → vp_in p2 (rf_n 15) ∧ vp_in p1 (rf_n 50) ∧ ((σ.2.2.1 15 p2.toNatClampNeg) < (σ.2.2.1 50 p1.toNatClampNeg) → w_X12_fits_257 post σ 0) ∧ (¬ (σ.2.2.1 15 p2.toNatClampNeg) < (σ.2.2.1 50 p1.toNatClampNeg) → w_X12_fits_257 post σ 1)) ∧ ((σ.2.2.1 47 p1.toNatClampNeg).toInt = 6 → vp_in p1 (rf_n 48) ∧ vp_in p1 (rf_n 48) ∧ vp_in p1 (rf_n 50) ∧ vp_in p2 (rf_n 16) ∧ vp_in p2 (rf_n 16) ∧ vp_in p2 (rf_n 15) ∧ wp_X12_like (fun r4 σ4 => narrow .boolean (.int r4) = .int r4 ∧ post r4 σ4) σ (σ.2.2.1 48 p1.toNatClampNeg) ((σ.2.2.1 48 p1.toNatClampNeg) + (σ.2.2.1 50 p1.toNatClampNeg)) (σ.2.2.1 16 p2.toNatClampNeg) ((σ.2.2.1 16 p2.toNatClampNeg) + (σ.2.2.1 15 p2.toNatClampNeg))) ∧ ((σ.2.2.1 47 p1.toNatClampNeg).toInt = 7 → vp_in p1 (rf_n 49) ∧ ((σ.2.2.1 49 p1.toNatClampNeg) = 0 → w_X12_fits_146 post σ) ∧ (¬ (σ.2.2.1 49 p1.toNatClampNeg) = 0 → vp_in p2 (rf_n 15) ∧ vp_in p1 (rf_n 50) ∧ vp_in p1 (rf_n 49) ∧ (¬ ((((σ.2.2.1 15 p2.toNatClampNeg) ^^^ (σ.2.2.1 50 p1.toNatClampNeg)).toUInt32 >>> ((32 - (σ.2.2.1 49 p1.toNatClampNeg)).toUInt32 &&& Int32.toUInt32 31)).toInt32) = 0 → w_X12_fits_151 post σ 0) ∧ (((((σ.2.2.1 15 p2.toNatClampNeg) ^^^ (σ.2.2.1 50 p1.toNatClampNeg)).toUInt32 >>> ((32 - (σ.2.2.1 49 p1.toNatClampNeg)).toUInt32 &&& Int32.toUInt32 31)).toInt32) = 0 → w_X12_fits_146 post σ))) ∧ ((σ.2.2.1 47 p1.toNatClampNeg).toInt = 8 → wp_X12_isValue (fun r5 σ5 => narrow .boolean (.int r5) = .int r5 ∧ post r5 σ5) σ p1 p2) ∧ ((σ.2.2.1 47 p1.toNatClampNeg).toInt = 9 → wp_X12_isValue (fun r6 σ6 => (¬ r6 = 0 → w_X12_fits_173 post σ6 0) ∧ (r6 = 0 → w_X12_fits_173 post σ6 1)) σ p1 p2) ∧ ((σ.2.2.1 47 p1.toNatClampNeg).toInt = 10 → vp_in p2 (rf_n 15) ∧ vp_in p1 (rf_n 50) ∧ ((σ.2.2.1 50 p1.toNatClampNeg) ≤ (σ.2.2.1 15 p2.toNatClampNeg) → w_X12_fits_194 post σ 0) ∧ (¬ (σ.2.2.1 50 p1.toNatClampNeg) ≤ (σ.2.2.1 15 p2.toNatClampNeg) → w_X12_fits_194 post σ 1)) ∧ ((σ.2.2.1 47 p1.toNatClampNeg).toInt = 11 → vp_in p2 (rf_n 15) ∧ vp_in p1 (rf_n 50) ∧ ((σ.2.2.1 50 p1.toNatClampNeg) < (σ.2.2.1 15 p2.toNatClampNeg) → w_X12_fits_215 post σ 0) ∧ (¬ (σ.2.2.1 50 p1.toNatClampNeg) < (σ.2.2.1 15 p2.toNatClampNeg) → w_X12_fits_215 post σ 1)) ∧ ((σ.2.2.1 47 p1.toNatClampNeg).toInt = 12 → vp_in p2 (rf_n 15) ∧ vp_in p1 (rf_n 50) ∧ ((σ.2.2.1 15 p2.toNatClampNeg) ≤ (σ.2.2.1 50 p1.toNatClampNeg) → w_X12_fits_236 post σ 0) ∧ (¬ (σ.2.2.1 15 p2.toNatClampNeg) ≤ (σ.2.2.1 50 p1.toNatClampNeg) → w_X12_fits_236 post σ 1))) ∧ (¬ (σ.2.2.1 14 p2.toNatClampNeg) = (σ.2.2.1 51 p1.toNatClampNeg) → w_X12_fits_19 post σ))
set_option maxRecDepth 100000 in
set_option maxHeartbeats 4000000 in
theorem c_X12_fits {l : Launch} {P : hw_G} {o : Nat} {ad : Nat → Nat} {σ : rf_S} {p1 : Int32} {p2 : Int32} {post : Int32 → rf_S → Prop} (h : wp_X12_fits post σ p1 p2) : Met l yX12_fits [Cond.code yX12_fits cX12_fits 3 (some .boolean)] rm_X12_fits (rf_Pc P o ad σ [.ref o, .int p1, .int p2]) (rf_Qi P o ad post) 0 0 (rf_A o ad) := by
  refine rf_met (by decide) rfl (Nat.le_of_ble_eq_true rfl) ?_
  intro p e s m below meth c ls hC hT hl
  obtain ⟨hx, hb, hml, hown, hK, -, -⟩ := id hC
  have hl : lv_has ls 3 [(0, .ref o), (1, .int p1), (2, .int p2)] := hl
  refine lv_iload_n hx hb dX12_fits_0 rfl (lv_at hl 2 rfl) ?_
  refine lv_if_lt (tgt := 19) hx hb dX12_fits_1 (by decide) (fun hc => ?_) (fun hc => ?_)
  · have h := h.1 hc
    exact t_X12_fits_19 hC σ _ _ _ h hT (lv_sub hl [] rfl)
  · have h := h.2 hc
    refine lv_aload_n hx hb dX12_fits_4 rfl (lv_at hl 0 rfl) ?_
    refine rf_get hx hb hK hT hown 14 (by decide) kfX12_27 (v := .ref (ad 14)) rfl dX12_fits_5 ?_
    refine lv_iload_n hx hb dX12_fits_8 rfl (lv_at hl 2 rfl) ?_
    obtain ⟨hi, h⟩ := h
    refine rf_bald hx hb hK hT 14 (by decide) rfl hi (v := σ.2.2.1 14 p2.toNatClampNeg) rfl dX12_fits_9 ?_
    refine lv_aload_n hx hb dX12_fits_10 rfl (lv_at hl 0 rfl) ?_
    refine rf_get hx hb hK hT hown 51 (by decide) kfX12_247 (v := .ref (ad 51)) rfl dX12_fits_11 ?_
    refine lv_iload_n hx hb dX12_fits_14 rfl (lv_at hl 1 rfl) ?_
    obtain ⟨hi, h⟩ := h
    refine rf_iald hx hb hK hT 51 (by decide) rfl hi (v := σ.2.2.1 51 p1.toNatClampNeg) rfl dX12_fits_15 ?_
    refine lv_icmp_eq (tgt := 21) hx hb dX12_fits_16 (by decide) (fun hc => ?_) (fun hc => ?_)
    · have h := h.1 hc
      refine lv_aload_n hx hb dX12_fits_21 rfl (lv_at hl 0 rfl) ?_
      refine rf_get hx hb hK hT hown 47 (by decide) kfX12_235 (v := .ref (ad 47)) rfl dX12_fits_22 ?_
      refine lv_iload_n hx hb dX12_fits_25 rfl (lv_at hl 1 rfl) ?_
      obtain ⟨hi, h⟩ := h
      refine rf_iald hx hb hK hT 47 (by decide) rfl hi (v := σ.2.2.1 47 p1.toNatClampNeg) rfl dX12_fits_26 ?_
      by_cases hz : (σ.2.2.1 47 p1.toNatClampNeg).toInt < 6 ∨ 12 < (σ.2.2.1 47 p1.toNatClampNeg).toInt
      · have h := h.1 hz
        refine lv_tableOut (tgt := 237) hx hb dX12_fits_27 hz (by decide) ?_
        refine lv_aload_n hx hb dX12_fits_237 rfl (lv_at hl 0 rfl) ?_
        refine rf_get hx hb hK hT hown 15 (by decide) kfX12_30 (v := .ref (ad 15)) rfl dX12_fits_238 ?_
        refine lv_iload_n hx hb dX12_fits_241 rfl (lv_at hl 2 rfl) ?_
        obtain ⟨hi, h⟩ := h
        refine rf_iald hx hb hK hT 15 (by decide) rfl hi (v := σ.2.2.1 15 p2.toNatClampNeg) rfl dX12_fits_242 ?_
        refine lv_aload_n hx hb dX12_fits_243 rfl (lv_at hl 0 rfl) ?_
        refine rf_get hx hb hK hT hown 50 (by decide) kfX12_244 (v := .ref (ad 50)) rfl dX12_fits_244 ?_
        refine lv_iload_n hx hb dX12_fits_247 rfl (lv_at hl 1 rfl) ?_
        obtain ⟨hi, h⟩ := h
        refine rf_iald hx hb hK hT 50 (by decide) rfl hi (v := σ.2.2.1 50 p1.toNatClampNeg) rfl dX12_fits_248 ?_
        refine lv_icmp_lt (tgt := 256) hx hb dX12_fits_249 (by decide) (fun hc => ?_) (fun hc => ?_)
        · have h := h.1 hc
          refine lv_iconst (v := 0) hx hb dX12_fits_256 (by decide) ?_
          exact t_X12_fits_257 hC σ 0 _ _ _ h hT (lv_sub hl [] rfl)
        · have h := h.2 hc
          refine lv_iconst (v := 1) hx hb dX12_fits_252 (by decide) ?_
          refine lv_goto (tgt := 257) hx hb dX12_fits_253 (by decide) ?_
          exact t_X12_fits_257 hC σ 1 _ _ _ h hT (lv_sub hl [] rfl)
      have hz : (σ.2.2.1 47 p1.toNatClampNeg).toInt = 6 ∨ (σ.2.2.1 47 p1.toNatClampNeg).toInt = 7 ∨ (σ.2.2.1 47 p1.toNatClampNeg).toInt = 8 ∨ (σ.2.2.1 47 p1.toNatClampNeg).toInt = 9 ∨ (σ.2.2.1 47 p1.toNatClampNeg).toInt = 10 ∨ (σ.2.2.1 47 p1.toNatClampNeg).toInt = 11 ∨ (σ.2.2.1 47 p1.toNatClampNeg).toInt = 12 := by omega
      rcases hz with hz | hz | hz | hz | hz | hz | hz
      · have h := h.2.1 hz
        refine hw_tab (tgt := 68) hx hb hz dX12_fits_27 (by decide) (by decide) (off := 41) rfl (by decide) ?_
        refine lv_aload_n hx hb dX12_fits_68 rfl (lv_at hl 0 rfl) ?_
        refine lv_aload_n hx hb dX12_fits_69 rfl (lv_at hl 0 rfl) ?_
        refine rf_get hx hb hK hT hown 48 (by decide) kfX12_238 (v := .ref (ad 48)) rfl dX12_fits_70 ?_
        refine lv_iload_n hx hb dX12_fits_73 rfl (lv_at hl 1 rfl) ?_
        obtain ⟨hi, h⟩ := h
        refine rf_iald hx hb hK hT 48 (by decide) rfl hi (v := σ.2.2.1 48 p1.toNatClampNeg) rfl dX12_fits_74 ?_
        refine lv_aload_n hx hb dX12_fits_75 rfl (lv_at hl 0 rfl) ?_
        refine rf_get hx hb hK hT hown 48 (by decide) kfX12_238 (v := .ref (ad 48)) rfl dX12_fits_76 ?_
        refine lv_iload_n hx hb dX12_fits_79 rfl (lv_at hl 1 rfl) ?_
        obtain ⟨hi, h⟩ := h
        refine rf_iald hx hb hK hT 48 (by decide) rfl hi (v := σ.2.2.1 48 p1.toNatClampNeg) rfl dX12_fits_80 ?_
        refine lv_aload_n hx hb dX12_fits_81 rfl (lv_at hl 0 rfl) ?_
        refine rf_get hx hb hK hT hown 50 (by decide) kfX12_244 (v := .ref (ad 50)) rfl dX12_fits_82 ?_
        refine lv_iload_n hx hb dX12_fits_85 rfl (lv_at hl 1 rfl) ?_
        obtain ⟨hi, h⟩ := h
        refine rf_iald hx hb hK hT 50 (by decide) rfl hi (v := σ.2.2.1 50 p1.toNatClampNeg) rfl dX12_fits_86 ?_
        refine lv_iadd hx hb dX12_fits_87 ?_
        refine lv_aload_n hx hb dX12_fits_88 rfl (lv_at hl 0 rfl) ?_
        refine rf_get hx hb hK hT hown 16 (by decide) kfX12_37 (v := .ref (ad 16)) rfl dX12_fits_89 ?_
        refine lv_iload_n hx hb dX12_fits_92 rfl (lv_at hl 2 rfl) ?_
        obtain ⟨hi, h⟩ := h
        refine rf_iald hx hb hK hT 16 (by decide) rfl hi (v := σ.2.2.1 16 p2.toNatClampNeg) rfl dX12_fits_93 ?_
        refine lv_aload_n hx hb dX12_fits_94 rfl (lv_at hl 0 rfl) ?_
        refine rf_get hx hb hK hT hown 16 (by decide) kfX12_37 (v := .ref (ad 16)) rfl dX12_fits_95 ?_
        refine lv_iload_n hx hb dX12_fits_98 rfl (lv_at hl 2 rfl) ?_
        obtain ⟨hi, h⟩ := h
        refine rf_iald hx hb hK hT 16 (by decide) rfl hi (v := σ.2.2.1 16 p2.toNatClampNeg) rfl dX12_fits_99 ?_
        refine lv_aload_n hx hb dX12_fits_100 rfl (lv_at hl 0 rfl) ?_
        refine rf_get hx hb hK hT hown 15 (by decide) kfX12_30 (v := .ref (ad 15)) rfl dX12_fits_101 ?_
        refine lv_iload_n hx hb dX12_fits_104 rfl (lv_at hl 2 rfl) ?_
        obtain ⟨hi, h⟩ := h
        refine rf_iald hx hb hK hT 15 (by decide) rfl hi (v := σ.2.2.1 15 p2.toNatClampNeg) rfl dX12_fits_105 ?_
        refine lv_iadd hx hb dX12_fits_106 ?_
        refine rf_calli (rf_runV hx hb hml hown hK hT (c_X12_like h) rfl rfl klX12_445 ki_X12_like ks_X12_like kn_X12 kc_X12_like 4 ⟨rfl, by decide, by decide, by decide +kernel⟩ ⟨by decide, by decide⟩ rfl hl.1 rfl (Nat.le_of_ble_eq_true rfl) ⟨Nat.le_refl _, Nat.le_refl _⟩ dX12_fits_107) hT (fun r4 σ4 H locs h hT => ?_)
        exact rf_zret hC hT h.1 h.2 dX12_fits_110
      · have h := h.2.2.1 hz
        refine hw_tab (tgt := 111) hx hb hz dX12_fits_27 (by decide) (by decide) (off := 84) rfl (by decide) ?_
        refine lv_aload_n hx hb dX12_fits_111 rfl (lv_at hl 0 rfl) ?_
        refine rf_get hx hb hK hT hown 49 (by decide) kfX12_241 (v := .ref (ad 49)) rfl dX12_fits_112 ?_
        refine lv_iload_n hx hb dX12_fits_115 rfl (lv_at hl 1 rfl) ?_
        obtain ⟨hi, h⟩ := h
        refine rf_iald hx hb hK hT 49 (by decide) rfl hi (v := σ.2.2.1 49 p1.toNatClampNeg) rfl dX12_fits_116 ?_
        refine lv_if_eq (tgt := 146) hx hb dX12_fits_117 (by decide) (fun hc => ?_) (fun hc => ?_)
        · have h := h.1 hc
          exact t_X12_fits_146 hC σ _ _ _ h hT (lv_sub hl [] rfl)
        · have h := h.2 hc
          refine lv_aload_n hx hb dX12_fits_120 rfl (lv_at hl 0 rfl) ?_
          refine rf_get hx hb hK hT hown 15 (by decide) kfX12_30 (v := .ref (ad 15)) rfl dX12_fits_121 ?_
          refine lv_iload_n hx hb dX12_fits_124 rfl (lv_at hl 2 rfl) ?_
          obtain ⟨hi, h⟩ := h
          refine rf_iald hx hb hK hT 15 (by decide) rfl hi (v := σ.2.2.1 15 p2.toNatClampNeg) rfl dX12_fits_125 ?_
          refine lv_aload_n hx hb dX12_fits_126 rfl (lv_at hl 0 rfl) ?_
          refine rf_get hx hb hK hT hown 50 (by decide) kfX12_244 (v := .ref (ad 50)) rfl dX12_fits_127 ?_
          refine lv_iload_n hx hb dX12_fits_130 rfl (lv_at hl 1 rfl) ?_
          obtain ⟨hi, h⟩ := h
          refine rf_iald hx hb hK hT 50 (by decide) rfl hi (v := σ.2.2.1 50 p1.toNatClampNeg) rfl dX12_fits_131 ?_
          refine lv_ixor hx hb dX12_fits_132 ?_
          refine lv_bipush (v := 32) hx hb dX12_fits_133 (by decide) ?_
          refine lv_aload_n hx hb dX12_fits_135 rfl (lv_at hl 0 rfl) ?_
          refine rf_get hx hb hK hT hown 49 (by decide) kfX12_241 (v := .ref (ad 49)) rfl dX12_fits_136 ?_
          refine lv_iload_n hx hb dX12_fits_139 rfl (lv_at hl 1 rfl) ?_
          obtain ⟨hi, h⟩ := h
          refine rf_iald hx hb hK hT 49 (by decide) rfl hi (v := σ.2.2.1 49 p1.toNatClampNeg) rfl dX12_fits_140 ?_
          refine lv_isub hx hb dX12_fits_141 ?_
          refine lv_iushr (v := (((σ.2.2.1 15 p2.toNatClampNeg) ^^^ (σ.2.2.1 50 p1.toNatClampNeg)).toUInt32 >>> ((32 - (σ.2.2.1 49 p1.toNatClampNeg)).toUInt32 &&& Int32.toUInt32 31)).toInt32) hx hb dX12_fits_142 rfl ?_
          refine lv_if_ne (tgt := 150) hx hb dX12_fits_143 (by decide) (fun hc => ?_) (fun hc => ?_)
          · have h := h.1 hc
            refine lv_iconst (v := 0) hx hb dX12_fits_150 (by decide) ?_
            exact t_X12_fits_151 hC σ 0 _ _ _ h hT (lv_sub hl [] rfl)
          · have h := h.2 hc
            exact t_X12_fits_146 hC σ _ _ _ h hT (lv_sub hl [] rfl)
      · have h := h.2.2.2.1 hz
        refine hw_tab (tgt := 152) hx hb hz dX12_fits_27 (by decide) (by decide) (off := 125) rfl (by decide) ?_
        refine lv_aload_n hx hb dX12_fits_152 rfl (lv_at hl 0 rfl) ?_
        refine lv_iload_n hx hb dX12_fits_153 rfl (lv_at hl 1 rfl) ?_
        refine lv_iload_n hx hb dX12_fits_154 rfl (lv_at hl 2 rfl) ?_
        refine rf_calli (rf_runV hx hb hml hown hK hT (c_X12_isValue h) rfl rfl klX12_449 ki_X12_isValue ks_X12_isValue kn_X12 kc_X12_isValue 2 ⟨rfl, by decide, by decide, by decide +kernel⟩ ⟨by decide, by decide⟩ rfl hl.1 rfl (Nat.le_of_ble_eq_true rfl) ⟨Nat.le_refl _, Nat.le_refl _⟩ dX12_fits_155) hT (fun r5 σ5 H locs h hT => ?_)
        exact rf_zret hC hT h.1 h.2 dX12_fits_158
      · have h := h.2.2.2.2.1 hz
        refine hw_tab (tgt := 159) hx hb hz dX12_fits_27 (by decide) (by decide) (off := 132) rfl (by decide) ?_
        refine lv_aload_n hx hb dX12_fits_159 rfl (lv_at hl 0 rfl) ?_
        refine lv_iload_n hx hb dX12_fits_160 rfl (lv_at hl 1 rfl) ?_
        refine lv_iload_n hx hb dX12_fits_161 rfl (lv_at hl 2 rfl) ?_
        refine rf_calli (rf_runV hx hb hml hown hK hT (c_X12_isValue h) rfl rfl klX12_449 ki_X12_isValue ks_X12_isValue kn_X12 kc_X12_isValue 2 ⟨rfl, by decide, by decide, by decide +kernel⟩ ⟨by decide, by decide⟩ rfl hl.1 rfl (Nat.le_of_ble_eq_true rfl) ⟨Nat.le_refl _, Nat.le_refl _⟩ dX12_fits_162) hT (fun r6 σ6 H locs h hT => ?_)
        refine lv_if_ne (tgt := 172) hx hb dX12_fits_165 (by decide) (fun hc => ?_) (fun hc => ?_)
        · have h := h.1 hc
          refine lv_iconst (v := 0) hx hb dX12_fits_172 (by decide) ?_
          exact t_X12_fits_173 hC σ6 0 _ _ _ h hT (lv_sub hl [] rfl)
        · have h := h.2 hc
          refine lv_iconst (v := 1) hx hb dX12_fits_168 (by decide) ?_
          refine lv_goto (tgt := 173) hx hb dX12_fits_169 (by decide) ?_
          exact t_X12_fits_173 hC σ6 1 _ _ _ h hT (lv_sub hl [] rfl)
      · have h := h.2.2.2.2.2.1 hz
        refine hw_tab (tgt := 174) hx hb hz dX12_fits_27 (by decide) (by decide) (off := 147) rfl (by decide) ?_
        refine lv_aload_n hx hb dX12_fits_174 rfl (lv_at hl 0 rfl) ?_
        refine rf_get hx hb hK hT hown 15 (by decide) kfX12_30 (v := .ref (ad 15)) rfl dX12_fits_175 ?_
        refine lv_iload_n hx hb dX12_fits_178 rfl (lv_at hl 2 rfl) ?_
        obtain ⟨hi, h⟩ := h
        refine rf_iald hx hb hK hT 15 (by decide) rfl hi (v := σ.2.2.1 15 p2.toNatClampNeg) rfl dX12_fits_179 ?_
        refine lv_aload_n hx hb dX12_fits_180 rfl (lv_at hl 0 rfl) ?_
        refine rf_get hx hb hK hT hown 50 (by decide) kfX12_244 (v := .ref (ad 50)) rfl dX12_fits_181 ?_
        refine lv_iload_n hx hb dX12_fits_184 rfl (lv_at hl 1 rfl) ?_
        obtain ⟨hi, h⟩ := h
        refine rf_iald hx hb hK hT 50 (by decide) rfl hi (v := σ.2.2.1 50 p1.toNatClampNeg) rfl dX12_fits_185 ?_
        refine lv_icmp_ge (tgt := 193) hx hb dX12_fits_186 (by decide) (fun hc => ?_) (fun hc => ?_)
        · have h := h.1 hc
          refine lv_iconst (v := 0) hx hb dX12_fits_193 (by decide) ?_
          exact t_X12_fits_194 hC σ 0 _ _ _ h hT (lv_sub hl [] rfl)
        · have h := h.2 hc
          refine lv_iconst (v := 1) hx hb dX12_fits_189 (by decide) ?_
          refine lv_goto (tgt := 194) hx hb dX12_fits_190 (by decide) ?_
          exact t_X12_fits_194 hC σ 1 _ _ _ h hT (lv_sub hl [] rfl)
      · have h := h.2.2.2.2.2.2.1 hz
        refine hw_tab (tgt := 195) hx hb hz dX12_fits_27 (by decide) (by decide) (off := 168) rfl (by decide) ?_
        refine lv_aload_n hx hb dX12_fits_195 rfl (lv_at hl 0 rfl) ?_
        refine rf_get hx hb hK hT hown 15 (by decide) kfX12_30 (v := .ref (ad 15)) rfl dX12_fits_196 ?_
        refine lv_iload_n hx hb dX12_fits_199 rfl (lv_at hl 2 rfl) ?_
        obtain ⟨hi, h⟩ := h
        refine rf_iald hx hb hK hT 15 (by decide) rfl hi (v := σ.2.2.1 15 p2.toNatClampNeg) rfl dX12_fits_200 ?_
        refine lv_aload_n hx hb dX12_fits_201 rfl (lv_at hl 0 rfl) ?_
        refine rf_get hx hb hK hT hown 50 (by decide) kfX12_244 (v := .ref (ad 50)) rfl dX12_fits_202 ?_
        refine lv_iload_n hx hb dX12_fits_205 rfl (lv_at hl 1 rfl) ?_
        obtain ⟨hi, h⟩ := h
        refine rf_iald hx hb hK hT 50 (by decide) rfl hi (v := σ.2.2.1 50 p1.toNatClampNeg) rfl dX12_fits_206 ?_
        refine lv_icmp_gt (tgt := 214) hx hb dX12_fits_207 (by decide) (fun hc => ?_) (fun hc => ?_)
        · have h := h.1 hc
          refine lv_iconst (v := 0) hx hb dX12_fits_214 (by decide) ?_
          exact t_X12_fits_215 hC σ 0 _ _ _ h hT (lv_sub hl [] rfl)
        · have h := h.2 hc
          refine lv_iconst (v := 1) hx hb dX12_fits_210 (by decide) ?_
          refine lv_goto (tgt := 215) hx hb dX12_fits_211 (by decide) ?_
          exact t_X12_fits_215 hC σ 1 _ _ _ h hT (lv_sub hl [] rfl)
      · have h := h.2.2.2.2.2.2.2 hz
        refine hw_tab (tgt := 216) hx hb hz dX12_fits_27 (by decide) (by decide) (off := 189) rfl (by decide) ?_
        refine lv_aload_n hx hb dX12_fits_216 rfl (lv_at hl 0 rfl) ?_
        refine rf_get hx hb hK hT hown 15 (by decide) kfX12_30 (v := .ref (ad 15)) rfl dX12_fits_217 ?_
        refine lv_iload_n hx hb dX12_fits_220 rfl (lv_at hl 2 rfl) ?_
        obtain ⟨hi, h⟩ := h
        refine rf_iald hx hb hK hT 15 (by decide) rfl hi (v := σ.2.2.1 15 p2.toNatClampNeg) rfl dX12_fits_221 ?_
        refine lv_aload_n hx hb dX12_fits_222 rfl (lv_at hl 0 rfl) ?_
        refine rf_get hx hb hK hT hown 50 (by decide) kfX12_244 (v := .ref (ad 50)) rfl dX12_fits_223 ?_
        refine lv_iload_n hx hb dX12_fits_226 rfl (lv_at hl 1 rfl) ?_
        obtain ⟨hi, h⟩ := h
        refine rf_iald hx hb hK hT 50 (by decide) rfl hi (v := σ.2.2.1 50 p1.toNatClampNeg) rfl dX12_fits_227 ?_
        refine lv_icmp_le (tgt := 235) hx hb dX12_fits_228 (by decide) (fun hc => ?_) (fun hc => ?_)
        · have h := h.1 hc
          refine lv_iconst (v := 0) hx hb dX12_fits_235 (by decide) ?_
          exact t_X12_fits_236 hC σ 0 _ _ _ h hT (lv_sub hl [] rfl)
        · have h := h.2 hc
          refine lv_iconst (v := 1) hx hb dX12_fits_231 (by decide) ?_
          refine lv_goto (tgt := 236) hx hb dX12_fits_232 (by decide) ?_
          exact t_X12_fits_236 hC σ 1 _ _ _ h hT (lv_sub hl [] rfl)
    · have h := h.2 hc
      exact t_X12_fits_19 hC σ _ _ _ h hT (lv_sub hl [] rfl)
/-! X12_holds -/
def w_X12_holds_147 (post : Int32 → rf_S → Prop) (rc0 : (Int32 → rf_S → Prop) → rf_S → Int32 → Int32 → Prop) (σ : rf_S) (y0 : Int32) : Prop := narrow .boolean (.int y0) = .int y0 ∧ post y0 σ
section
variable {p : Program} {l : Launch} {e : Env} {s : State} {m : MethodId} {args : Array Value} {below : List Frame} {meth : Method} {c : Code} {P : hw_G} {o : Nat} {ad : Nat → Nat}
set_option maxRecDepth 100000 in
set_option maxHeartbeats 4000000 in
theorem t_X12_holds_147 {post : Int32 → rf_S → Prop} {rc0 : (Int32 → rf_S → Prop) → rf_S → Int32 → Int32 → Prop} (hC : rf_C P RX12 p s m meth c cX12_holds 4 (some .boolean)) {rmd R : Room} (hRm : 2 ≤ R.frames ∧ 50 ≤ R.locals ∧ rmd.frames + 1 ≤ R.frames ∧ 40 + rmd.locals ≤ R.locals ∧ rmd.cells = 0 ∧ rmd.slots = 0) (hrc0 : ∀ {σ : rf_S} {a0 : Int32} {a1 : Int32} {post : Int32 → rf_S → Prop}, rc0 post σ a0 a1 → Met l yX12_holds [Cond.code yX12_holds cX12_holds 4 (some .boolean)] rmd (rf_Pc P o ad σ [.ref o, .int a0, .int a1]) (rf_Qi P o ad post) 0 0 (rf_A o ad)) (σ : rf_S) (y0 : Int32) (H : Heap) (locs : List Loc) (ls : Array Slot) (h : w_X12_holds_147 post rc0 σ y0) (hT : rf_T P s (rf_A o ad) o ad σ H locs) (hl : lv_has ls 4 []) : W p l e R s m args below meth c H locs 0 0 (MQ below (rf_Qi P o ad post) args s 0 0 (rf_A o ad)) (F0 m 147 ls [.int y0]) := by
  obtain ⟨hx, hb, hml, hown, hK, -, -⟩ := id hC
  exact rf_zret hC hT h.1 h.2 dX12_holds_147
end
def w_X12_holds_180 (post : Int32 → rf_S → Prop) (rc0 : (Int32 → rf_S → Prop) → rf_S → Int32 → Int32 → Prop) (σ : rf_S) (y0 : Int32) : Prop := narrow .boolean (.int y0) = .int y0 ∧ post y0 σ
section
variable {p : Program} {l : Launch} {e : Env} {s : State} {m : MethodId} {args : Array Value} {below : List Frame} {meth : Method} {c : Code} {P : hw_G} {o : Nat} {ad : Nat → Nat}
set_option maxRecDepth 100000 in
set_option maxHeartbeats 4000000 in
theorem t_X12_holds_180 {post : Int32 → rf_S → Prop} {rc0 : (Int32 → rf_S → Prop) → rf_S → Int32 → Int32 → Prop} (hC : rf_C P RX12 p s m meth c cX12_holds 4 (some .boolean)) {rmd R : Room} (hRm : 2 ≤ R.frames ∧ 50 ≤ R.locals ∧ rmd.frames + 1 ≤ R.frames ∧ 40 + rmd.locals ≤ R.locals ∧ rmd.cells = 0 ∧ rmd.slots = 0) (hrc0 : ∀ {σ : rf_S} {a0 : Int32} {a1 : Int32} {post : Int32 → rf_S → Prop}, rc0 post σ a0 a1 → Met l yX12_holds [Cond.code yX12_holds cX12_holds 4 (some .boolean)] rmd (rf_Pc P o ad σ [.ref o, .int a0, .int a1]) (rf_Qi P o ad post) 0 0 (rf_A o ad)) (σ : rf_S) (y0 : Int32) (H : Heap) (locs : List Loc) (ls : Array Slot) (h : w_X12_holds_180 post rc0 σ y0) (hT : rf_T P s (rf_A o ad) o ad σ H locs) (hl : lv_has ls 4 []) : W p l e R s m args below meth c H locs 0 0 (MQ below (rf_Qi P o ad post) args s 0 0 (rf_A o ad)) (F0 m 180 ls [.int y0]) := by
  obtain ⟨hx, hb, hml, hown, hK, -, -⟩ := id hC
  exact rf_zret hC hT h.1 h.2 dX12_holds_180
end
def w_X12_holds_179 (post : Int32 → rf_S → Prop) (rc0 : (Int32 → rf_S → Prop) → rf_S → Int32 → Int32 → Prop) (σ : rf_S)  : Prop := w_X12_holds_180 post rc0 σ 0
section
variable {p : Program} {l : Launch} {e : Env} {s : State} {m : MethodId} {args : Array Value} {below : List Frame} {meth : Method} {c : Code} {P : hw_G} {o : Nat} {ad : Nat → Nat}
set_option maxRecDepth 100000 in
set_option maxHeartbeats 4000000 in
theorem t_X12_holds_179 {post : Int32 → rf_S → Prop} {rc0 : (Int32 → rf_S → Prop) → rf_S → Int32 → Int32 → Prop} (hC : rf_C P RX12 p s m meth c cX12_holds 4 (some .boolean)) {rmd R : Room} (hRm : 2 ≤ R.frames ∧ 50 ≤ R.locals ∧ rmd.frames + 1 ≤ R.frames ∧ 40 + rmd.locals ≤ R.locals ∧ rmd.cells = 0 ∧ rmd.slots = 0) (hrc0 : ∀ {σ : rf_S} {a0 : Int32} {a1 : Int32} {post : Int32 → rf_S → Prop}, rc0 post σ a0 a1 → Met l yX12_holds [Cond.code yX12_holds cX12_holds 4 (some .boolean)] rmd (rf_Pc P o ad σ [.ref o, .int a0, .int a1]) (rf_Qi P o ad post) 0 0 (rf_A o ad)) (σ : rf_S)  (H : Heap) (locs : List Loc) (ls : Array Slot) (h : w_X12_holds_179 post rc0 σ ) (hT : rf_T P s (rf_A o ad) o ad σ H locs) (hl : lv_has ls 4 []) : W p l e R s m args below meth c H locs 0 0 (MQ below (rf_Qi P o ad post) args s 0 0 (rf_A o ad)) (F0 m 179 ls []) := by
  obtain ⟨hx, hb, hml, hown, hK, -, -⟩ := id hC
  refine lv_iconst (v := 0) hx hb dX12_holds_179 (by decide) ?_
  exact t_X12_holds_180 hC hRm hrc0 σ 0 _ _ _ h hT (lv_sub hl [] rfl)
end
def w_X12_holds_200 (post : Int32 → rf_S → Prop) (rc0 : (Int32 → rf_S → Prop) → rf_S → Int32 → Int32 → Prop) (σ : rf_S) (y0 : Int32) : Prop := narrow .boolean (.int y0) = .int y0 ∧ post y0 σ
section
variable {p : Program} {l : Launch} {e : Env} {s : State} {m : MethodId} {args : Array Value} {below : List Frame} {meth : Method} {c : Code} {P : hw_G} {o : Nat} {ad : Nat → Nat}
set_option maxRecDepth 100000 in
set_option maxHeartbeats 4000000 in
theorem t_X12_holds_200 {post : Int32 → rf_S → Prop} {rc0 : (Int32 → rf_S → Prop) → rf_S → Int32 → Int32 → Prop} (hC : rf_C P RX12 p s m meth c cX12_holds 4 (some .boolean)) {rmd R : Room} (hRm : 2 ≤ R.frames ∧ 50 ≤ R.locals ∧ rmd.frames + 1 ≤ R.frames ∧ 40 + rmd.locals ≤ R.locals ∧ rmd.cells = 0 ∧ rmd.slots = 0) (hrc0 : ∀ {σ : rf_S} {a0 : Int32} {a1 : Int32} {post : Int32 → rf_S → Prop}, rc0 post σ a0 a1 → Met l yX12_holds [Cond.code yX12_holds cX12_holds 4 (some .boolean)] rmd (rf_Pc P o ad σ [.ref o, .int a0, .int a1]) (rf_Qi P o ad post) 0 0 (rf_A o ad)) (σ : rf_S) (y0 : Int32) (H : Heap) (locs : List Loc) (ls : Array Slot) (h : w_X12_holds_200 post rc0 σ y0) (hT : rf_T P s (rf_A o ad) o ad σ H locs) (hl : lv_has ls 4 []) : W p l e R s m args below meth c H locs 0 0 (MQ below (rf_Qi P o ad post) args s 0 0 (rf_A o ad)) (F0 m 200 ls [.int y0]) := by
  obtain ⟨hx, hb, hml, hown, hK, -, -⟩ := id hC
  exact rf_zret hC hT h.1 h.2 dX12_holds_200
end
def w_X12_holds_221 (post : Int32 → rf_S → Prop) (rc0 : (Int32 → rf_S → Prop) → rf_S → Int32 → Int32 → Prop) (σ : rf_S) (y0 : Int32) : Prop := narrow .boolean (.int y0) = .int y0 ∧ post y0 σ
section
variable {p : Program} {l : Launch} {e : Env} {s : State} {m : MethodId} {args : Array Value} {below : List Frame} {meth : Method} {c : Code} {P : hw_G} {o : Nat} {ad : Nat → Nat}
set_option maxRecDepth 100000 in
set_option maxHeartbeats 4000000 in
theorem t_X12_holds_221 {post : Int32 → rf_S → Prop} {rc0 : (Int32 → rf_S → Prop) → rf_S → Int32 → Int32 → Prop} (hC : rf_C P RX12 p s m meth c cX12_holds 4 (some .boolean)) {rmd R : Room} (hRm : 2 ≤ R.frames ∧ 50 ≤ R.locals ∧ rmd.frames + 1 ≤ R.frames ∧ 40 + rmd.locals ≤ R.locals ∧ rmd.cells = 0 ∧ rmd.slots = 0) (hrc0 : ∀ {σ : rf_S} {a0 : Int32} {a1 : Int32} {post : Int32 → rf_S → Prop}, rc0 post σ a0 a1 → Met l yX12_holds [Cond.code yX12_holds cX12_holds 4 (some .boolean)] rmd (rf_Pc P o ad σ [.ref o, .int a0, .int a1]) (rf_Qi P o ad post) 0 0 (rf_A o ad)) (σ : rf_S) (y0 : Int32) (H : Heap) (locs : List Loc) (ls : Array Slot) (h : w_X12_holds_221 post rc0 σ y0) (hT : rf_T P s (rf_A o ad) o ad σ H locs) (hl : lv_has ls 4 []) : W p l e R s m args below meth c H locs 0 0 (MQ below (rf_Qi P o ad post) args s 0 0 (rf_A o ad)) (F0 m 221 ls [.int y0]) := by
  obtain ⟨hx, hb, hml, hown, hK, -, -⟩ := id hC
  exact rf_zret hC hT h.1 h.2 dX12_holds_221
end
def w_X12_holds_47 (post : Int32 → rf_S → Prop) (rc0 : (Int32 → rf_S → Prop) → rf_S → Int32 → Int32 → Prop) : Nat → rf_S → Int32 → Int32 → Prop
  | 0, _, _, _ => False
  | n + 1, σ, x2, x3 => vp_in x3 (rf_n 47) ∧ (¬ (σ.2.2.1 47 x3.toNatClampNeg) = 1 → rc0 (fun r8 σ8 => narrow .boolean (.int r8) = .int r8 ∧ post r8 σ8) σ x3 x2) ∧ ((σ.2.2.1 47 x3.toNatClampNeg) = 1 → vp_in x3 (rf_n 49) ∧ rc0 (fun r9 σ9 => (¬ r9 = 0 → vp_in x3 (rf_n 48) ∧ w_X12_holds_47 post rc0 n σ9 x2 (σ9.2.2.1 48 x3.toNatClampNeg)) ∧ (r9 = 0 → post 0 σ9)) σ (σ.2.2.1 49 x3.toNatClampNeg) x2)
section
variable {p : Program} {l : Launch} {e : Env} {s : State} {m : MethodId} {args : Array Value} {below : List Frame} {meth : Method} {c : Code} {P : hw_G} {o : Nat} {ad : Nat → Nat}
set_option maxRecDepth 100000 in
set_option maxHeartbeats 4000000 in
theorem t_X12_holds_47 {post : Int32 → rf_S → Prop} {rc0 : (Int32 → rf_S → Prop) → rf_S → Int32 → Int32 → Prop} (hC : rf_C P RX12 p s m meth c cX12_holds 4 (some .boolean)) {rmd R : Room} (hRm : 2 ≤ R.frames ∧ 50 ≤ R.locals ∧ rmd.frames + 1 ≤ R.frames ∧ 40 + rmd.locals ≤ R.locals ∧ rmd.cells = 0 ∧ rmd.slots = 0) (hrc0 : ∀ {σ : rf_S} {a0 : Int32} {a1 : Int32} {post : Int32 → rf_S → Prop}, rc0 post σ a0 a1 → Met l yX12_holds [Cond.code yX12_holds cX12_holds 4 (some .boolean)] rmd (rf_Pc P o ad σ [.ref o, .int a0, .int a1]) (rf_Qi P o ad post) 0 0 (rf_A o ad)) : ∀ (n : Nat) (σ : rf_S) (x2 : Int32) (x3 : Int32) (H : Heap) (locs : List Loc) (ls : Array Slot), w_X12_holds_47 post rc0 n σ x2 x3 → rf_T P s (rf_A o ad) o ad σ H locs → lv_has ls 4 [(0, .ref o), (2, .int x2), (3, .int x3)] → W p l e R s m args below meth c H locs 0 0 (MQ below (rf_Qi P o ad post) args s 0 0 (rf_A o ad)) (F0 m 47 ls []) := by
  obtain ⟨hx, hb, hml, hown, hK, -, -⟩ := id hC
  intro n
  induction n with
  | zero => intro σ x2 x3 H locs ls h; exact False.elim h
  | succ n ih =>
    intro σ x2 x3 H locs ls h hT hl
    refine lv_aload_n hx hb dX12_holds_47 rfl (lv_at hl 0 rfl) ?_
    refine rf_get hx hb hK hT hown 47 (by decide) kfX12_235 (v := .ref (ad 47)) rfl dX12_holds_48 ?_
    refine lv_iload_n hx hb dX12_holds_51 rfl (lv_at hl 2 rfl) ?_
    obtain ⟨hi, h⟩ := h
    refine rf_iald hx hb hK hT 47 (by decide) rfl hi (v := σ.2.2.1 47 x3.toNatClampNeg) rfl dX12_holds_52 ?_
    refine lv_iconst (v := 1) hx hb dX12_holds_53 (by decide) ?_
    refine lv_icmp_ne (tgt := 83) hx hb dX12_holds_54 (by decide) (fun hc => ?_) (fun hc => ?_)
    · have h := h.1 hc
      refine lv_aload_n hx hb dX12_holds_83 rfl (lv_at hl 0 rfl) ?_
      refine lv_iload_n hx hb dX12_holds_84 rfl (lv_at hl 2 rfl) ?_
      refine lv_iload_n hx hb dX12_holds_85 rfl (lv_at hl 1 rfl) ?_
      refine rf_calli (rf_runV hx hb hml hown hK hT (hrc0 h) hRm.2.2.2.2.1 hRm.2.2.2.2.2 klX12_435 ki_X12_holds ks_X12_holds kn_X12 kc_X12_holds 2 ⟨rfl, by decide, by decide, by decide +kernel⟩ ⟨hRm.2.2.1, Nat.le_trans (by omega) hRm.2.2.2.1⟩ rfl hl.1 rfl (Nat.le_of_ble_eq_true rfl) ⟨Nat.zero_le _, Nat.zero_le _⟩ dX12_holds_86) hT (fun r8 σ8 H locs h hT => ?_)
      exact rf_zret hC hT h.1 h.2 dX12_holds_89
    · have h := h.2 hc
      refine lv_aload_n hx hb dX12_holds_57 rfl (lv_at hl 0 rfl) ?_
      refine lv_aload_n hx hb dX12_holds_58 rfl (lv_at hl 0 rfl) ?_
      refine rf_get hx hb hK hT hown 49 (by decide) kfX12_241 (v := .ref (ad 49)) rfl dX12_holds_59 ?_
      refine lv_iload_n hx hb dX12_holds_62 rfl (lv_at hl 2 rfl) ?_
      obtain ⟨hi, h⟩ := h
      refine rf_iald hx hb hK hT 49 (by decide) rfl hi (v := σ.2.2.1 49 x3.toNatClampNeg) rfl dX12_holds_63 ?_
      refine lv_iload_n hx hb dX12_holds_64 rfl (lv_at hl 1 rfl) ?_
      refine rf_calli (rf_runV hx hb hml hown hK hT (hrc0 h) hRm.2.2.2.2.1 hRm.2.2.2.2.2 klX12_435 ki_X12_holds ks_X12_holds kn_X12 kc_X12_holds 2 ⟨rfl, by decide, by decide, by decide +kernel⟩ ⟨hRm.2.2.1, Nat.le_trans (by omega) hRm.2.2.2.1⟩ rfl hl.1 rfl (Nat.le_of_ble_eq_true rfl) ⟨Nat.zero_le _, Nat.zero_le _⟩ dX12_holds_65) hT (fun r9 σ9 H locs h hT => ?_)
      refine lv_if_ne (tgt := 73) hx hb dX12_holds_68 (by decide) (fun hc => ?_) (fun hc => ?_)
      · have h := h.1 hc
        refine lv_aload_n hx hb dX12_holds_73 rfl (lv_at hl 0 rfl) ?_
        refine rf_get hx hb hK hT hown 48 (by decide) kfX12_238 (v := .ref (ad 48)) rfl dX12_holds_74 ?_
        refine lv_iload_n hx hb dX12_holds_77 rfl (lv_at hl 2 rfl) ?_
        obtain ⟨hi, h⟩ := h
        refine rf_iald hx hb hK hT 48 (by decide) rfl hi (v := σ9.2.2.1 48 x3.toNatClampNeg) rfl dX12_holds_78 ?_
        refine lv_istore_n (lv' := [(3, _), (0, _), (2, _)]) hx hb dX12_holds_79 rfl hl (by decide) rfl (fun ls hl => ?_)
        refine lv_goto (tgt := 47) hx hb dX12_holds_80 (by decide) ?_
        exact ih σ9 x2 (σ9.2.2.1 48 x3.toNatClampNeg) _ _ _ h hT (lv_sub hl [1, 2, 0] rfl)
      · have h := h.2 hc
        refine lv_iconst (v := 0) hx hb dX12_holds_71 (by decide) ?_
        exact rf_zret hC hT rfl h dX12_holds_72
end
def w_X12_holds_2 (post : Int32 → rf_S → Prop) (rc0 : (Int32 → rf_S → Prop) → rf_S → Int32 → Int32 → Prop) : Nat → rf_S → Int32 → Int32 → Prop
  | 0, _, _, _ => False
  | n + 1, σ, x2, x3 => vp_in x3 (rf_n 47) ∧ (¬ (σ.2.2.1 47 x3.toNatClampNeg) = 0 → vp_in x3 (rf_n 47) ∧ (¬ (σ.2.2.1 47 x3.toNatClampNeg) = 1 → vp_in x3 (rf_n 47) ∧ ((σ.2.2.1 47 x3.toNatClampNeg).toInt < 2 ∨ 5 < (σ.2.2.1 47 x3.toNatClampNeg).toInt → vp_in x3 (rf_n 52) ∧ wp_X12_fieldOf (fun r10 σ10 => wp_X12_fits (fun r11 σ11 => narrow .boolean (.int r11) = .int r11 ∧ post r11 σ11) σ10 x3 r10) σ x2 (σ.2.2.2 52 x3.toNatClampNeg)) ∧ ((σ.2.2.1 47 x3.toNatClampNeg).toInt = 2 → vp_in x3 (rf_n 48) ∧ rc0 (fun r12 σ12 => (¬ r12 = 0 → w_X12_holds_147 post rc0 σ12 0) ∧ (r12 = 0 → w_X12_holds_147 post rc0 σ12 1)) σ (σ.2.2.1 48 x3.toNatClampNeg) x2) ∧ ((σ.2.2.1 47 x3.toNatClampNeg).toInt = 3 → vp_in x2 (rf_n 11) ∧ vp_in x3 (rf_n 52) ∧ (¬ (lg_cmp (σ.2.2.2 11 x2.toNatClampNeg) (σ.2.2.2 52 x3.toNatClampNeg)) = 0 → w_X12_holds_179 post rc0 σ) ∧ ((lg_cmp (σ.2.2.2 11 x2.toNatClampNeg) (σ.2.2.2 52 x3.toNatClampNeg)) = 0 → vp_in x2 (rf_n 12) ∧ (¬ (lg_cmp (σ.2.2.2 12 x2.toNatClampNeg) 0) = 0 → w_X12_holds_179 post rc0 σ) ∧ ((lg_cmp (σ.2.2.2 12 x2.toNatClampNeg) 0) = 0 → w_X12_holds_180 post rc0 σ 1))) ∧ ((σ.2.2.1 47 x3.toNatClampNeg).toInt = 4 → vp_in x3 (rf_n 52) ∧ wp_X12_fieldOf (fun r13 σ13 => (r13 < 0 → w_X12_holds_200 post rc0 σ13 0) ∧ (¬ r13 < 0 → w_X12_holds_200 post rc0 σ13 1)) σ x2 (σ.2.2.2 52 x3.toNatClampNeg)) ∧ ((σ.2.2.1 47 x3.toNatClampNeg).toInt = 5 → vp_in x2 (rf_n 10) ∧ vp_in x3 (rf_n 48) ∧ (¬ (σ.2.2.1 10 x2.toNatClampNeg) = (σ.2.2.1 48 x3.toNatClampNeg) → w_X12_holds_221 post rc0 σ 0) ∧ ((σ.2.2.1 10 x2.toNatClampNeg) = (σ.2.2.1 48 x3.toNatClampNeg) → w_X12_holds_221 post rc0 σ 1))) ∧ ((σ.2.2.1 47 x3.toNatClampNeg) = 1 → ∃ n9, w_X12_holds_47 post rc0 n9 σ x2 x3)) ∧ ((σ.2.2.1 47 x3.toNatClampNeg) = 0 → vp_in x3 (rf_n 49) ∧ rc0 (fun r14 σ14 => (r14 = 0 → vp_in x3 (rf_n 48) ∧ w_X12_holds_2 post rc0 n σ14 x2 (σ14.2.2.1 48 x3.toNatClampNeg)) ∧ (¬ r14 = 0 → post 1 σ14)) σ (σ.2.2.1 49 x3.toNatClampNeg) x2)
section
variable {p : Program} {l : Launch} {e : Env} {s : State} {m : MethodId} {args : Array Value} {below : List Frame} {meth : Method} {c : Code} {P : hw_G} {o : Nat} {ad : Nat → Nat}
set_option maxRecDepth 100000 in
set_option maxHeartbeats 4000000 in
theorem t_X12_holds_2 {post : Int32 → rf_S → Prop} {rc0 : (Int32 → rf_S → Prop) → rf_S → Int32 → Int32 → Prop} (hC : rf_C P RX12 p s m meth c cX12_holds 4 (some .boolean)) {rmd R : Room} (hRm : 2 ≤ R.frames ∧ 50 ≤ R.locals ∧ rmd.frames + 1 ≤ R.frames ∧ 40 + rmd.locals ≤ R.locals ∧ rmd.cells = 0 ∧ rmd.slots = 0) (hrc0 : ∀ {σ : rf_S} {a0 : Int32} {a1 : Int32} {post : Int32 → rf_S → Prop}, rc0 post σ a0 a1 → Met l yX12_holds [Cond.code yX12_holds cX12_holds 4 (some .boolean)] rmd (rf_Pc P o ad σ [.ref o, .int a0, .int a1]) (rf_Qi P o ad post) 0 0 (rf_A o ad)) : ∀ (n : Nat) (σ : rf_S) (x2 : Int32) (x3 : Int32) (H : Heap) (locs : List Loc) (ls : Array Slot), w_X12_holds_2 post rc0 n σ x2 x3 → rf_T P s (rf_A o ad) o ad σ H locs → lv_has ls 4 [(0, .ref o), (2, .int x2), (3, .int x3)] → W p l e R s m args below meth c H locs 0 0 (MQ below (rf_Qi P o ad post) args s 0 0 (rf_A o ad)) (F0 m 2 ls []) := by
  obtain ⟨hx, hb, hml, hown, hK, -, -⟩ := id hC
  intro n
  induction n with
  | zero => intro σ x2 x3 H locs ls h; exact False.elim h
  | succ n ih =>
    intro σ x2 x3 H locs ls h hT hl
    refine lv_aload_n hx hb dX12_holds_2 rfl (lv_at hl 0 rfl) ?_
    refine rf_get hx hb hK hT hown 47 (by decide) kfX12_235 (v := .ref (ad 47)) rfl dX12_holds_3 ?_
    refine lv_iload_n hx hb dX12_holds_6 rfl (lv_at hl 2 rfl) ?_
    obtain ⟨hi, h⟩ := h
    refine rf_iald hx hb hK hT 47 (by decide) rfl hi (v := σ.2.2.1 47 x3.toNatClampNeg) rfl dX12_holds_7 ?_
    refine lv_if_ne (tgt := 37) hx hb dX12_holds_8 (by decide) (fun hc => ?_) (fun hc => ?_)
    · have h := h.1 hc
      refine lv_aload_n hx hb dX12_holds_37 rfl (lv_at hl 0 rfl) ?_
      refine rf_get hx hb hK hT hown 47 (by decide) kfX12_235 (v := .ref (ad 47)) rfl dX12_holds_38 ?_
      refine lv_iload_n hx hb dX12_holds_41 rfl (lv_at hl 2 rfl) ?_
      obtain ⟨hi, h⟩ := h
      refine rf_iald hx hb hK hT 47 (by decide) rfl hi (v := σ.2.2.1 47 x3.toNatClampNeg) rfl dX12_holds_42 ?_
      refine lv_iconst (v := 1) hx hb dX12_holds_43 (by decide) ?_
      refine lv_icmp_ne (tgt := 90) hx hb dX12_holds_44 (by decide) (fun hc => ?_) (fun hc => ?_)
      · have h := h.1 hc
        refine lv_aload_n hx hb dX12_holds_90 rfl (lv_at hl 0 rfl) ?_
        refine rf_get hx hb hK hT hown 47 (by decide) kfX12_235 (v := .ref (ad 47)) rfl dX12_holds_91 ?_
        refine lv_iload_n hx hb dX12_holds_94 rfl (lv_at hl 2 rfl) ?_
        obtain ⟨hi, h⟩ := h
        refine rf_iald hx hb hK hT 47 (by decide) rfl hi (v := σ.2.2.1 47 x3.toNatClampNeg) rfl dX12_holds_95 ?_
        by_cases hz : (σ.2.2.1 47 x3.toNatClampNeg).toInt < 2 ∨ 5 < (σ.2.2.1 47 x3.toNatClampNeg).toInt
        · have h := h.1 hz
          refine lv_tableOut (tgt := 222) hx hb dX12_holds_96 hz (by decide) ?_
          refine lv_aload_n hx hb dX12_holds_222 rfl (lv_at hl 0 rfl) ?_
          refine lv_iload_n hx hb dX12_holds_223 rfl (lv_at hl 2 rfl) ?_
          refine lv_aload_n hx hb dX12_holds_224 rfl (lv_at hl 0 rfl) ?_
          refine lv_iload_n hx hb dX12_holds_225 rfl (lv_at hl 1 rfl) ?_
          refine lv_aload_n hx hb dX12_holds_226 rfl (lv_at hl 0 rfl) ?_
          refine rf_get hx hb hK hT hown 52 (by decide) kfX12_250 (v := .ref (ad 52)) rfl dX12_holds_227 ?_
          refine lv_iload_n hx hb dX12_holds_230 rfl (lv_at hl 2 rfl) ?_
          obtain ⟨hi, h⟩ := h
          refine rf_lald hx hb hK hT 52 (by decide) rfl hi (v := σ.2.2.2 52 x3.toNatClampNeg) rfl dX12_holds_231 ?_
          refine rf_calli (rf_runV hx hb hml hown hK hT (c_X12_fieldOf h) rfl rfl klX12_438 ki_X12_fieldOf ks_X12_fieldOf kn_X12 kc_X12_fieldOf 2 ⟨rfl, by decide, by decide, by decide +kernel⟩ ⟨Nat.le_trans (by decide) hRm.1, Nat.le_trans (by decide) hRm.2.1⟩ rfl hl.1 rfl (Nat.le_of_ble_eq_true rfl) ⟨Nat.zero_le _, Nat.zero_le _⟩ dX12_holds_232) hT (fun r10 σ10 H locs h hT => ?_)
          refine rf_calli (rf_runV hx hb hml hown hK hT (c_X12_fits h) rfl rfl klX12_442 ki_X12_fits ks_X12_fits kn_X12 kc_X12_fits 2 ⟨rfl, by decide, by decide, by decide +kernel⟩ ⟨Nat.le_trans (by decide) hRm.1, Nat.le_trans (by decide) hRm.2.1⟩ rfl hl.1 rfl (Nat.le_of_ble_eq_true rfl) ⟨Nat.zero_le _, Nat.zero_le _⟩ dX12_holds_235) hT (fun r11 σ11 H locs h hT => ?_)
          exact rf_zret hC hT h.1 h.2 dX12_holds_238
        have hz : (σ.2.2.1 47 x3.toNatClampNeg).toInt = 2 ∨ (σ.2.2.1 47 x3.toNatClampNeg).toInt = 3 ∨ (σ.2.2.1 47 x3.toNatClampNeg).toInt = 4 ∨ (σ.2.2.1 47 x3.toNatClampNeg).toInt = 5 := by omega
        rcases hz with hz | hz | hz | hz
        · have h := h.2.1 hz
          refine hw_tab (tgt := 128) hx hb hz dX12_holds_96 (by decide) (by decide) (off := 32) rfl (by decide) ?_
          refine lv_aload_n hx hb dX12_holds_128 rfl (lv_at hl 0 rfl) ?_
          refine lv_aload_n hx hb dX12_holds_129 rfl (lv_at hl 0 rfl) ?_
          refine rf_get hx hb hK hT hown 48 (by decide) kfX12_238 (v := .ref (ad 48)) rfl dX12_holds_130 ?_
          refine lv_iload_n hx hb dX12_holds_133 rfl (lv_at hl 2 rfl) ?_
          obtain ⟨hi, h⟩ := h
          refine rf_iald hx hb hK hT 48 (by decide) rfl hi (v := σ.2.2.1 48 x3.toNatClampNeg) rfl dX12_holds_134 ?_
          refine lv_iload_n hx hb dX12_holds_135 rfl (lv_at hl 1 rfl) ?_
          refine rf_calli (rf_runV hx hb hml hown hK hT (hrc0 h) hRm.2.2.2.2.1 hRm.2.2.2.2.2 klX12_435 ki_X12_holds ks_X12_holds kn_X12 kc_X12_holds 2 ⟨rfl, by decide, by decide, by decide +kernel⟩ ⟨hRm.2.2.1, Nat.le_trans (by omega) hRm.2.2.2.1⟩ rfl hl.1 rfl (Nat.le_of_ble_eq_true rfl) ⟨Nat.zero_le _, Nat.zero_le _⟩ dX12_holds_136) hT (fun r12 σ12 H locs h hT => ?_)
          refine lv_if_ne (tgt := 146) hx hb dX12_holds_139 (by decide) (fun hc => ?_) (fun hc => ?_)
          · have h := h.1 hc
            refine lv_iconst (v := 0) hx hb dX12_holds_146 (by decide) ?_
            exact t_X12_holds_147 hC hRm hrc0 σ12 0 _ _ _ h hT (lv_sub hl [] rfl)
          · have h := h.2 hc
            refine lv_iconst (v := 1) hx hb dX12_holds_142 (by decide) ?_
            refine lv_goto (tgt := 147) hx hb dX12_holds_143 (by decide) ?_
            exact t_X12_holds_147 hC hRm hrc0 σ12 1 _ _ _ h hT (lv_sub hl [] rfl)
        · have h := h.2.2.1 hz
          refine hw_tab (tgt := 148) hx hb hz dX12_holds_96 (by decide) (by decide) (off := 52) rfl (by decide) ?_
          refine lv_aload_n hx hb dX12_holds_148 rfl (lv_at hl 0 rfl) ?_
          refine rf_get hx hb hK hT hown 11 (by decide) kfX12_145 (v := .ref (ad 11)) rfl dX12_holds_149 ?_
          refine lv_iload_n hx hb dX12_holds_152 rfl (lv_at hl 1 rfl) ?_
          obtain ⟨hi, h⟩ := h
          refine rf_lald hx hb hK hT 11 (by decide) rfl hi (v := σ.2.2.2 11 x2.toNatClampNeg) rfl dX12_holds_153 ?_
          refine lv_aload_n hx hb dX12_holds_154 rfl (lv_at hl 0 rfl) ?_
          refine rf_get hx hb hK hT hown 52 (by decide) kfX12_250 (v := .ref (ad 52)) rfl dX12_holds_155 ?_
          refine lv_iload_n hx hb dX12_holds_158 rfl (lv_at hl 2 rfl) ?_
          obtain ⟨hi, h⟩ := h
          refine rf_lald hx hb hK hT 52 (by decide) rfl hi (v := σ.2.2.2 52 x3.toNatClampNeg) rfl dX12_holds_159 ?_
          refine W.lcmp hx hb dX12_holds_160 ?_
          refine lv_if_ne (tgt := 179) hx hb dX12_holds_161 (by decide) (fun hc => ?_) (fun hc => ?_)
          · have h := h.1 hc
            exact t_X12_holds_179 hC hRm hrc0 σ _ _ _ h hT (lv_sub hl [] rfl)
          · have h := h.2 hc
            refine lv_aload_n hx hb dX12_holds_164 rfl (lv_at hl 0 rfl) ?_
            refine rf_get hx hb hK hT hown 12 (by decide) kfX12_148 (v := .ref (ad 12)) rfl dX12_holds_165 ?_
            refine lv_iload_n hx hb dX12_holds_168 rfl (lv_at hl 1 rfl) ?_
            obtain ⟨hi, h⟩ := h
            refine rf_lald hx hb hK hT 12 (by decide) rfl hi (v := σ.2.2.2 12 x2.toNatClampNeg) rfl dX12_holds_169 ?_
            refine lv_lconst (v := 0) hx hb dX12_holds_170 (by decide) ?_
            refine W.lcmp hx hb dX12_holds_171 ?_
            refine lv_if_ne (tgt := 179) hx hb dX12_holds_172 (by decide) (fun hc => ?_) (fun hc => ?_)
            · have h := h.1 hc
              exact t_X12_holds_179 hC hRm hrc0 σ _ _ _ h hT (lv_sub hl [] rfl)
            · have h := h.2 hc
              refine lv_iconst (v := 1) hx hb dX12_holds_175 (by decide) ?_
              refine lv_goto (tgt := 180) hx hb dX12_holds_176 (by decide) ?_
              exact t_X12_holds_180 hC hRm hrc0 σ 1 _ _ _ h hT (lv_sub hl [] rfl)
        · have h := h.2.2.2.1 hz
          refine hw_tab (tgt := 181) hx hb hz dX12_holds_96 (by decide) (by decide) (off := 85) rfl (by decide) ?_
          refine lv_aload_n hx hb dX12_holds_181 rfl (lv_at hl 0 rfl) ?_
          refine lv_iload_n hx hb dX12_holds_182 rfl (lv_at hl 1 rfl) ?_
          refine lv_aload_n hx hb dX12_holds_183 rfl (lv_at hl 0 rfl) ?_
          refine rf_get hx hb hK hT hown 52 (by decide) kfX12_250 (v := .ref (ad 52)) rfl dX12_holds_184 ?_
          refine lv_iload_n hx hb dX12_holds_187 rfl (lv_at hl 2 rfl) ?_
          obtain ⟨hi, h⟩ := h
          refine rf_lald hx hb hK hT 52 (by decide) rfl hi (v := σ.2.2.2 52 x3.toNatClampNeg) rfl dX12_holds_188 ?_
          refine rf_calli (rf_runV hx hb hml hown hK hT (c_X12_fieldOf h) rfl rfl klX12_438 ki_X12_fieldOf ks_X12_fieldOf kn_X12 kc_X12_fieldOf 2 ⟨rfl, by decide, by decide, by decide +kernel⟩ ⟨Nat.le_trans (by decide) hRm.1, Nat.le_trans (by decide) hRm.2.1⟩ rfl hl.1 rfl (Nat.le_of_ble_eq_true rfl) ⟨Nat.zero_le _, Nat.zero_le _⟩ dX12_holds_189) hT (fun r13 σ13 H locs h hT => ?_)
          refine lv_if_lt (tgt := 199) hx hb dX12_holds_192 (by decide) (fun hc => ?_) (fun hc => ?_)
          · have h := h.1 hc
            refine lv_iconst (v := 0) hx hb dX12_holds_199 (by decide) ?_
            exact t_X12_holds_200 hC hRm hrc0 σ13 0 _ _ _ h hT (lv_sub hl [] rfl)
          · have h := h.2 hc
            refine lv_iconst (v := 1) hx hb dX12_holds_195 (by decide) ?_
            refine lv_goto (tgt := 200) hx hb dX12_holds_196 (by decide) ?_
            exact t_X12_holds_200 hC hRm hrc0 σ13 1 _ _ _ h hT (lv_sub hl [] rfl)
        · have h := h.2.2.2.2 hz
          refine hw_tab (tgt := 201) hx hb hz dX12_holds_96 (by decide) (by decide) (off := 105) rfl (by decide) ?_
          refine lv_aload_n hx hb dX12_holds_201 rfl (lv_at hl 0 rfl) ?_
          refine rf_get hx hb hK hT hown 10 (by decide) kfX12_173 (v := .ref (ad 10)) rfl dX12_holds_202 ?_
          refine lv_iload_n hx hb dX12_holds_205 rfl (lv_at hl 1 rfl) ?_
          obtain ⟨hi, h⟩ := h
          refine rf_iald hx hb hK hT 10 (by decide) rfl hi (v := σ.2.2.1 10 x2.toNatClampNeg) rfl dX12_holds_206 ?_
          refine lv_aload_n hx hb dX12_holds_207 rfl (lv_at hl 0 rfl) ?_
          refine rf_get hx hb hK hT hown 48 (by decide) kfX12_238 (v := .ref (ad 48)) rfl dX12_holds_208 ?_
          refine lv_iload_n hx hb dX12_holds_211 rfl (lv_at hl 2 rfl) ?_
          obtain ⟨hi, h⟩ := h
          refine rf_iald hx hb hK hT 48 (by decide) rfl hi (v := σ.2.2.1 48 x3.toNatClampNeg) rfl dX12_holds_212 ?_
          refine lv_icmp_ne (tgt := 220) hx hb dX12_holds_213 (by decide) (fun hc => ?_) (fun hc => ?_)
          · have h := h.1 hc
            refine lv_iconst (v := 0) hx hb dX12_holds_220 (by decide) ?_
            exact t_X12_holds_221 hC hRm hrc0 σ 0 _ _ _ h hT (lv_sub hl [] rfl)
          · have h := h.2 hc
            refine lv_iconst (v := 1) hx hb dX12_holds_216 (by decide) ?_
            refine lv_goto (tgt := 221) hx hb dX12_holds_217 (by decide) ?_
            exact t_X12_holds_221 hC hRm hrc0 σ 1 _ _ _ h hT (lv_sub hl [] rfl)
      · have h := h.2 hc
        obtain ⟨n9, h⟩ := h
        exact t_X12_holds_47 hC hRm hrc0 n9 σ x2 x3 _ _ _ h hT (lv_sub hl [0, 1, 2] rfl)
    · have h := h.2 hc
      refine lv_aload_n hx hb dX12_holds_11 rfl (lv_at hl 0 rfl) ?_
      refine lv_aload_n hx hb dX12_holds_12 rfl (lv_at hl 0 rfl) ?_
      refine rf_get hx hb hK hT hown 49 (by decide) kfX12_241 (v := .ref (ad 49)) rfl dX12_holds_13 ?_
      refine lv_iload_n hx hb dX12_holds_16 rfl (lv_at hl 2 rfl) ?_
      obtain ⟨hi, h⟩ := h
      refine rf_iald hx hb hK hT 49 (by decide) rfl hi (v := σ.2.2.1 49 x3.toNatClampNeg) rfl dX12_holds_17 ?_
      refine lv_iload_n hx hb dX12_holds_18 rfl (lv_at hl 1 rfl) ?_
      refine rf_calli (rf_runV hx hb hml hown hK hT (hrc0 h) hRm.2.2.2.2.1 hRm.2.2.2.2.2 klX12_435 ki_X12_holds ks_X12_holds kn_X12 kc_X12_holds 2 ⟨rfl, by decide, by decide, by decide +kernel⟩ ⟨hRm.2.2.1, Nat.le_trans (by omega) hRm.2.2.2.1⟩ rfl hl.1 rfl (Nat.le_of_ble_eq_true rfl) ⟨Nat.zero_le _, Nat.zero_le _⟩ dX12_holds_19) hT (fun r14 σ14 H locs h hT => ?_)
      refine lv_if_eq (tgt := 27) hx hb dX12_holds_22 (by decide) (fun hc => ?_) (fun hc => ?_)
      · have h := h.1 hc
        refine lv_aload_n hx hb dX12_holds_27 rfl (lv_at hl 0 rfl) ?_
        refine rf_get hx hb hK hT hown 48 (by decide) kfX12_238 (v := .ref (ad 48)) rfl dX12_holds_28 ?_
        refine lv_iload_n hx hb dX12_holds_31 rfl (lv_at hl 2 rfl) ?_
        obtain ⟨hi, h⟩ := h
        refine rf_iald hx hb hK hT 48 (by decide) rfl hi (v := σ14.2.2.1 48 x3.toNatClampNeg) rfl dX12_holds_32 ?_
        refine lv_istore_n (lv' := [(3, _), (0, _), (2, _)]) hx hb dX12_holds_33 rfl hl (by decide) rfl (fun ls hl => ?_)
        refine lv_goto (tgt := 2) hx hb dX12_holds_34 (by decide) ?_
        exact ih σ14 x2 (σ14.2.2.1 48 x3.toNatClampNeg) _ _ _ h hT (lv_sub hl [1, 2, 0] rfl)
      · have h := h.2 hc
        refine lv_iconst (v := 1) hx hb dX12_holds_25 (by decide) ?_
        exact rf_zret hC hT rfl h dX12_holds_26
end
def wpb_X12_holds (rc0 : (Int32 → rf_S → Prop) → rf_S → Int32 → Int32 → Prop) (post : Int32 → rf_S → Prop) (σ : rf_S) (p1 : Int32) (p2 : Int32) : Prop := ∃ n9, w_X12_holds_2 post rc0 n9 σ p2 p1
set_option maxRecDepth 100000 in
set_option maxHeartbeats 4000000 in
theorem cb_X12_holds {l : Launch} {P : hw_G} {o : Nat} {ad : Nat → Nat} {rc0 : (Int32 → rf_S → Prop) → rf_S → Int32 → Int32 → Prop} {rmd R : Room} (hRm : 2 ≤ R.frames ∧ 50 ≤ R.locals ∧ rmd.frames + 1 ≤ R.frames ∧ 40 + rmd.locals ≤ R.locals ∧ rmd.cells = 0 ∧ rmd.slots = 0) (hrc0 : ∀ {σ : rf_S} {a0 : Int32} {a1 : Int32} {post : Int32 → rf_S → Prop}, rc0 post σ a0 a1 → Met l yX12_holds [Cond.code yX12_holds cX12_holds 4 (some .boolean)] rmd (rf_Pc P o ad σ [.ref o, .int a0, .int a1]) (rf_Qi P o ad post) 0 0 (rf_A o ad)) {σ : rf_S} {p1 : Int32} {p2 : Int32} {post : Int32 → rf_S → Prop} (h : wpb_X12_holds rc0 post σ p1 p2) : Met l yX12_holds [Cond.code yX12_holds cX12_holds 4 (some .boolean)] R (rf_Pc P o ad σ [.ref o, .int p1, .int p2]) (rf_Qi P o ad post) 0 0 (rf_A o ad) := by
  refine rf_met (by decide) rfl (Nat.le_of_ble_eq_true rfl) ?_
  intro p e s m below meth c ls hC hT hl
  obtain ⟨hx, hb, hml, hown, hK, -, -⟩ := id hC
  have hl : lv_has ls 4 [(0, .ref o), (1, .int p1), (2, .int p2)] := hl
  refine lv_iload_n hx hb dX12_holds_0 rfl (lv_at hl 1 rfl) ?_
  refine lv_istore_n (lv' := [(3, _), (0, _), (1, _), (2, _)]) hx hb dX12_holds_1 rfl hl (by decide) rfl (fun ls hl => ?_)
  obtain ⟨n9, h⟩ := h
  exact t_X12_holds_2 hC hRm hrc0 n9 σ p2 p1 _ _ _ h hT (lv_sub hl [1, 3, 0] rfl)
abbrev rmg_X12_holds (d : Nat) : Room := { frames := 2 + d, cells := 0, slots := 0, locals := 50 + 40 * d }
def wp_X12_holds : Nat → (Int32 → rf_S → Prop) → rf_S → Int32 → Int32 → Prop
  | 0, _, _, _, _ => False
  | d + 1, post, σ, a0, a1 => wpb_X12_holds (wp_X12_holds d) post σ a0 a1
theorem c_X12_holds {l : Launch} {P : hw_G} {o : Nat} {ad : Nat → Nat} (d : Nat) : ∀ {σ : rf_S} {a0 : Int32} {a1 : Int32} {post : Int32 → rf_S → Prop}, wp_X12_holds d post σ a0 a1 → Met l yX12_holds [Cond.code yX12_holds cX12_holds 4 (some .boolean)] (rmg_X12_holds d) (rf_Pc P o ad σ [.ref o, .int a0, .int a1]) (rf_Qi P o ad post) 0 0 (rf_A o ad) := by
  induction d with
  | zero => intro σ a0 a1 post h; exact False.elim h
  | succ d ih =>
    intro σ a0 a1 post h
    exact cb_X12_holds (rmd := rmg_X12_holds d) ⟨by show _ ≤ _ + (d + 1); omega, by show _ ≤ _ + 40 * (d + 1); omega, by show _ + d + 1 ≤ _ + (d + 1); omega, by show 40 + (_ + 40 * d) ≤ _ + 40 * (d + 1); omega, rfl, rfl⟩ ih h
/-! X12_answered -/
abbrev rm_X12_answered : Room := { frames := 1, cells := 0, slots := 0, locals := 21 }
def w_X12_answered_96 (post : rf_S → Prop) (k8 : rf_S → Int32 → Int32 → Int32 → Prop) (σ : rf_S) (x1 : Int32) (x2 : Int32) (x4 : Int32) : Prop := k8 σ x1 x2 (x4 + 1)
section
variable {p : Program} {l : Launch} {e : Env} {s : State} {m : MethodId} {args : Array Value} {below : List Frame} {meth : Method} {c : Code} {P : hw_G} {o : Nat} {ad : Nat → Nat}
set_option maxRecDepth 100000 in
set_option maxHeartbeats 4000000 in
theorem t_X12_answered_96 {post : rf_S → Prop} {k8 : rf_S → Int32 → Int32 → Int32 → Prop} (hC : rf_C P RX12 p s m meth c cX12_answered 5 none) (hk8 : ∀ (σ : rf_S) (x1 : Int32) (x2 : Int32) (x4 : Int32) (H : Heap) (locs : List Loc) (ls : Array Slot), k8 σ x1 x2 x4 → rf_T P s (rf_A o ad) o ad σ H locs → lv_has ls 5 [(0, .ref o), (1, .int x1), (2, .int x2), (4, .int x4)] → W p l e rm_X12_answered s m args below meth c H locs 0 0 (MQ below (rf_Qv P o ad post) args s 0 0 (rf_A o ad)) (F0 m 8 ls [])) (σ : rf_S) (x1 : Int32) (x2 : Int32) (x4 : Int32) (H : Heap) (locs : List Loc) (ls : Array Slot) (h : w_X12_answered_96 post k8 σ x1 x2 x4) (hT : rf_T P s (rf_A o ad) o ad σ H locs) (hl : lv_has ls 5 [(0, .ref o), (1, .int x1), (2, .int x2), (4, .int x4)]) : W p l e rm_X12_answered s m args below meth c H locs 0 0 (MQ below (rf_Qv P o ad post) args s 0 0 (rf_A o ad)) (F0 m 96 ls []) := by
  obtain ⟨hx, hb, hml, hown, hK, -, -⟩ := id hC
  refine lv_iinc (v := x4 + 1) (lv' := [(4, _), (0, _), (1, _), (2, _)]) hx hb dX12_answered_96 hl (k := 3) rfl rfl (by decide) rfl (fun ls hl => ?_)
  refine lv_goto (tgt := 8) hx hb dX12_answered_99 (by decide) ?_
  exact hk8 σ x1 x2 (x4 + 1) _ _ _ h hT (lv_sub hl [1, 2, 3, 0] rfl)
end
def w_X12_answered_8 (post : rf_S → Prop) : Nat → rf_S → Int32 → Int32 → Int32 → Prop
  | 0, _, _, _, _ => False
  | n + 1, σ, x1, x2, x4 => ((σ.1 72) ≤ x4 → post σ) ∧ (¬ (σ.1 72) ≤ x4 → vp_in x4 (rf_n 71) ∧ (¬ (σ.2.2.1 71 x4.toNatClampNeg) = 0 → w_X12_answered_96 post (w_X12_answered_8 post n) σ x1 x2 x4) ∧ ((σ.2.2.1 71 x4.toNatClampNeg) = 0 → vp_in x4 (rf_n 69) ∧ (¬ (σ.2.2.1 69 x4.toNatClampNeg) = x1 → w_X12_answered_96 post (w_X12_answered_8 post n) σ x1 x2 x4) ∧ ((σ.2.2.1 69 x4.toNatClampNeg) = x1 → vp_in x4 (rf_n 70) ∧ vp_in ((4000 * x1) + (σ.2.2.1 70 x4.toNatClampNeg)) (rf_n 63) ∧ vp_in ((4000 * x1) + x2) (rf_n 63) ∧ (¬ (σ.2.2.1 63 ((4000 * x1) + (σ.2.2.1 70 x4.toNatClampNeg)).toNatClampNeg) = (σ.2.2.1 63 ((4000 * x1) + x2).toNatClampNeg) → w_X12_answered_96 post (w_X12_answered_8 post n) σ x1 x2 x4) ∧ ((σ.2.2.1 63 ((4000 * x1) + (σ.2.2.1 70 x4.toNatClampNeg)).toNatClampNeg) = (σ.2.2.1 63 ((4000 * x1) + x2).toNatClampNeg) → wp_X12_due (fun r2 σ2 => vp_in x2 (rf_n 8) ∧ ((lg_cmp r2 ((σ2.2.2.1 8 x2.toNatClampNeg).toInt64)) < 0 → w_X12_answered_96 post (w_X12_answered_8 post n) σ2 x1 x2 x4) ∧ (¬ (lg_cmp r2 ((σ2.2.2.1 8 x2.toNatClampNeg).toInt64)) < 0 → vp_in x4 (rf_n 71) ∧ w_X12_answered_96 post (w_X12_answered_8 post n) (rf_ua σ2 71 x4.toNatClampNeg (vp_nar .boolean 1)) x1 x2 x4)) σ x4))))
section
variable {p : Program} {l : Launch} {e : Env} {s : State} {m : MethodId} {args : Array Value} {below : List Frame} {meth : Method} {c : Code} {P : hw_G} {o : Nat} {ad : Nat → Nat}
set_option maxRecDepth 100000 in
set_option maxHeartbeats 4000000 in
theorem t_X12_answered_8 {post : rf_S → Prop} (hC : rf_C P RX12 p s m meth c cX12_answered 5 none) : ∀ (n : Nat) (σ : rf_S) (x1 : Int32) (x2 : Int32) (x4 : Int32) (H : Heap) (locs : List Loc) (ls : Array Slot), w_X12_answered_8 post n σ x1 x2 x4 → rf_T P s (rf_A o ad) o ad σ H locs → lv_has ls 5 [(0, .ref o), (1, .int x1), (2, .int x2), (4, .int x4)] → W p l e rm_X12_answered s m args below meth c H locs 0 0 (MQ below (rf_Qv P o ad post) args s 0 0 (rf_A o ad)) (F0 m 8 ls []) := by
  obtain ⟨hx, hb, hml, hown, hK, -, -⟩ := id hC
  intro n
  induction n with
  | zero => intro σ x1 x2 x4 H locs ls h; exact False.elim h
  | succ n ih =>
    intro σ x1 x2 x4 H locs ls h hT hl
    refine lv_iload hx hb dX12_answered_8 (lv_at hl 3 rfl) ?_
    refine lv_aload_n hx hb dX12_answered_10 rfl (lv_at hl 0 rfl) ?_
    refine rf_get hx hb hK hT hown 72 (by decide) kfX12_80 (v := .int (σ.1 72)) rfl dX12_answered_11 ?_
    refine lv_icmp_ge (tgt := 102) hx hb dX12_answered_14 (by decide) (fun hc => ?_) (fun hc => ?_)
    · have h := h.1 hc
      exact rf_vret hC hT h dX12_answered_102
    · have h := h.2 hc
      refine lv_aload_n hx hb dX12_answered_17 rfl (lv_at hl 0 rfl) ?_
      refine rf_get hx hb hK hT hown 71 (by decide) kfX12_272 (v := .ref (ad 71)) rfl dX12_answered_18 ?_
      refine lv_iload hx hb dX12_answered_21 (lv_at hl 3 rfl) ?_
      obtain ⟨hi, h⟩ := h
      refine rf_zald hx hb hK hT 71 (by decide) rfl hi (v := σ.2.2.1 71 x4.toNatClampNeg) rfl dX12_answered_23 ?_
      refine lv_if_ne (tgt := 96) hx hb dX12_answered_24 (by decide) (fun hc => ?_) (fun hc => ?_)
      · have h := h.1 hc
        exact t_X12_answered_96 hC ih σ x1 x2 x4 _ _ _ h hT (lv_sub hl [0, 1, 2, 3] rfl)
      · have h := h.2 hc
        refine lv_aload_n hx hb dX12_answered_27 rfl (lv_at hl 0 rfl) ?_
        refine rf_get hx hb hK hT hown 69 (by decide) kfX12_266 (v := .ref (ad 69)) rfl dX12_answered_28 ?_
        refine lv_iload hx hb dX12_answered_31 (lv_at hl 3 rfl) ?_
        obtain ⟨hi, h⟩ := h
        refine rf_bald hx hb hK hT 69 (by decide) rfl hi (v := σ.2.2.1 69 x4.toNatClampNeg) rfl dX12_answered_33 ?_
        refine lv_iload_n hx hb dX12_answered_34 rfl (lv_at hl 1 rfl) ?_
        refine lv_icmp_ne (tgt := 96) hx hb dX12_answered_35 (by decide) (fun hc => ?_) (fun hc => ?_)
        · have h := h.1 hc
          exact t_X12_answered_96 hC ih σ x1 x2 x4 _ _ _ h hT (lv_sub hl [0, 1, 2, 3] rfl)
        · have h := h.2 hc
          refine lv_aload_n hx hb dX12_answered_38 rfl (lv_at hl 0 rfl) ?_
          refine rf_get hx hb hK hT hown 63 (by decide) kfX12_87 (v := .ref (ad 63)) rfl dX12_answered_39 ?_
          refine lv_sipush (v := 4000) hx hb dX12_answered_42 (by decide) ?_
          refine lv_iload_n hx hb dX12_answered_45 rfl (lv_at hl 1 rfl) ?_
          refine lv_imul hx hb dX12_answered_46 ?_
          refine lv_aload_n hx hb dX12_answered_47 rfl (lv_at hl 0 rfl) ?_
          refine rf_get hx hb hK hT hown 70 (by decide) kfX12_269 (v := .ref (ad 70)) rfl dX12_answered_48 ?_
          refine lv_iload hx hb dX12_answered_51 (lv_at hl 3 rfl) ?_
          obtain ⟨hi, h⟩ := h
          refine rf_sald hx hb hK hT 70 (by decide) rfl hi (v := σ.2.2.1 70 x4.toNatClampNeg) rfl dX12_answered_53 ?_
          refine lv_iadd hx hb dX12_answered_54 ?_
          obtain ⟨hi, h⟩ := h
          refine rf_sald hx hb hK hT 63 (by decide) rfl hi (v := σ.2.2.1 63 ((4000 * x1) + (σ.2.2.1 70 x4.toNatClampNeg)).toNatClampNeg) rfl dX12_answered_55 ?_
          refine lv_aload_n hx hb dX12_answered_56 rfl (lv_at hl 0 rfl) ?_
          refine rf_get hx hb hK hT hown 63 (by decide) kfX12_87 (v := .ref (ad 63)) rfl dX12_answered_57 ?_
          refine lv_sipush (v := 4000) hx hb dX12_answered_60 (by decide) ?_
          refine lv_iload_n hx hb dX12_answered_63 rfl (lv_at hl 1 rfl) ?_
          refine lv_imul hx hb dX12_answered_64 ?_
          refine lv_iload_n hx hb dX12_answered_65 rfl (lv_at hl 2 rfl) ?_
          refine lv_iadd hx hb dX12_answered_66 ?_
          obtain ⟨hi, h⟩ := h
          refine rf_sald hx hb hK hT 63 (by decide) rfl hi (v := σ.2.2.1 63 ((4000 * x1) + x2).toNatClampNeg) rfl dX12_answered_67 ?_
          refine lv_icmp_ne (tgt := 96) hx hb dX12_answered_68 (by decide) (fun hc => ?_) (fun hc => ?_)
          · have h := h.1 hc
            exact t_X12_answered_96 hC ih σ x1 x2 x4 _ _ _ h hT (lv_sub hl [0, 1, 2, 3] rfl)
          · have h := h.2 hc
            refine lv_aload_n hx hb dX12_answered_71 rfl (lv_at hl 0 rfl) ?_
            refine lv_iload hx hb dX12_answered_72 (lv_at hl 3 rfl) ?_
            refine rf_calll (rf_runV hx hb hml hown hK hT (c_X12_due h) rfl rfl klX12_486 ki_X12_due ks_X12_due kn_X12 kc_X12_due 1 ⟨rfl, by decide, by decide, by decide +kernel⟩ ⟨by decide, by decide⟩ rfl hl.1 rfl (Nat.le_of_ble_eq_true rfl) ⟨Nat.le_refl _, Nat.le_refl _⟩ dX12_answered_74) hT (fun r2 σ2 H locs h hT => ?_)
            refine lv_aload_n hx hb dX12_answered_77 rfl (lv_at hl 0 rfl) ?_
            refine rf_get hx hb hK hT hown 8 (by decide) kfX12_170 (v := .ref (ad 8)) rfl dX12_answered_78 ?_
            refine lv_iload_n hx hb dX12_answered_81 rfl (lv_at hl 2 rfl) ?_
            obtain ⟨hi, h⟩ := h
            refine rf_iald hx hb hK hT 8 (by decide) rfl hi (v := σ2.2.2.1 8 x2.toNatClampNeg) rfl dX12_answered_82 ?_
            refine lv_i2l (v := (σ2.2.2.1 8 x2.toNatClampNeg).toInt64) hx hb dX12_answered_83 rfl ?_
            refine W.lcmp hx hb dX12_answered_84 ?_
            refine lv_if_lt (tgt := 96) hx hb dX12_answered_85 (by decide) (fun hc => ?_) (fun hc => ?_)
            · have h := h.1 hc
              exact t_X12_answered_96 hC ih σ2 x1 x2 x4 _ _ _ h hT (lv_sub hl [0, 1, 2, 3] rfl)
            · have h := h.2 hc
              refine lv_aload_n hx hb dX12_answered_88 rfl (lv_at hl 0 rfl) ?_
              refine rf_get hx hb hK hT hown 71 (by decide) kfX12_272 (v := .ref (ad 71)) rfl dX12_answered_89 ?_
              refine lv_iload hx hb dX12_answered_92 (lv_at hl 3 rfl) ?_
              refine lv_iconst (v := 1) hx hb dX12_answered_94 (by decide) ?_
              obtain ⟨hi, h⟩ := h
              refine rf_zast hx hb hK hT 71 (by decide) rfl hi dX12_answered_95 (fun H locs hT => ?_)
              exact t_X12_answered_96 hC ih (rf_ua σ2 71 x4.toNatClampNeg (vp_nar .boolean 1)) x1 x2 x4 _ _ _ h hT (lv_sub hl [0, 1, 2, 3] rfl)
end
def wp_X12_answered (post : rf_S → Prop) (σ : rf_S) (p1 : Int32) (p2 : Int32) (p3 : Int32) : Prop := (¬ p3 = 0 → ∃ n9, w_X12_answered_8 post n9 σ p1 p2 0) ∧ (p3 = 0 → post σ)
set_option maxRecDepth 100000 in
set_option maxHeartbeats 4000000 in
theorem c_X12_answered {l : Launch} {P : hw_G} {o : Nat} {ad : Nat → Nat} {σ : rf_S} {p1 : Int32} {p2 : Int32} {p3 : Int32} {post : rf_S → Prop} (h : wp_X12_answered post σ p1 p2 p3) : Met l yX12_answered [Cond.code yX12_answered cX12_answered 5 none] rm_X12_answered (rf_Pc P o ad σ [.ref o, .int p1, .int p2, .int p3]) (rf_Qv P o ad post) 0 0 (rf_A o ad) := by
  refine rf_met (by decide) rfl (Nat.le_of_ble_eq_true rfl) ?_
  intro p e s m below meth c ls hC hT hl
  obtain ⟨hx, hb, hml, hown, hK, -, -⟩ := id hC
  have hl : lv_has ls 5 [(0, .ref o), (1, .int p1), (2, .int p2), (3, .int p3)] := hl
  refine lv_iload_n hx hb dX12_answered_0 rfl (lv_at hl 3 rfl) ?_
  refine lv_if_ne (tgt := 5) hx hb dX12_answered_1 (by decide) (fun hc => ?_) (fun hc => ?_)
  · have h := h.1 hc
    refine lv_iconst (v := 0) hx hb dX12_answered_5 (by decide) ?_
    refine lv_istore (lv' := [(4, _), (0, _), (1, _), (2, _), (3, _)]) hx hb dX12_answered_6 hl (by decide) rfl (fun ls hl => ?_)
    obtain ⟨n9, h⟩ := h
    exact t_X12_answered_8 hC n9 σ p1 p2 0 _ _ _ h hT (lv_sub hl [1, 2, 3, 0] rfl)
  · have h := h.2 hc
    exact rf_vret hC hT h dX12_answered_4
/-! X12_waits -/
abbrev rm_X12_waits : Room := { frames := 0, cells := 0, slots := 0, locals := 0 }
def wp_X12_waits (post : rf_S → Prop) (σ : rf_S) (p1 : Int32) (p2 : Int32) : Prop := vp_in (σ.1 72) (rf_n 69) ∧ vp_in (σ.1 72) (rf_n 70) ∧ vp_in (σ.1 72) (rf_n 71) ∧ post (rf_ui (rf_ua (rf_ua (rf_ua σ 69 (σ.1 72).toNatClampNeg (vp_nar .byte p1.toInt8.toInt32)) 70 (σ.1 72).toNatClampNeg (vp_nar .short p2.toInt16.toInt32)) 71 (σ.1 72).toNatClampNeg (vp_nar .boolean 0)) 72 ((σ.1 72) + 1))
set_option maxRecDepth 100000 in
set_option maxHeartbeats 4000000 in
theorem c_X12_waits {l : Launch} {P : hw_G} {o : Nat} {ad : Nat → Nat} {σ : rf_S} {p1 : Int32} {p2 : Int32} {post : rf_S → Prop} (h : wp_X12_waits post σ p1 p2) : Met l yX12_waits [Cond.code yX12_waits cX12_waits 3 none] rm_X12_waits (rf_Pc P o ad σ [.ref o, .int p1, .int p2]) (rf_Qv P o ad post) 0 0 (rf_A o ad) := by
  refine rf_met (by decide) rfl (Nat.le_of_ble_eq_true rfl) ?_
  intro p e s m below meth c ls hC hT hl
  obtain ⟨hx, hb, hml, hown, hK, -, -⟩ := id hC
  have hl : lv_has ls 3 [(0, .ref o), (1, .int p1), (2, .int p2)] := hl
  refine lv_aload_n hx hb dX12_waits_0 rfl (lv_at hl 0 rfl) ?_
  refine rf_get hx hb hK hT hown 69 (by decide) kfX12_266 (v := .ref (ad 69)) rfl dX12_waits_1 ?_
  refine lv_aload_n hx hb dX12_waits_4 rfl (lv_at hl 0 rfl) ?_
  refine rf_get hx hb hK hT hown 72 (by decide) kfX12_80 (v := .int (σ.1 72)) rfl dX12_waits_5 ?_
  refine lv_iload_n hx hb dX12_waits_8 rfl (lv_at hl 1 rfl) ?_
  refine lv_i2b (v := p1.toInt8.toInt32) hx hb dX12_waits_9 rfl ?_
  obtain ⟨hi, h⟩ := h
  refine rf_bast hx hb hK hT 69 (by decide) rfl hi dX12_waits_10 (fun H locs hT => ?_)
  refine lv_aload_n hx hb dX12_waits_11 rfl (lv_at hl 0 rfl) ?_
  refine rf_get hx hb hK hT hown 70 (by decide) kfX12_269 (v := .ref (ad 70)) rfl dX12_waits_12 ?_
  refine lv_aload_n hx hb dX12_waits_15 rfl (lv_at hl 0 rfl) ?_
  refine rf_get hx hb hK hT hown 72 (by decide) kfX12_80 (v := .int (σ.1 72)) rfl dX12_waits_16 ?_
  refine lv_iload_n hx hb dX12_waits_19 rfl (lv_at hl 2 rfl) ?_
  refine lv_i2s (v := p2.toInt16.toInt32) hx hb dX12_waits_20 rfl ?_
  obtain ⟨hi, h⟩ := h
  refine rf_sast hx hb hK hT 70 (by decide) rfl hi dX12_waits_21 (fun H locs hT => ?_)
  refine lv_aload_n hx hb dX12_waits_22 rfl (lv_at hl 0 rfl) ?_
  refine rf_get hx hb hK hT hown 71 (by decide) kfX12_272 (v := .ref (ad 71)) rfl dX12_waits_23 ?_
  refine lv_aload_n hx hb dX12_waits_26 rfl (lv_at hl 0 rfl) ?_
  refine rf_get hx hb hK hT hown 72 (by decide) kfX12_80 (v := .int (σ.1 72)) rfl dX12_waits_27 ?_
  refine lv_iconst (v := 0) hx hb dX12_waits_30 (by decide) ?_
  obtain ⟨hi, h⟩ := h
  refine rf_zast hx hb hK hT 71 (by decide) rfl hi dX12_waits_31 (fun H locs hT => ?_)
  refine lv_aload_n hx hb dX12_waits_32 rfl (lv_at hl 0 rfl) ?_
  refine lv_dup hx hb dX12_waits_33 rfl ?_
  refine rf_get hx hb hK hT hown 72 (by decide) kfX12_80 (v := .int (σ.1 72)) rfl dX12_waits_34 ?_
  refine lv_iconst (v := 1) hx hb dX12_waits_37 (by decide) ?_
  refine lv_iadd hx hb dX12_waits_38 ?_
  refine rf_puti hx hb hK hT hown 72 (by decide) kfX12_80 rfl rfl dX12_waits_39 (fun H locs hT => ?_)
  exact rf_vret hC hT h dX12_waits_42
