/-! X5_readCond -/
abbrev rmg_X5_readCond (d mc ms : Nat) : Room := { frames := 4 + d, cells := mc, slots := ms, locals := 104 + 40 * d }
def w_X5_readCond_115 (post : Option Nat → cs_S → Prop) (G : Nat → Nat) (mc ms : Nat) (rc0 : (Option Nat → cs_S → Prop) → Nat → Nat → cs_S → Nat → Int32 → Prop) (rc1 : (Option Nat → cs_S → Prop) → Nat → Nat → cs_S → Nat → Int32 → Prop) (S : cs_S) (u v : Nat) (x2 : Option Nat) : Prop := u ≤ mc ∧ v ≤ ms ∧ post x2 S
section
variable {p : Program} {l : Launch} {e : Env} {s : State} {m : MethodId} {args : Array Value} {below : List Frame} {meth : Method} {c : Code} {P : hw_G} {G : Nat → Nat} {A : Nat → Prop}
set_option maxRecDepth 100000 in
set_option maxHeartbeats 4000000 in
theorem t_X5_readCond_115 {dp : Nat}  {rc0 : (Option Nat → cs_S → Prop) → Nat → Nat → cs_S → Nat → Int32 → Prop} {rc1 : (Option Nat → cs_S → Prop) → Nat → Nat → cs_S → Nat → Int32 → Prop}{post : Option Nat → cs_S → Prop} {mc ms : Nat} (hC : rf_C P RX5 p s m meth c cX5_readCond 5 (some (.object "WatchHouse$Cond"))) (hin : meth.name = yX5_readCond.name) (hO : cs_O G A s s.heap) (hrc0 : ∀ {S : cs_S} {sz : Nat} {mc ms : Nat} {o : Nat} {a0 : Int32} {post : Option Nat → cs_S → Prop}, rc0 post mc ms S o a0 → Met l yX5_readCond [Cond.code yX5_readCond cX5_readCond 5 (some (.object "WatchHouse$Cond"))] (rmg_X5_readCond dp mc ms) (cs_Pc P G S sz [.ref o, .int a0]) (cs_Qr P (cs_A S sz) post) mc ms (cs_A S sz)) (hrc1 : ∀ {S : cs_S} {sz : Nat} {mc ms : Nat} {o : Nat} {a0 : Int32} {post : Option Nat → cs_S → Prop}, rc1 post mc ms S o a0 → Met l yX5_readOne [Cond.code yX5_readOne cX5_readOne 3 (some (.object "WatchHouse$Cond"))] (rmg_X5_readCond dp mc ms) (cs_Pc P G S sz [.ref o, .int a0]) (cs_Qr P (cs_A S sz) post) mc ms (cs_A S sz)) (S : cs_S) (u v : Nat) (x2 : Option Nat) (H : Heap) (locs : List Loc) (ls : Array Slot) (h : w_X5_readCond_115 post G mc ms rc0 rc1 S u v x2) (hT : cs_T P s A S H locs) (hl : lv_has ls 5 [(2, va_rf x2)]) : W p l e (rmg_X5_readCond (dp + 1) mc ms) s m args below meth c H locs u v (MQ below (cs_Qr P A post) args s mc ms A) (F0 m 115 ls []) := by
  obtain ⟨hx, hb, hml, hown, hK, -, -⟩ := id hC
  obtain ⟨hu, hv, h⟩ := h
  refine hw_aload_n (x := x2) hx hb dX5_readCond_115 rfl (lv_at hl 0 rfl) ?_
  exact cs_aret (v := x2) hC (Or.inl ⟨_, rfl⟩) hT h dX5_readCond_116 hu hv
end
def w_X5_readCond_96 (post : Option Nat → cs_S → Prop) (G : Nat → Nat) (mc ms : Nat) (rc0 : (Option Nat → cs_S → Prop) → Nat → Nat → cs_S → Nat → Int32 → Prop) (rc1 : (Option Nat → cs_S → Prop) → Nat → Nat → cs_S → Nat → Int32 → Prop) (k43 : cs_S → Nat → Nat → Nat → Int32 → Option Nat → Option Nat → Int32 → Prop) (S : cs_S) (u v : Nat) (x0 : Nat) (x1 : Int32) (x2 : Option Nat) (x3 : Option Nat) (x4 : Int32) : Prop := u ≤ mc ∧ v ≤ ms ∧ cs_k S x0 = 7 ∧ wp_X5_step (fun S24 => cs_k S24 x0 = 7 ∧ ∃ m26 n26, u + m26 ≤ mc ∧ v + n26 ≤ ms ∧ rc1 (fun r26 S26 => ∃ b28, x3 = some b28 ∧ cs_k S26 b28 = 3 ∧ wp_X1_append (fun S29 => k43 S29 (u + m26) (v + n26) x0 x1 x2 (some b28) (x4 + 1)) G S26 b28 r26) m26 n26 S24 x0 x1) G S x0
section
variable {p : Program} {l : Launch} {e : Env} {s : State} {m : MethodId} {args : Array Value} {below : List Frame} {meth : Method} {c : Code} {P : hw_G} {G : Nat → Nat} {A : Nat → Prop}
set_option maxRecDepth 100000 in
set_option maxHeartbeats 4000000 in
theorem t_X5_readCond_96 {dp : Nat}  {rc0 : (Option Nat → cs_S → Prop) → Nat → Nat → cs_S → Nat → Int32 → Prop} {rc1 : (Option Nat → cs_S → Prop) → Nat → Nat → cs_S → Nat → Int32 → Prop}{post : Option Nat → cs_S → Prop} {mc ms : Nat} {k43 : cs_S → Nat → Nat → Nat → Int32 → Option Nat → Option Nat → Int32 → Prop} (hC : rf_C P RX5 p s m meth c cX5_readCond 5 (some (.object "WatchHouse$Cond"))) (hin : meth.name = yX5_readCond.name) (hO : cs_O G A s s.heap) (hrc0 : ∀ {S : cs_S} {sz : Nat} {mc ms : Nat} {o : Nat} {a0 : Int32} {post : Option Nat → cs_S → Prop}, rc0 post mc ms S o a0 → Met l yX5_readCond [Cond.code yX5_readCond cX5_readCond 5 (some (.object "WatchHouse$Cond"))] (rmg_X5_readCond dp mc ms) (cs_Pc P G S sz [.ref o, .int a0]) (cs_Qr P (cs_A S sz) post) mc ms (cs_A S sz)) (hrc1 : ∀ {S : cs_S} {sz : Nat} {mc ms : Nat} {o : Nat} {a0 : Int32} {post : Option Nat → cs_S → Prop}, rc1 post mc ms S o a0 → Met l yX5_readOne [Cond.code yX5_readOne cX5_readOne 3 (some (.object "WatchHouse$Cond"))] (rmg_X5_readCond dp mc ms) (cs_Pc P G S sz [.ref o, .int a0]) (cs_Qr P (cs_A S sz) post) mc ms (cs_A S sz)) (hk43 : ∀ (S : cs_S) (u v : Nat) (x0 : Nat) (x1 : Int32) (x2 : Option Nat) (x3 : Option Nat) (x4 : Int32) (H : Heap) (locs : List Loc) (ls : Array Slot), k43 S u v x0 x1 x2 x3 x4 → cs_T P s A S H locs → lv_has ls 5 [(0, .ref x0), (1, .int x1), (2, va_rf x2), (3, va_rf x3), (4, .int x4)] → W p l e (rmg_X5_readCond (dp + 1) mc ms) s m args below meth c H locs u v (MQ below (cs_Qr P A post) args s mc ms A) (F0 m 43 ls [])) (S : cs_S) (u v : Nat) (x0 : Nat) (x1 : Int32) (x2 : Option Nat) (x3 : Option Nat) (x4 : Int32) (H : Heap) (locs : List Loc) (ls : Array Slot) (h : w_X5_readCond_96 post G mc ms rc0 rc1 k43 S u v x0 x1 x2 x3 x4) (hT : cs_T P s A S H locs) (hl : lv_has ls 5 [(0, .ref x0), (1, .int x1), (2, va_rf x2), (3, va_rf x3), (4, .int x4)]) : W p l e (rmg_X5_readCond (dp + 1) mc ms) s m args below meth c H locs u v (MQ below (cs_Qr P A post) args s mc ms A) (F0 m 96 ls []) := by
  obtain ⟨hx, hb, hml, hown, hK, -, -⟩ := id hC
  obtain ⟨hu, hv, h⟩ := h
  refine lv_aload_n (x := x0) hx hb dX5_readCond_96 rfl (lv_at hl 0 rfl) ?_
  obtain ⟨hk25_, h⟩ := h
  refine cs_callv0 (cs_runV hx hb hml hown hK hO hT 6 hk25_ (by decide) rfl (c_X5_step h) rfl rfl klX5_43 ki_X5_step ks_X5_step kn_X5 kc_X5_step 0 ⟨rfl, by decide, by decide, by decide +kernel⟩ ⟨by show 0 + 1 ≤ 4 + (dp + 1); omega, by show 8 + (1 + 11) + 0 ≤ 104 + 40 * (dp + 1); omega⟩ rfl hl.1 rfl (hw_cat8 (Nat.le_of_ble_eq_true rfl)) ⟨hu, hv⟩ dX5_readCond_97) hT (fun S24 H locs h_ hT_ => ?_)
  replace h := h_
  replace hT := hT_
  refine hw_aload_n (x := x3) hx hb dX5_readCond_100 rfl (lv_at hl 3 rfl) ?_
  refine lv_aload_n (x := x0) hx hb dX5_readCond_101 rfl (lv_at hl 0 rfl) ?_
  refine lv_iload_n hx hb dX5_readCond_102 rfl (lv_at hl 1 rfl) ?_
  obtain ⟨hk27_, h⟩ := h
  obtain ⟨m26, n26, hu26, hv26, h⟩ := h
  refine cs_callr (cs_runV hx hb hml hown hK hO hT 6 hk27_ (by decide) rfl (hrc1 h) rfl rfl klX5_139 ki_X5_readOne ks_X5_readOne kn_X5 kc_X5_readOne 1 ⟨rfl, by decide, by decide, by decide +kernel⟩ ⟨by show 4 + dp + 1 ≤ 4 + (dp + 1); omega, by show 8 + (3 + 11) + (104 + 40 * dp) ≤ 104 + 40 * (dp + 1); omega⟩ rfl hl.1 rfl (hw_cat8 (Nat.le_of_ble_eq_true rfl)) ⟨hu26, hv26⟩ dX5_readCond_103) hT (fun r26 S26 H locs h_ hT_ => ?_)
  replace h := h_
  replace hT := hT_
  obtain ⟨b28, rfl, h⟩ := h
  obtain ⟨hk30_, h⟩ := h
  refine cs_callv0 (cs_runV hx hb hml hown hK hO hT 2 hk30_ (by decide) rfl (c_X1_append h) rfl rfl klX5_136 ki_X1_append ks_X1_append kn_X1 kc_X1_append 1 ⟨rfl, by decide, by decide, by decide +kernel⟩ ⟨by show 0 + 1 ≤ 4 + (dp + 1); omega, by show 8 + (2 + 11) + 0 ≤ 104 + 40 * (dp + 1); omega⟩ rfl hl.1 rfl (hw_cat8 (Nat.le_of_ble_eq_true rfl)) ⟨hu26, hv26⟩ dX5_readCond_106) hT (fun S29 H locs h_ hT_ => ?_)
  replace h := h_
  replace hT := hT_
  refine lv_iinc (v := x4 + 1) (lv' := [(4, _), (0, _), (1, _), (2, _), (3, _)]) hx hb dX5_readCond_109 hl (k := 4) rfl rfl (by decide) rfl (fun ls hl_ => ?_)
  replace hl := hl_
  refine lv_goto (tgt := 43) hx hb dX5_readCond_112 (by decide) ?_
  exact hk43 S29 (u + m26) (v + n26) x0 x1 x2 (some b28) (x4 + 1) _ _ _ h hT (lv_sub hl [1, 2, 3, 4, 0] rfl)
end
def w_X5_readCond_69 (post : Option Nat → cs_S → Prop) (G : Nat → Nat) (mc ms : Nat) (rc0 : (Option Nat → cs_S → Prop) → Nat → Nat → cs_S → Nat → Int32 → Prop) (rc1 : (Option Nat → cs_S → Prop) → Nat → Nat → cs_S → Nat → Int32 → Prop) (k43 : cs_S → Nat → Nat → Nat → Int32 → Option Nat → Option Nat → Int32 → Prop) (S : cs_S) (u v : Nat) (x0 : Nat) (x1 : Int32) (x2 : Option Nat) (x3 : Option Nat) (x4 : Int32) : Prop := u ≤ mc ∧ v ≤ ms ∧ cs_k S x0 = 7 ∧ (¬ (cs_i S 606 x0) = 32 → w_X5_readCond_96 post G mc ms rc0 rc1 k43 S u v x0 x1 x2 x3 x4) ∧ ((cs_i S 606 x0) = 32 → u + 1 ≤ mc ∧ v + 7 ≤ ms ∧ ∀ q32, cs_k S q32 = 0 → ∀ S33, S33 = cs_new S q32 2 → wp_X1_init (fun S34 => ∃ b35, x2 = some b35 ∧ cs_k S34 b35 = 3 ∧ wp_X1_append (fun S36 => w_X5_readCond_96 post G mc ms rc0 rc1 k43 S36 (u + 1) (v + 7) x0 x1 (some b35) (some q32) x4) G S34 b35 (some q32)) G S33 q32 33 0 0 none)
section
variable {p : Program} {l : Launch} {e : Env} {s : State} {m : MethodId} {args : Array Value} {below : List Frame} {meth : Method} {c : Code} {P : hw_G} {G : Nat → Nat} {A : Nat → Prop}
set_option maxRecDepth 100000 in
set_option maxHeartbeats 4000000 in
theorem t_X5_readCond_69 {dp : Nat}  {rc0 : (Option Nat → cs_S → Prop) → Nat → Nat → cs_S → Nat → Int32 → Prop} {rc1 : (Option Nat → cs_S → Prop) → Nat → Nat → cs_S → Nat → Int32 → Prop}{post : Option Nat → cs_S → Prop} {mc ms : Nat} {k43 : cs_S → Nat → Nat → Nat → Int32 → Option Nat → Option Nat → Int32 → Prop} (hC : rf_C P RX5 p s m meth c cX5_readCond 5 (some (.object "WatchHouse$Cond"))) (hin : meth.name = yX5_readCond.name) (hO : cs_O G A s s.heap) (hrc0 : ∀ {S : cs_S} {sz : Nat} {mc ms : Nat} {o : Nat} {a0 : Int32} {post : Option Nat → cs_S → Prop}, rc0 post mc ms S o a0 → Met l yX5_readCond [Cond.code yX5_readCond cX5_readCond 5 (some (.object "WatchHouse$Cond"))] (rmg_X5_readCond dp mc ms) (cs_Pc P G S sz [.ref o, .int a0]) (cs_Qr P (cs_A S sz) post) mc ms (cs_A S sz)) (hrc1 : ∀ {S : cs_S} {sz : Nat} {mc ms : Nat} {o : Nat} {a0 : Int32} {post : Option Nat → cs_S → Prop}, rc1 post mc ms S o a0 → Met l yX5_readOne [Cond.code yX5_readOne cX5_readOne 3 (some (.object "WatchHouse$Cond"))] (rmg_X5_readCond dp mc ms) (cs_Pc P G S sz [.ref o, .int a0]) (cs_Qr P (cs_A S sz) post) mc ms (cs_A S sz)) (hk43 : ∀ (S : cs_S) (u v : Nat) (x0 : Nat) (x1 : Int32) (x2 : Option Nat) (x3 : Option Nat) (x4 : Int32) (H : Heap) (locs : List Loc) (ls : Array Slot), k43 S u v x0 x1 x2 x3 x4 → cs_T P s A S H locs → lv_has ls 5 [(0, .ref x0), (1, .int x1), (2, va_rf x2), (3, va_rf x3), (4, .int x4)] → W p l e (rmg_X5_readCond (dp + 1) mc ms) s m args below meth c H locs u v (MQ below (cs_Qr P A post) args s mc ms A) (F0 m 43 ls [])) (S : cs_S) (u v : Nat) (x0 : Nat) (x1 : Int32) (x2 : Option Nat) (x3 : Option Nat) (x4 : Int32) (H : Heap) (locs : List Loc) (ls : Array Slot) (h : w_X5_readCond_69 post G mc ms rc0 rc1 k43 S u v x0 x1 x2 x3 x4) (hT : cs_T P s A S H locs) (hl : lv_has ls 5 [(0, .ref x0), (1, .int x1), (2, va_rf x2), (3, va_rf x3), (4, .int x4)]) : W p l e (rmg_X5_readCond (dp + 1) mc ms) s m args below meth c H locs u v (MQ below (cs_Qr P A post) args s mc ms A) (F0 m 69 ls []) := by
  obtain ⟨hx, hb, hml, hown, hK, -, -⟩ := id hC
  obtain ⟨hu, hv, h⟩ := h
  refine lv_aload_n (x := x0) hx hb dX5_readCond_69 rfl (lv_at hl 0 rfl) ?_
  obtain ⟨hk31_, h⟩ := h
  refine cs_get hx hb hK hT hown 6 hk31_ (by decide) rfl 6 (by decide) kfX5_27 (v := .int (cs_i S 606 x0)) rfl dX5_readCond_70 ?_
  refine lv_bipush (v := 32) hx hb dX5_readCond_73 (by decide) ?_
  refine lv_icmp_ne (tgt := 96) hx hb dX5_readCond_75 (by decide) (fun hc => ?_) (fun hc => ?_)
  · replace h := h.1 hc
    exact t_X5_readCond_96 hC hin hO hrc0 hrc1 hk43 S u v x0 x1 x2 x3 x4 _ _ _ h hT (lv_sub hl [0, 1, 2, 3, 4] rfl)
  · replace h := h.2 hc
    obtain ⟨hu32, hv32, h⟩ := h
    refine cs_newo hx hb hK hT hown 2 (by decide) rfl tyX1_ok cs_df2 kxX5_131 kj_X1 kn_X1 hu32 hv32 dX5_readCond_78 (fun q32 H hq32 hT_ => ?_)
    replace h := h q32 hq32
    replace hT := hT_
    obtain ⟨S33, eS33⟩ : ∃ z, z = cs_new S q32 2 := ⟨_, rfl⟩
    rw [← eS33] at hT
    replace h := h S33 eS33
    refine lv_dup hx hb dX5_readCond_81 rfl ?_
    refine lv_bipush (v := 33) hx hb dX5_readCond_82 (by decide) ?_
    refine lv_lconst (v := 0) hx hb dX5_readCond_84 (by decide) ?_
    refine lv_iconst (v := 0) hx hb dX5_readCond_85 (by decide) ?_
    refine hw_null hx hb dX5_readCond_86 ?_
    refine cs_callv0 (cs_runI hx hb hml hown hK hO hT (c_X1_init h) rfl rfl klX5_133 ki_X1_init kn_X1 kc_X1_init rfl 4 ⟨by decide, by decide, by decide +kernel⟩ ⟨by show 1 + 1 ≤ 4 + (dp + 1); omega, by show 8 + (6 + 11) + 24 ≤ 104 + 40 * (dp + 1); omega⟩ rfl hl.1 rfl (hw_cat8 (Nat.le_of_ble_eq_true rfl)) ⟨hu32, hv32⟩ dX5_readCond_87) hT (fun S34 H locs h_ hT_ => ?_)
    replace h := h_
    replace hT := hT_
    refine lv_astore_n (lv' := [(3, _), (0, _), (1, _), (2, _), (4, _)]) (x := q32) hx hb dX5_readCond_90 rfl hl (by decide) (congrArg (List.cons _) ((hw_flt (fun q hq => by simp only [List.mem_cons, List.not_mem_nil, or_false] at hq; rcases hq with rfl | rfl | rfl | rfl | rfl <;> first | exact fun _ => rfl | exact fun _ => va_rf_cat _ | (intro h; simp at h))).trans rfl)) (fun ls hl_ => ?_)
    replace hl := hl_
    refine hw_aload_n (x := x2) hx hb dX5_readCond_91 rfl (lv_at hl 3 rfl) ?_
    refine lv_aload_n (x := q32) hx hb dX5_readCond_92 rfl (lv_at hl 0 rfl) ?_
    obtain ⟨b35, rfl, h⟩ := h
    obtain ⟨hk37_, h⟩ := h
    refine cs_callv0 (cs_runV hx hb hml hown hK hO hT 2 hk37_ (by decide) rfl (c_X1_append h) rfl rfl klX5_136 ki_X1_append ks_X1_append kn_X1 kc_X1_append 1 ⟨rfl, by decide, by decide, by decide +kernel⟩ ⟨by show 0 + 1 ≤ 4 + (dp + 1); omega, by show 8 + (2 + 11) + 0 ≤ 104 + 40 * (dp + 1); omega⟩ rfl hl.1 rfl (hw_cat8 (Nat.le_of_ble_eq_true rfl)) ⟨hu32, hv32⟩ dX5_readCond_93) hT (fun S36 H locs h_ hT_ => ?_)
    replace h := h_
    replace hT := hT_
    exact t_X5_readCond_96 hC hin hO hrc0 hrc1 hk43 S36 (u + 1) (v + 7) x0 x1 (some b35) (some q32) x4 _ _ _ h hT (lv_sub hl [1, 2, 3, 0, 4] rfl)
end
def w_X5_readCond_43 (post : Option Nat → cs_S → Prop) (G : Nat → Nat) (mc ms : Nat) (rc0 : (Option Nat → cs_S → Prop) → Nat → Nat → cs_S → Nat → Int32 → Prop) (rc1 : (Option Nat → cs_S → Prop) → Nat → Nat → cs_S → Nat → Int32 → Prop) : Nat → cs_S → Nat → Nat → Nat → Int32 → Option Nat → Option Nat → Int32 → Prop
  | 0, _, _, _, _, _, _, _, _ => False
  | n + 1, S, u, v, x0, x1, x2, x3, x4 => u ≤ mc ∧ v ≤ ms ∧ (2000 ≤ x4 → w_X5_readCond_115 post G mc ms rc0 rc1 S u v x2) ∧ (¬ 2000 ≤ x4 → cs_k S x0 = 7 ∧ ((cs_i S 606 x0) = 32 → w_X5_readCond_69 post G mc ms rc0 rc1 (w_X5_readCond_43 post G mc ms rc0 rc1 n) S u v x0 x1 x2 x3 x4) ∧ (¬ (cs_i S 606 x0) = 32 → (¬ (cs_i S 606 x0) = 33 → w_X5_readCond_115 post G mc ms rc0 rc1 S u v x2) ∧ ((cs_i S 606 x0) = 33 → w_X5_readCond_69 post G mc ms rc0 rc1 (w_X5_readCond_43 post G mc ms rc0 rc1 n) S u v x0 x1 x2 x3 x4)))
section
variable {p : Program} {l : Launch} {e : Env} {s : State} {m : MethodId} {args : Array Value} {below : List Frame} {meth : Method} {c : Code} {P : hw_G} {G : Nat → Nat} {A : Nat → Prop}
set_option maxRecDepth 100000 in
set_option maxHeartbeats 4000000 in
theorem t_X5_readCond_43 {dp : Nat}  {rc0 : (Option Nat → cs_S → Prop) → Nat → Nat → cs_S → Nat → Int32 → Prop} {rc1 : (Option Nat → cs_S → Prop) → Nat → Nat → cs_S → Nat → Int32 → Prop}{post : Option Nat → cs_S → Prop} {mc ms : Nat} (hC : rf_C P RX5 p s m meth c cX5_readCond 5 (some (.object "WatchHouse$Cond"))) (hin : meth.name = yX5_readCond.name) (hO : cs_O G A s s.heap) (hrc0 : ∀ {S : cs_S} {sz : Nat} {mc ms : Nat} {o : Nat} {a0 : Int32} {post : Option Nat → cs_S → Prop}, rc0 post mc ms S o a0 → Met l yX5_readCond [Cond.code yX5_readCond cX5_readCond 5 (some (.object "WatchHouse$Cond"))] (rmg_X5_readCond dp mc ms) (cs_Pc P G S sz [.ref o, .int a0]) (cs_Qr P (cs_A S sz) post) mc ms (cs_A S sz)) (hrc1 : ∀ {S : cs_S} {sz : Nat} {mc ms : Nat} {o : Nat} {a0 : Int32} {post : Option Nat → cs_S → Prop}, rc1 post mc ms S o a0 → Met l yX5_readOne [Cond.code yX5_readOne cX5_readOne 3 (some (.object "WatchHouse$Cond"))] (rmg_X5_readCond dp mc ms) (cs_Pc P G S sz [.ref o, .int a0]) (cs_Qr P (cs_A S sz) post) mc ms (cs_A S sz)) : ∀ (n : Nat) (S : cs_S) (u v : Nat) (x0 : Nat) (x1 : Int32) (x2 : Option Nat) (x3 : Option Nat) (x4 : Int32) (H : Heap) (locs : List Loc) (ls : Array Slot), w_X5_readCond_43 post G mc ms rc0 rc1 n S u v x0 x1 x2 x3 x4 → cs_T P s A S H locs → lv_has ls 5 [(0, .ref x0), (1, .int x1), (2, va_rf x2), (3, va_rf x3), (4, .int x4)] → W p l e (rmg_X5_readCond (dp + 1) mc ms) s m args below meth c H locs u v (MQ below (cs_Qr P A post) args s mc ms A) (F0 m 43 ls []) := by
  obtain ⟨hx, hb, hml, hown, hK, -, -⟩ := id hC
  intro n
  induction n with
  | zero => intro S u v x0 x1 x2 x3 x4 H locs ls h; exact False.elim h
  | succ n ih =>
    intro S u v x0 x1 x2 x3 x4 H locs ls h hT hl
    obtain ⟨hu, hv, h⟩ := h
    refine lv_iload hx hb dX5_readCond_43 (lv_at hl 4 rfl) ?_
    refine lv_sipush (v := 2000) hx hb dX5_readCond_45 (by decide) ?_
    refine lv_icmp_ge (tgt := 115) hx hb dX5_readCond_48 (by decide) (fun hc => ?_) (fun hc => ?_)
    · replace h := h.1 hc
      exact t_X5_readCond_115 hC hin hO hrc0 hrc1 S u v x2 _ _ _ h hT (lv_sub hl [2] rfl)
    · replace h := h.2 hc
      refine lv_aload_n (x := x0) hx hb dX5_readCond_51 rfl (lv_at hl 0 rfl) ?_
      obtain ⟨hk38_, h⟩ := h
      refine cs_get hx hb hK hT hown 6 hk38_ (by decide) rfl 6 (by decide) kfX5_27 (v := .int (cs_i S 606 x0)) rfl dX5_readCond_52 ?_
      refine lv_bipush (v := 32) hx hb dX5_readCond_55 (by decide) ?_
      refine lv_icmp_eq (tgt := 69) hx hb dX5_readCond_57 (by decide) (fun hc => ?_) (fun hc => ?_)
      · replace h := h.1 hc
        exact t_X5_readCond_69 hC hin hO hrc0 hrc1 ih S u v x0 x1 x2 x3 x4 _ _ _ h hT (lv_sub hl [0, 1, 2, 3, 4] rfl)
      · replace h := h.2 hc
        refine lv_aload_n (x := x0) hx hb dX5_readCond_60 rfl (lv_at hl 0 rfl) ?_
        refine cs_get hx hb hK hT hown 6 hk38_ (by decide) rfl 6 (by decide) kfX5_27 (v := .int (cs_i S 606 x0)) rfl dX5_readCond_61 ?_
        refine lv_bipush (v := 33) hx hb dX5_readCond_64 (by decide) ?_
        refine lv_icmp_ne (tgt := 115) hx hb dX5_readCond_66 (by decide) (fun hc => ?_) (fun hc => ?_)
        · replace h := h.1 hc
          exact t_X5_readCond_115 hC hin hO hrc0 hrc1 S u v x2 _ _ _ h hT (lv_sub hl [2] rfl)
        · replace h := h.2 hc
          exact t_X5_readCond_69 hC hin hO hrc0 hrc1 ih S u v x0 x1 x2 x3 x4 _ _ _ h hT (lv_sub hl [0, 1, 2, 3, 4] rfl)
end
def wpb_X5_readCond (post : Option Nat → cs_S → Prop) (G : Nat → Nat) (mc ms : Nat) (rc0 : (Option Nat → cs_S → Prop) → Nat → Nat → cs_S → Nat → Int32 → Prop) (rc1 : (Option Nat → cs_S → Prop) → Nat → Nat → cs_S → Nat → Int32 → Prop) (S : cs_S) (o : Nat) (p1 : Int32) : Prop := 0 + 1 ≤ mc ∧ 0 + 7 ≤ ms ∧ ∀ q39, cs_k S q39 = 0 → ∀ S40, S40 = cs_new S q39 2 → wp_X1_init (fun S41 => 0 + 1 + 1 ≤ mc ∧ 0 + 7 + 7 ≤ ms ∧ ∀ q42, cs_k S41 q42 = 0 → ∀ S43, S43 = cs_new S41 q42 2 → wp_X1_init (fun S44 => cs_k S44 q39 = 3 ∧ wp_X1_append (fun S45 => cs_k S45 o = 7 ∧ ∃ m47 n47, 0 + 1 + 1 + m47 ≤ mc ∧ 0 + 7 + 7 + n47 ≤ ms ∧ rc1 (fun r47 S47 => cs_k S47 q42 = 3 ∧ wp_X1_append (fun S49 => ∃ n9, w_X5_readCond_43 post G mc ms rc0 rc1 n9 S49 (0 + 1 + 1 + m47) (0 + 7 + 7 + n47) o p1 (some q39) (some q42) 0) G S47 q42 r47) m47 n47 S45 o p1) G S44 q39 (some q42)) G S43 q42 33 0 0 none) G S40 q39 32 0 0 none
set_option maxRecDepth 100000 in
set_option maxHeartbeats 4000000 in
theorem cb_X5_readCond {l : Launch} {P : hw_G} {G : Nat → Nat} {dp : Nat} {rc0 : (Option Nat → cs_S → Prop) → Nat → Nat → cs_S → Nat → Int32 → Prop} {rc1 : (Option Nat → cs_S → Prop) → Nat → Nat → cs_S → Nat → Int32 → Prop} (hrc0 : ∀ {S : cs_S} {sz : Nat} {mc ms : Nat} {o : Nat} {a0 : Int32} {post : Option Nat → cs_S → Prop}, rc0 post mc ms S o a0 → Met l yX5_readCond [Cond.code yX5_readCond cX5_readCond 5 (some (.object "WatchHouse$Cond"))] (rmg_X5_readCond dp mc ms) (cs_Pc P G S sz [.ref o, .int a0]) (cs_Qr P (cs_A S sz) post) mc ms (cs_A S sz)) (hrc1 : ∀ {S : cs_S} {sz : Nat} {mc ms : Nat} {o : Nat} {a0 : Int32} {post : Option Nat → cs_S → Prop}, rc1 post mc ms S o a0 → Met l yX5_readOne [Cond.code yX5_readOne cX5_readOne 3 (some (.object "WatchHouse$Cond"))] (rmg_X5_readCond dp mc ms) (cs_Pc P G S sz [.ref o, .int a0]) (cs_Qr P (cs_A S sz) post) mc ms (cs_A S sz)) {S : cs_S} {sz : Nat} {mc ms : Nat} {o : Nat} {p1 : Int32} {post : Option Nat → cs_S → Prop} (h : wpb_X5_readCond post G mc ms rc0 rc1 S o p1) : Met l yX5_readCond [Cond.code yX5_readCond cX5_readCond 5 (some (.object "WatchHouse$Cond"))] (rmg_X5_readCond (dp + 1) mc ms) (cs_Pc P G S sz [.ref o, .int p1]) (cs_Qr P (cs_A S sz) post) mc ms (cs_A S sz) := by
  refine cs_met (by decide) rfl (Nat.le_of_ble_eq_true rfl) ?_
  intro p e s m below meth c ls hC hin hO hT hl
  obtain ⟨hx, hb, hml, hown, hK, -, -⟩ := id hC
  replace hl : lv_has ls 5 [(0, .ref o), (1, .int p1)] := hl
  obtain ⟨hu39, hv39, h⟩ := h
  refine cs_newo hx hb hK hT hown 2 (by decide) rfl tyX1_ok cs_df2 kxX5_131 kj_X1 kn_X1 hu39 hv39 dX5_readCond_0 (fun q39 H hq39 hT_ => ?_)
  replace h := h q39 hq39
  replace hT := hT_
  obtain ⟨S40, eS40⟩ : ∃ z, z = cs_new S q39 2 := ⟨_, rfl⟩
  rw [← eS40] at hT
  replace h := h S40 eS40
  refine lv_dup hx hb dX5_readCond_3 rfl ?_
  refine lv_bipush (v := 32) hx hb dX5_readCond_4 (by decide) ?_
  refine lv_lconst (v := 0) hx hb dX5_readCond_6 (by decide) ?_
  refine lv_iconst (v := 0) hx hb dX5_readCond_7 (by decide) ?_
  refine hw_null hx hb dX5_readCond_8 ?_
  refine cs_callv0 (cs_runI hx hb hml hown hK hO hT (c_X1_init h) rfl rfl klX5_133 ki_X1_init kn_X1 kc_X1_init rfl 4 ⟨by decide, by decide, by decide +kernel⟩ ⟨by show 1 + 1 ≤ 4 + (dp + 1); omega, by show 8 + (6 + 11) + 24 ≤ 104 + 40 * (dp + 1); omega⟩ rfl hl.1 rfl (hw_cat8 (Nat.le_of_ble_eq_true rfl)) ⟨hu39, hv39⟩ dX5_readCond_9) hT (fun S41 H locs h_ hT_ => ?_)
  replace h := h_
  replace hT := hT_
  refine lv_astore_n (lv' := [(2, _), (0, _), (1, _)]) (x := q39) hx hb dX5_readCond_12 rfl hl (by decide) rfl (fun ls hl_ => ?_)
  replace hl := hl_
  obtain ⟨hu42, hv42, h⟩ := h
  refine cs_newo hx hb hK hT hown 2 (by decide) rfl tyX1_ok cs_df2 kxX5_131 kj_X1 kn_X1 hu42 hv42 dX5_readCond_13 (fun q42 H hq42 hT_ => ?_)
  replace h := h q42 hq42
  replace hT := hT_
  obtain ⟨S43, eS43⟩ : ∃ z, z = cs_new S41 q42 2 := ⟨_, rfl⟩
  rw [← eS43] at hT
  replace h := h S43 eS43
  refine lv_dup hx hb dX5_readCond_16 rfl ?_
  refine lv_bipush (v := 33) hx hb dX5_readCond_17 (by decide) ?_
  refine lv_lconst (v := 0) hx hb dX5_readCond_19 (by decide) ?_
  refine lv_iconst (v := 0) hx hb dX5_readCond_20 (by decide) ?_
  refine hw_null hx hb dX5_readCond_21 ?_
  refine cs_callv0 (cs_runI hx hb hml hown hK hO hT (c_X1_init h) rfl rfl klX5_133 ki_X1_init kn_X1 kc_X1_init rfl 4 ⟨by decide, by decide, by decide +kernel⟩ ⟨by show 1 + 1 ≤ 4 + (dp + 1); omega, by show 8 + (6 + 11) + 24 ≤ 104 + 40 * (dp + 1); omega⟩ rfl hl.1 rfl (hw_cat8 (Nat.le_of_ble_eq_true rfl)) ⟨hu42, hv42⟩ dX5_readCond_22) hT (fun S44 H locs h_ hT_ => ?_)
  replace h := h_
  replace hT := hT_
  refine lv_astore_n (lv' := [(3, _), (2, _), (0, _), (1, _)]) (x := q42) hx hb dX5_readCond_25 rfl hl (by decide) rfl (fun ls hl_ => ?_)
  replace hl := hl_
  refine lv_aload_n (x := q39) hx hb dX5_readCond_26 rfl (lv_at hl 1 rfl) ?_
  refine lv_aload_n (x := q42) hx hb dX5_readCond_27 rfl (lv_at hl 0 rfl) ?_
  obtain ⟨hk46_, h⟩ := h
  refine cs_callv0 (cs_runV hx hb hml hown hK hO hT 2 hk46_ (by decide) rfl (c_X1_append h) rfl rfl klX5_136 ki_X1_append ks_X1_append kn_X1 kc_X1_append 1 ⟨rfl, by decide, by decide, by decide +kernel⟩ ⟨by show 0 + 1 ≤ 4 + (dp + 1); omega, by show 8 + (2 + 11) + 0 ≤ 104 + 40 * (dp + 1); omega⟩ rfl hl.1 rfl (hw_cat8 (Nat.le_of_ble_eq_true rfl)) ⟨hu42, hv42⟩ dX5_readCond_28) hT (fun S45 H locs h_ hT_ => ?_)
  replace h := h_
  replace hT := hT_
  refine lv_aload_n (x := q42) hx hb dX5_readCond_31 rfl (lv_at hl 0 rfl) ?_
  refine lv_aload_n (x := o) hx hb dX5_readCond_32 rfl (lv_at hl 2 rfl) ?_
  refine lv_iload_n hx hb dX5_readCond_33 rfl (lv_at hl 3 rfl) ?_
  obtain ⟨hk48_, h⟩ := h
  obtain ⟨m47, n47, hu47, hv47, h⟩ := h
  refine cs_callr (cs_runV hx hb hml hown hK hO hT 6 hk48_ (by decide) rfl (hrc1 h) rfl rfl klX5_139 ki_X5_readOne ks_X5_readOne kn_X5 kc_X5_readOne 1 ⟨rfl, by decide, by decide, by decide +kernel⟩ ⟨by show 4 + dp + 1 ≤ 4 + (dp + 1); omega, by show 8 + (3 + 11) + (104 + 40 * dp) ≤ 104 + 40 * (dp + 1); omega⟩ rfl hl.1 rfl (hw_cat8 (Nat.le_of_ble_eq_true rfl)) ⟨hu47, hv47⟩ dX5_readCond_34) hT (fun r47 S47 H locs h_ hT_ => ?_)
  replace h := h_
  replace hT := hT_
  obtain ⟨hk50_, h⟩ := h
  refine cs_callv0 (cs_runV hx hb hml hown hK hO hT 2 hk50_ (by decide) rfl (c_X1_append h) rfl rfl klX5_136 ki_X1_append ks_X1_append kn_X1 kc_X1_append 1 ⟨rfl, by decide, by decide, by decide +kernel⟩ ⟨by show 0 + 1 ≤ 4 + (dp + 1); omega, by show 8 + (2 + 11) + 0 ≤ 104 + 40 * (dp + 1); omega⟩ rfl hl.1 rfl (hw_cat8 (Nat.le_of_ble_eq_true rfl)) ⟨hu47, hv47⟩ dX5_readCond_37) hT (fun S49 H locs h_ hT_ => ?_)
  replace h := h_
  replace hT := hT_
  refine lv_iconst (v := 0) hx hb dX5_readCond_40 (by decide) ?_
  refine lv_istore (lv' := [(4, _), (3, _), (2, _), (0, _), (1, _)]) hx hb dX5_readCond_41 hl (by decide) rfl (fun ls hl_ => ?_)
  replace hl := hl_
  obtain ⟨n9, h⟩ := h
  exact t_X5_readCond_43 hC hin hO hrc0 hrc1 n9 S49 (0 + 1 + 1 + m47) (0 + 7 + 7 + n47) o p1 (some q39) (some q42) 0 _ _ _ h hT (lv_sub hl [3, 4, 2, 1, 0] rfl)
/-! X5_readOne -/
def wpb_X5_readOne (post : Option Nat → cs_S → Prop) (G : Nat → Nat) (mc ms : Nat) (rc0 : (Option Nat → cs_S → Prop) → Nat → Nat → cs_S → Nat → Int32 → Prop) (rc1 : (Option Nat → cs_S → Prop) → Nat → Nat → cs_S → Nat → Int32 → Prop) (S : cs_S) (o : Nat) (p1 : Int32) : Prop := cs_k S o = 7 ∧ ((cs_i S 606 o).toInt = 2 → ∃ m36 n36, 0 + m36 ≤ mc ∧ 0 + n36 ≤ ms ∧ wp_X5_readFieldTest (fun r36 S36 => post r36 S36) G m36 n36 S o) ∧ ((cs_i S 606 o).toInt = 6 → (p1 ≤ 12 → (¬ (cs_i S 606 o) = 34 → wp_X5_step (fun S37 => cs_k S37 o = 7 ∧ ∃ m38 n38, 0 + m38 ≤ mc ∧ 0 + n38 ≤ ms ∧ rc0 (fun r38 S38 => cs_k S38 o = 7 ∧ wp_X5_skip (fun S40 => post r38 S40) G S38 o 7) m38 n38 S37 o (p1 + 1)) G S o) ∧ ((cs_i S 606 o) = 34 → wp_X5_step (fun S42 => 0 + 1 ≤ mc ∧ 0 + 7 ≤ ms ∧ ∀ q43, cs_k S42 q43 = 0 → ∀ S44, S44 = cs_new S42 q43 2 → wp_X1_init (fun S45 => cs_k S45 o = 7 ∧ ∃ m46 n46, 0 + 1 + m46 ≤ mc ∧ 0 + 7 + n46 ≤ ms ∧ rc1 (fun r46 S46 => cs_k S46 q43 = 3 ∧ wp_X1_append (fun S48 => post (some q43) S48) G S46 q43 r46) m46 n46 S45 o (p1 + 1)) G S44 q43 34 0 0 none) G S o)) ∧ (¬ p1 ≤ 12 → wp_X5_fail (fun S50 => post none S50) G S o 4)) ∧ ((cs_i S 606 o).toInt = 34 → (p1 ≤ 12 → (¬ (cs_i S 606 o) = 34 → wp_X5_step (fun S51 => cs_k S51 o = 7 ∧ ∃ m52 n52, 0 + m52 ≤ mc ∧ 0 + n52 ≤ ms ∧ rc0 (fun r52 S52 => cs_k S52 o = 7 ∧ wp_X5_skip (fun S54 => post r52 S54) G S52 o 7) m52 n52 S51 o (p1 + 1)) G S o) ∧ ((cs_i S 606 o) = 34 → wp_X5_step (fun S56 => 0 + 1 ≤ mc ∧ 0 + 7 ≤ ms ∧ ∀ q57, cs_k S56 q57 = 0 → ∀ S58, S58 = cs_new S56 q57 2 → wp_X1_init (fun S59 => cs_k S59 o = 7 ∧ ∃ m60 n60, 0 + 1 + m60 ≤ mc ∧ 0 + 7 + n60 ≤ ms ∧ rc1 (fun r60 S60 => cs_k S60 q57 = 3 ∧ wp_X1_append (fun S62 => post (some q57) S62) G S60 q57 r60) m60 n60 S59 o (p1 + 1)) G S58 q57 34 0 0 none) G S o)) ∧ (¬ p1 ≤ 12 → wp_X5_fail (fun S64 => post none S64) G S o 4)) ∧ ((cs_i S 606 o).toInt = 35 → ∃ m65 n65, 0 + m65 ≤ mc ∧ 0 + n65 ≤ ms ∧ wp_X5_readWordTest (fun r65 S65 => post r65 S65) G m65 n65 S o) ∧ ((cs_i S 606 o).toInt = 36 → ∃ m66 n66, 0 + m66 ≤ mc ∧ 0 + n66 ≤ ms ∧ wp_X5_readWordTest (fun r66 S66 => post r66 S66) G m66 n66 S o) ∧ ((cs_i S 606 o).toInt = 37 → ∃ m67 n67, 0 + m67 ≤ mc ∧ 0 + n67 ≤ ms ∧ wp_X5_readWordTest (fun r67 S67 => post r67 S67) G m67 n67 S o) ∧ (¬ (cs_i S 606 o).toInt = 2 ∧ ¬ (cs_i S 606 o).toInt = 6 ∧ ¬ (cs_i S 606 o).toInt = 34 ∧ ¬ (cs_i S 606 o).toInt = 35 ∧ ¬ (cs_i S 606 o).toInt = 36 ∧ ¬ (cs_i S 606 o).toInt = 37 → wp_X5_fail (fun S68 => post none S68) G S o 2)
set_option maxRecDepth 100000 in
set_option maxHeartbeats 4000000 in
theorem cb_X5_readOne {l : Launch} {P : hw_G} {G : Nat → Nat} {dp : Nat} {rc0 : (Option Nat → cs_S → Prop) → Nat → Nat → cs_S → Nat → Int32 → Prop} {rc1 : (Option Nat → cs_S → Prop) → Nat → Nat → cs_S → Nat → Int32 → Prop} (hrc0 : ∀ {S : cs_S} {sz : Nat} {mc ms : Nat} {o : Nat} {a0 : Int32} {post : Option Nat → cs_S → Prop}, rc0 post mc ms S o a0 → Met l yX5_readCond [Cond.code yX5_readCond cX5_readCond 5 (some (.object "WatchHouse$Cond"))] (rmg_X5_readCond dp mc ms) (cs_Pc P G S sz [.ref o, .int a0]) (cs_Qr P (cs_A S sz) post) mc ms (cs_A S sz)) (hrc1 : ∀ {S : cs_S} {sz : Nat} {mc ms : Nat} {o : Nat} {a0 : Int32} {post : Option Nat → cs_S → Prop}, rc1 post mc ms S o a0 → Met l yX5_readOne [Cond.code yX5_readOne cX5_readOne 3 (some (.object "WatchHouse$Cond"))] (rmg_X5_readCond dp mc ms) (cs_Pc P G S sz [.ref o, .int a0]) (cs_Qr P (cs_A S sz) post) mc ms (cs_A S sz)) {S : cs_S} {sz : Nat} {mc ms : Nat} {o : Nat} {p1 : Int32} {post : Option Nat → cs_S → Prop} (h : wpb_X5_readOne post G mc ms rc0 rc1 S o p1) : Met l yX5_readOne [Cond.code yX5_readOne cX5_readOne 3 (some (.object "WatchHouse$Cond"))] (rmg_X5_readCond (dp + 1) mc ms) (cs_Pc P G S sz [.ref o, .int p1]) (cs_Qr P (cs_A S sz) post) mc ms (cs_A S sz) := by
  refine cs_met (by decide) rfl (Nat.le_of_ble_eq_true rfl) ?_
  intro p e s m below meth c ls hC hin hO hT hl
  obtain ⟨hx, hb, hml, hown, hK, -, -⟩ := id hC
  replace hl : lv_has ls 3 [(0, .ref o), (1, .int p1)] := hl
  refine lv_aload_n (x := o) hx hb dX5_readOne_0 rfl (lv_at hl 0 rfl) ?_
  obtain ⟨hk35_, h⟩ := h
  refine cs_get hx hb hK hT hown 6 hk35_ (by decide) rfl 6 (by decide) kfX5_27 (v := .int (cs_i S 606 o)) rfl dX5_readOne_1 ?_
  by_cases hz0 : (cs_i S 606 o).toInt = 2
  · replace h := h.1 hz0
    refine lv_lookup (tgt := 141) (off := 137) hx hb dX5_readOne_4 rfl (by rw [hz0]; decide) (by decide) ?_
    refine lv_aload_n (x := o) hx hb dX5_readOne_141 rfl (lv_at hl 0 rfl) ?_
    obtain ⟨m36, n36, hu36, hv36, h⟩ := h
    refine cs_callr (cs_runV hx hb hml hown hK hO hT 6 hk35_ (by decide) rfl (c_X5_readFieldTest h) rfl rfl klX5_146 ki_X5_readFieldTest ks_X5_readFieldTest kn_X5 kc_X5_readFieldTest 0 ⟨rfl, by decide, by decide, by decide +kernel⟩ ⟨by show 3 + 1 ≤ 4 + (dp + 1); omega, by show 8 + (6 + 11) + 79 ≤ 104 + 40 * (dp + 1); omega⟩ rfl hl.1 rfl (hw_cat8 (Nat.le_of_ble_eq_true rfl)) ⟨hu36, hv36⟩ dX5_readOne_142) hT (fun r36 S36 H locs h_ hT_ => ?_)
    replace h := h_
    replace hT := hT_
    exact cs_aret (v := r36) hC (Or.inl ⟨_, rfl⟩) hT h dX5_readOne_145 hu36 hv36
  by_cases hz1 : (cs_i S 606 o).toInt = 6
  · replace h := h.2.1 hz1
    refine lv_lookup (tgt := 64) (off := 60) hx hb dX5_readOne_4 rfl (by rw [hz1]; decide) (by decide) ?_
    refine lv_iload_n hx hb dX5_readOne_64 rfl (lv_at hl 1 rfl) ?_
    refine lv_bipush (v := 12) hx hb dX5_readOne_65 (by decide) ?_
    refine lv_icmp_le (tgt := 77) hx hb dX5_readOne_67 (by decide) (fun hc => ?_) (fun hc => ?_)
    · replace h := h.1 hc
      refine lv_aload_n (x := o) hx hb dX5_readOne_77 rfl (lv_at hl 0 rfl) ?_
      refine cs_get hx hb hK hT hown 6 hk35_ (by decide) rfl 6 (by decide) kfX5_27 (v := .int (cs_i S 606 o)) rfl dX5_readOne_78 ?_
      refine lv_bipush (v := 34) hx hb dX5_readOne_81 (by decide) ?_
      refine lv_icmp_ne (tgt := 116) hx hb dX5_readOne_83 (by decide) (fun hc => ?_) (fun hc => ?_)
      · replace h := h.1 hc
        refine lv_aload_n (x := o) hx hb dX5_readOne_116 rfl (lv_at hl 0 rfl) ?_
        refine cs_callv0 (cs_runV hx hb hml hown hK hO hT 6 hk35_ (by decide) rfl (c_X5_step h) rfl rfl klX5_43 ki_X5_step ks_X5_step kn_X5 kc_X5_step 0 ⟨rfl, by decide, by decide, by decide +kernel⟩ ⟨by show 0 + 1 ≤ 4 + (dp + 1); omega, by show 8 + (1 + 11) + 0 ≤ 104 + 40 * (dp + 1); omega⟩ rfl hl.1 rfl (hw_cat8 (Nat.le_of_ble_eq_true rfl)) ⟨(Nat.zero_le _), (Nat.zero_le _)⟩ dX5_readOne_117) hT (fun S37 H locs h_ hT_ => ?_)
        replace h := h_
        replace hT := hT_
        refine lv_aload_n (x := o) hx hb dX5_readOne_120 rfl (lv_at hl 0 rfl) ?_
        refine lv_iload_n hx hb dX5_readOne_121 rfl (lv_at hl 1 rfl) ?_
        refine lv_iconst (v := 1) hx hb dX5_readOne_122 (by decide) ?_
        refine lv_iadd hx hb dX5_readOne_123 ?_
        obtain ⟨hk39_, h⟩ := h
        obtain ⟨m38, n38, hu38, hv38, h⟩ := h
        refine cs_callr (cs_runV hx hb hml hown hK hO hT 6 hk39_ (by decide) rfl (hrc0 h) rfl rfl klX5_119 ki_X5_readCond ks_X5_readCond kn_X5 kc_X5_readCond 1 ⟨rfl, by decide, by decide, by decide +kernel⟩ ⟨by show 4 + dp + 1 ≤ 4 + (dp + 1); omega, by show 8 + (5 + 11) + (104 + 40 * dp) ≤ 104 + 40 * (dp + 1); omega⟩ rfl hl.1 rfl (hw_cat8 (Nat.le_of_ble_eq_true rfl)) ⟨hu38, hv38⟩ dX5_readOne_124) hT (fun r38 S38 H locs h_ hT_ => ?_)
        replace h := h_
        replace hT := hT_
        refine hw_astore_n (lv' := [(2, _), (0, _), (1, _)]) (x := r38) hx hb dX5_readOne_127 rfl hl (by decide) rfl (fun ls hl_ => ?_)
        replace hl := hl_
        refine lv_aload_n (x := o) hx hb dX5_readOne_128 rfl (lv_at hl 1 rfl) ?_
        refine lv_bipush (v := 7) hx hb dX5_readOne_129 (by decide) ?_
        obtain ⟨hk41_, h⟩ := h
        refine cs_callv0 (cs_runV hx hb hml hown hK hO hT 6 hk41_ (by decide) rfl (c_X5_skip h) rfl rfl klX5_70 ki_X5_skip ks_X5_skip kn_X5 kc_X5_skip 1 ⟨rfl, by decide, by decide, by decide +kernel⟩ ⟨by show 1 + 1 ≤ 4 + (dp + 1); omega, by show 8 + (2 + 11) + 21 ≤ 104 + 40 * (dp + 1); omega⟩ rfl hl.1 rfl (hw_cat8 (Nat.le_of_ble_eq_true rfl)) ⟨hu38, hv38⟩ dX5_readOne_131) hT (fun S40 H locs h_ hT_ => ?_)
        replace h := h_
        replace hT := hT_
        refine hw_aload_n (x := r38) hx hb dX5_readOne_134 rfl (lv_at hl 0 rfl) ?_
        exact cs_aret (v := r38) hC (Or.inl ⟨_, rfl⟩) hT h dX5_readOne_135 hu38 hv38
      · replace h := h.2 hc
        refine lv_aload_n (x := o) hx hb dX5_readOne_86 rfl (lv_at hl 0 rfl) ?_
        refine cs_callv0 (cs_runV hx hb hml hown hK hO hT 6 hk35_ (by decide) rfl (c_X5_step h) rfl rfl klX5_43 ki_X5_step ks_X5_step kn_X5 kc_X5_step 0 ⟨rfl, by decide, by decide, by decide +kernel⟩ ⟨by show 0 + 1 ≤ 4 + (dp + 1); omega, by show 8 + (1 + 11) + 0 ≤ 104 + 40 * (dp + 1); omega⟩ rfl hl.1 rfl (hw_cat8 (Nat.le_of_ble_eq_true rfl)) ⟨(Nat.zero_le _), (Nat.zero_le _)⟩ dX5_readOne_87) hT (fun S42 H locs h_ hT_ => ?_)
        replace h := h_
        replace hT := hT_
        obtain ⟨hu43, hv43, h⟩ := h
        refine cs_newo hx hb hK hT hown 2 (by decide) rfl tyX1_ok cs_df2 kxX5_131 kj_X1 kn_X1 hu43 hv43 dX5_readOne_90 (fun q43 H hq43 hT_ => ?_)
        replace h := h q43 hq43
        replace hT := hT_
        obtain ⟨S44, eS44⟩ : ∃ z, z = cs_new S42 q43 2 := ⟨_, rfl⟩
        rw [← eS44] at hT
        replace h := h S44 eS44
        refine lv_dup hx hb dX5_readOne_93 rfl ?_
        refine lv_bipush (v := 34) hx hb dX5_readOne_94 (by decide) ?_
        refine lv_lconst (v := 0) hx hb dX5_readOne_96 (by decide) ?_
        refine lv_iconst (v := 0) hx hb dX5_readOne_97 (by decide) ?_
        refine hw_null hx hb dX5_readOne_98 ?_
        refine cs_callv0 (cs_runI hx hb hml hown hK hO hT (c_X1_init h) rfl rfl klX5_133 ki_X1_init kn_X1 kc_X1_init rfl 4 ⟨by decide, by decide, by decide +kernel⟩ ⟨by show 1 + 1 ≤ 4 + (dp + 1); omega, by show 8 + (6 + 11) + 24 ≤ 104 + 40 * (dp + 1); omega⟩ rfl hl.1 rfl (hw_cat8 (Nat.le_of_ble_eq_true rfl)) ⟨hu43, hv43⟩ dX5_readOne_99) hT (fun S45 H locs h_ hT_ => ?_)
        replace h := h_
        replace hT := hT_
        refine lv_astore_n (lv' := [(2, _), (0, _), (1, _)]) (x := q43) hx hb dX5_readOne_102 rfl hl (by decide) rfl (fun ls hl_ => ?_)
        replace hl := hl_
        refine lv_aload_n (x := q43) hx hb dX5_readOne_103 rfl (lv_at hl 0 rfl) ?_
        refine lv_aload_n (x := o) hx hb dX5_readOne_104 rfl (lv_at hl 1 rfl) ?_
        refine lv_iload_n hx hb dX5_readOne_105 rfl (lv_at hl 2 rfl) ?_
        refine lv_iconst (v := 1) hx hb dX5_readOne_106 (by decide) ?_
        refine lv_iadd hx hb dX5_readOne_107 ?_
        obtain ⟨hk47_, h⟩ := h
        obtain ⟨m46, n46, hu46, hv46, h⟩ := h
        refine cs_callr (cs_runV hx hb hml hown hK hO hT 6 hk47_ (by decide) rfl (hrc1 h) rfl rfl klX5_139 ki_X5_readOne ks_X5_readOne kn_X5 kc_X5_readOne 1 ⟨rfl, by decide, by decide, by decide +kernel⟩ ⟨by show 4 + dp + 1 ≤ 4 + (dp + 1); omega, by show 8 + (3 + 11) + (104 + 40 * dp) ≤ 104 + 40 * (dp + 1); omega⟩ rfl hl.1 rfl (hw_cat8 (Nat.le_of_ble_eq_true rfl)) ⟨hu46, hv46⟩ dX5_readOne_108) hT (fun r46 S46 H locs h_ hT_ => ?_)
        replace h := h_
        replace hT := hT_
        obtain ⟨hk49_, h⟩ := h
        refine cs_callv0 (cs_runV hx hb hml hown hK hO hT 2 hk49_ (by decide) rfl (c_X1_append h) rfl rfl klX5_136 ki_X1_append ks_X1_append kn_X1 kc_X1_append 1 ⟨rfl, by decide, by decide, by decide +kernel⟩ ⟨by show 0 + 1 ≤ 4 + (dp + 1); omega, by show 8 + (2 + 11) + 0 ≤ 104 + 40 * (dp + 1); omega⟩ rfl hl.1 rfl (hw_cat8 (Nat.le_of_ble_eq_true rfl)) ⟨hu46, hv46⟩ dX5_readOne_111) hT (fun S48 H locs h_ hT_ => ?_)
        replace h := h_
        replace hT := hT_
        refine lv_aload_n (x := q43) hx hb dX5_readOne_114 rfl (lv_at hl 0 rfl) ?_
        exact cs_aret (v := (some q43)) hC (Or.inl ⟨_, rfl⟩) hT h dX5_readOne_115 hu46 hv46
    · replace h := h.2 hc
      refine lv_aload_n (x := o) hx hb dX5_readOne_70 rfl (lv_at hl 0 rfl) ?_
      refine lv_iconst (v := 4) hx hb dX5_readOne_71 (by decide) ?_
      refine cs_callv0 (cs_runV hx hb hml hown hK hO hT 6 hk35_ (by decide) rfl (c_X5_fail h) rfl rfl klX5_46 ki_X5_fail ks_X5_fail kn_X5 kc_X5_fail 1 ⟨rfl, by decide, by decide, by decide +kernel⟩ ⟨by show 0 + 1 ≤ 4 + (dp + 1); omega, by show 8 + (2 + 11) + 0 ≤ 104 + 40 * (dp + 1); omega⟩ rfl hl.1 rfl (hw_cat8 (Nat.le_of_ble_eq_true rfl)) ⟨(Nat.zero_le _), (Nat.zero_le _)⟩ dX5_readOne_72) hT (fun S50 H locs h_ hT_ => ?_)
      replace h := h_
      replace hT := hT_
      refine hw_null hx hb dX5_readOne_75 ?_
      exact cs_aret (v := none) hC (Or.inl ⟨_, rfl⟩) hT h dX5_readOne_76 (Nat.zero_le _) (Nat.zero_le _)
  by_cases hz2 : (cs_i S 606 o).toInt = 34
  · replace h := h.2.2.1 hz2
    refine lv_lookup (tgt := 64) (off := 60) hx hb dX5_readOne_4 rfl (by rw [hz2]; decide) (by decide) ?_
    refine lv_iload_n hx hb dX5_readOne_64 rfl (lv_at hl 1 rfl) ?_
    refine lv_bipush (v := 12) hx hb dX5_readOne_65 (by decide) ?_
    refine lv_icmp_le (tgt := 77) hx hb dX5_readOne_67 (by decide) (fun hc => ?_) (fun hc => ?_)
    · replace h := h.1 hc
      refine lv_aload_n (x := o) hx hb dX5_readOne_77 rfl (lv_at hl 0 rfl) ?_
      refine cs_get hx hb hK hT hown 6 hk35_ (by decide) rfl 6 (by decide) kfX5_27 (v := .int (cs_i S 606 o)) rfl dX5_readOne_78 ?_
      refine lv_bipush (v := 34) hx hb dX5_readOne_81 (by decide) ?_
      refine lv_icmp_ne (tgt := 116) hx hb dX5_readOne_83 (by decide) (fun hc => ?_) (fun hc => ?_)
      · replace h := h.1 hc
        refine lv_aload_n (x := o) hx hb dX5_readOne_116 rfl (lv_at hl 0 rfl) ?_
        refine cs_callv0 (cs_runV hx hb hml hown hK hO hT 6 hk35_ (by decide) rfl (c_X5_step h) rfl rfl klX5_43 ki_X5_step ks_X5_step kn_X5 kc_X5_step 0 ⟨rfl, by decide, by decide, by decide +kernel⟩ ⟨by show 0 + 1 ≤ 4 + (dp + 1); omega, by show 8 + (1 + 11) + 0 ≤ 104 + 40 * (dp + 1); omega⟩ rfl hl.1 rfl (hw_cat8 (Nat.le_of_ble_eq_true rfl)) ⟨(Nat.zero_le _), (Nat.zero_le _)⟩ dX5_readOne_117) hT (fun S51 H locs h_ hT_ => ?_)
        replace h := h_
        replace hT := hT_
        refine lv_aload_n (x := o) hx hb dX5_readOne_120 rfl (lv_at hl 0 rfl) ?_
        refine lv_iload_n hx hb dX5_readOne_121 rfl (lv_at hl 1 rfl) ?_
        refine lv_iconst (v := 1) hx hb dX5_readOne_122 (by decide) ?_
        refine lv_iadd hx hb dX5_readOne_123 ?_
        obtain ⟨hk53_, h⟩ := h
        obtain ⟨m52, n52, hu52, hv52, h⟩ := h
        refine cs_callr (cs_runV hx hb hml hown hK hO hT 6 hk53_ (by decide) rfl (hrc0 h) rfl rfl klX5_119 ki_X5_readCond ks_X5_readCond kn_X5 kc_X5_readCond 1 ⟨rfl, by decide, by decide, by decide +kernel⟩ ⟨by show 4 + dp + 1 ≤ 4 + (dp + 1); omega, by show 8 + (5 + 11) + (104 + 40 * dp) ≤ 104 + 40 * (dp + 1); omega⟩ rfl hl.1 rfl (hw_cat8 (Nat.le_of_ble_eq_true rfl)) ⟨hu52, hv52⟩ dX5_readOne_124) hT (fun r52 S52 H locs h_ hT_ => ?_)
        replace h := h_
        replace hT := hT_
        refine hw_astore_n (lv' := [(2, _), (0, _), (1, _)]) (x := r52) hx hb dX5_readOne_127 rfl hl (by decide) rfl (fun ls hl_ => ?_)
        replace hl := hl_
        refine lv_aload_n (x := o) hx hb dX5_readOne_128 rfl (lv_at hl 1 rfl) ?_
        refine lv_bipush (v := 7) hx hb dX5_readOne_129 (by decide) ?_
        obtain ⟨hk55_, h⟩ := h
        refine cs_callv0 (cs_runV hx hb hml hown hK hO hT 6 hk55_ (by decide) rfl (c_X5_skip h) rfl rfl klX5_70 ki_X5_skip ks_X5_skip kn_X5 kc_X5_skip 1 ⟨rfl, by decide, by decide, by decide +kernel⟩ ⟨by show 1 + 1 ≤ 4 + (dp + 1); omega, by show 8 + (2 + 11) + 21 ≤ 104 + 40 * (dp + 1); omega⟩ rfl hl.1 rfl (hw_cat8 (Nat.le_of_ble_eq_true rfl)) ⟨hu52, hv52⟩ dX5_readOne_131) hT (fun S54 H locs h_ hT_ => ?_)
        replace h := h_
        replace hT := hT_
        refine hw_aload_n (x := r52) hx hb dX5_readOne_134 rfl (lv_at hl 0 rfl) ?_
        exact cs_aret (v := r52) hC (Or.inl ⟨_, rfl⟩) hT h dX5_readOne_135 hu52 hv52
      · replace h := h.2 hc
        refine lv_aload_n (x := o) hx hb dX5_readOne_86 rfl (lv_at hl 0 rfl) ?_
        refine cs_callv0 (cs_runV hx hb hml hown hK hO hT 6 hk35_ (by decide) rfl (c_X5_step h) rfl rfl klX5_43 ki_X5_step ks_X5_step kn_X5 kc_X5_step 0 ⟨rfl, by decide, by decide, by decide +kernel⟩ ⟨by show 0 + 1 ≤ 4 + (dp + 1); omega, by show 8 + (1 + 11) + 0 ≤ 104 + 40 * (dp + 1); omega⟩ rfl hl.1 rfl (hw_cat8 (Nat.le_of_ble_eq_true rfl)) ⟨(Nat.zero_le _), (Nat.zero_le _)⟩ dX5_readOne_87) hT (fun S56 H locs h_ hT_ => ?_)
        replace h := h_
        replace hT := hT_
        obtain ⟨hu57, hv57, h⟩ := h
        refine cs_newo hx hb hK hT hown 2 (by decide) rfl tyX1_ok cs_df2 kxX5_131 kj_X1 kn_X1 hu57 hv57 dX5_readOne_90 (fun q57 H hq57 hT_ => ?_)
        replace h := h q57 hq57
        replace hT := hT_
        obtain ⟨S58, eS58⟩ : ∃ z, z = cs_new S56 q57 2 := ⟨_, rfl⟩
        rw [← eS58] at hT
        replace h := h S58 eS58
        refine lv_dup hx hb dX5_readOne_93 rfl ?_
        refine lv_bipush (v := 34) hx hb dX5_readOne_94 (by decide) ?_
        refine lv_lconst (v := 0) hx hb dX5_readOne_96 (by decide) ?_
        refine lv_iconst (v := 0) hx hb dX5_readOne_97 (by decide) ?_
        refine hw_null hx hb dX5_readOne_98 ?_
        refine cs_callv0 (cs_runI hx hb hml hown hK hO hT (c_X1_init h) rfl rfl klX5_133 ki_X1_init kn_X1 kc_X1_init rfl 4 ⟨by decide, by decide, by decide +kernel⟩ ⟨by show 1 + 1 ≤ 4 + (dp + 1); omega, by show 8 + (6 + 11) + 24 ≤ 104 + 40 * (dp + 1); omega⟩ rfl hl.1 rfl (hw_cat8 (Nat.le_of_ble_eq_true rfl)) ⟨hu57, hv57⟩ dX5_readOne_99) hT (fun S59 H locs h_ hT_ => ?_)
        replace h := h_
        replace hT := hT_
        refine lv_astore_n (lv' := [(2, _), (0, _), (1, _)]) (x := q57) hx hb dX5_readOne_102 rfl hl (by decide) rfl (fun ls hl_ => ?_)
        replace hl := hl_
        refine lv_aload_n (x := q57) hx hb dX5_readOne_103 rfl (lv_at hl 0 rfl) ?_
        refine lv_aload_n (x := o) hx hb dX5_readOne_104 rfl (lv_at hl 1 rfl) ?_
        refine lv_iload_n hx hb dX5_readOne_105 rfl (lv_at hl 2 rfl) ?_
        refine lv_iconst (v := 1) hx hb dX5_readOne_106 (by decide) ?_
        refine lv_iadd hx hb dX5_readOne_107 ?_
        obtain ⟨hk61_, h⟩ := h
        obtain ⟨m60, n60, hu60, hv60, h⟩ := h
        refine cs_callr (cs_runV hx hb hml hown hK hO hT 6 hk61_ (by decide) rfl (hrc1 h) rfl rfl klX5_139 ki_X5_readOne ks_X5_readOne kn_X5 kc_X5_readOne 1 ⟨rfl, by decide, by decide, by decide +kernel⟩ ⟨by show 4 + dp + 1 ≤ 4 + (dp + 1); omega, by show 8 + (3 + 11) + (104 + 40 * dp) ≤ 104 + 40 * (dp + 1); omega⟩ rfl hl.1 rfl (hw_cat8 (Nat.le_of_ble_eq_true rfl)) ⟨hu60, hv60⟩ dX5_readOne_108) hT (fun r60 S60 H locs h_ hT_ => ?_)
        replace h := h_
        replace hT := hT_
        obtain ⟨hk63_, h⟩ := h
        refine cs_callv0 (cs_runV hx hb hml hown hK hO hT 2 hk63_ (by decide) rfl (c_X1_append h) rfl rfl klX5_136 ki_X1_append ks_X1_append kn_X1 kc_X1_append 1 ⟨rfl, by decide, by decide, by decide +kernel⟩ ⟨by show 0 + 1 ≤ 4 + (dp + 1); omega, by show 8 + (2 + 11) + 0 ≤ 104 + 40 * (dp + 1); omega⟩ rfl hl.1 rfl (hw_cat8 (Nat.le_of_ble_eq_true rfl)) ⟨hu60, hv60⟩ dX5_readOne_111) hT (fun S62 H locs h_ hT_ => ?_)
        replace h := h_
        replace hT := hT_
        refine lv_aload_n (x := q57) hx hb dX5_readOne_114 rfl (lv_at hl 0 rfl) ?_
        exact cs_aret (v := (some q57)) hC (Or.inl ⟨_, rfl⟩) hT h dX5_readOne_115 hu60 hv60
    · replace h := h.2 hc
      refine lv_aload_n (x := o) hx hb dX5_readOne_70 rfl (lv_at hl 0 rfl) ?_
      refine lv_iconst (v := 4) hx hb dX5_readOne_71 (by decide) ?_
      refine cs_callv0 (cs_runV hx hb hml hown hK hO hT 6 hk35_ (by decide) rfl (c_X5_fail h) rfl rfl klX5_46 ki_X5_fail ks_X5_fail kn_X5 kc_X5_fail 1 ⟨rfl, by decide, by decide, by decide +kernel⟩ ⟨by show 0 + 1 ≤ 4 + (dp + 1); omega, by show 8 + (2 + 11) + 0 ≤ 104 + 40 * (dp + 1); omega⟩ rfl hl.1 rfl (hw_cat8 (Nat.le_of_ble_eq_true rfl)) ⟨(Nat.zero_le _), (Nat.zero_le _)⟩ dX5_readOne_72) hT (fun S64 H locs h_ hT_ => ?_)
      replace h := h_
      replace hT := hT_
      refine hw_null hx hb dX5_readOne_75 ?_
      exact cs_aret (v := none) hC (Or.inl ⟨_, rfl⟩) hT h dX5_readOne_76 (Nat.zero_le _) (Nat.zero_le _)
  by_cases hz3 : (cs_i S 606 o).toInt = 35
  · replace h := h.2.2.2.1 hz3
    refine lv_lookup (tgt := 136) (off := 132) hx hb dX5_readOne_4 rfl (by rw [hz3]; decide) (by decide) ?_
    refine lv_aload_n (x := o) hx hb dX5_readOne_136 rfl (lv_at hl 0 rfl) ?_
    obtain ⟨m65, n65, hu65, hv65, h⟩ := h
    refine cs_callr (cs_runV hx hb hml hown hK hO hT 6 hk35_ (by decide) rfl (c_X5_readWordTest h) rfl rfl klX5_142 ki_X5_readWordTest ks_X5_readWordTest kn_X5 kc_X5_readWordTest 0 ⟨rfl, by decide, by decide, by decide +kernel⟩ ⟨by show 2 + 1 ≤ 4 + (dp + 1); omega, by show 8 + (5 + 11) + 49 ≤ 104 + 40 * (dp + 1); omega⟩ rfl hl.1 rfl (hw_cat8 (Nat.le_of_ble_eq_true rfl)) ⟨hu65, hv65⟩ dX5_readOne_137) hT (fun r65 S65 H locs h_ hT_ => ?_)
    replace h := h_
    replace hT := hT_
    exact cs_aret (v := r65) hC (Or.inl ⟨_, rfl⟩) hT h dX5_readOne_140 hu65 hv65
  by_cases hz4 : (cs_i S 606 o).toInt = 36
  · replace h := h.2.2.2.2.1 hz4
    refine lv_lookup (tgt := 136) (off := 132) hx hb dX5_readOne_4 rfl (by rw [hz4]; decide) (by decide) ?_
    refine lv_aload_n (x := o) hx hb dX5_readOne_136 rfl (lv_at hl 0 rfl) ?_
    obtain ⟨m66, n66, hu66, hv66, h⟩ := h
    refine cs_callr (cs_runV hx hb hml hown hK hO hT 6 hk35_ (by decide) rfl (c_X5_readWordTest h) rfl rfl klX5_142 ki_X5_readWordTest ks_X5_readWordTest kn_X5 kc_X5_readWordTest 0 ⟨rfl, by decide, by decide, by decide +kernel⟩ ⟨by show 2 + 1 ≤ 4 + (dp + 1); omega, by show 8 + (5 + 11) + 49 ≤ 104 + 40 * (dp + 1); omega⟩ rfl hl.1 rfl (hw_cat8 (Nat.le_of_ble_eq_true rfl)) ⟨hu66, hv66⟩ dX5_readOne_137) hT (fun r66 S66 H locs h_ hT_ => ?_)
    replace h := h_
    replace hT := hT_
    exact cs_aret (v := r66) hC (Or.inl ⟨_, rfl⟩) hT h dX5_readOne_140 hu66 hv66
  by_cases hz5 : (cs_i S 606 o).toInt = 37
  · replace h := h.2.2.2.2.2.1 hz5
    refine lv_lookup (tgt := 136) (off := 132) hx hb dX5_readOne_4 rfl (by rw [hz5]; decide) (by decide) ?_
    refine lv_aload_n (x := o) hx hb dX5_readOne_136 rfl (lv_at hl 0 rfl) ?_
    obtain ⟨m67, n67, hu67, hv67, h⟩ := h
    refine cs_callr (cs_runV hx hb hml hown hK hO hT 6 hk35_ (by decide) rfl (c_X5_readWordTest h) rfl rfl klX5_142 ki_X5_readWordTest ks_X5_readWordTest kn_X5 kc_X5_readWordTest 0 ⟨rfl, by decide, by decide, by decide +kernel⟩ ⟨by show 2 + 1 ≤ 4 + (dp + 1); omega, by show 8 + (5 + 11) + 49 ≤ 104 + 40 * (dp + 1); omega⟩ rfl hl.1 rfl (hw_cat8 (Nat.le_of_ble_eq_true rfl)) ⟨hu67, hv67⟩ dX5_readOne_137) hT (fun r67 S67 H locs h_ hT_ => ?_)
    replace h := h_
    replace hT := hT_
    exact cs_aret (v := r67) hC (Or.inl ⟨_, rfl⟩) hT h dX5_readOne_140 hu67 hv67
  replace h := h.2.2.2.2.2.2 ⟨hz0, hz1, hz2, hz3, hz4, hz5⟩
  refine lv_lookup (tgt := 146) (off := 142) hx hb dX5_readOne_4 rfl ((hw_osw hz0).trans ((hw_osw hz1).trans ((hw_osw hz2).trans ((hw_osw hz3).trans ((hw_osw hz4).trans ((hw_osw hz5).trans rfl)))))) (by decide) ?_
  refine lv_aload_n (x := o) hx hb dX5_readOne_146 rfl (lv_at hl 0 rfl) ?_
  refine lv_iconst (v := 2) hx hb dX5_readOne_147 (by decide) ?_
  refine cs_callv0 (cs_runV hx hb hml hown hK hO hT 6 hk35_ (by decide) rfl (c_X5_fail h) rfl rfl klX5_46 ki_X5_fail ks_X5_fail kn_X5 kc_X5_fail 1 ⟨rfl, by decide, by decide, by decide +kernel⟩ ⟨by show 0 + 1 ≤ 4 + (dp + 1); omega, by show 8 + (2 + 11) + 0 ≤ 104 + 40 * (dp + 1); omega⟩ rfl hl.1 rfl (hw_cat8 (Nat.le_of_ble_eq_true rfl)) ⟨(Nat.zero_le _), (Nat.zero_le _)⟩ dX5_readOne_148) hT (fun S68 H locs h_ hT_ => ?_)
  replace h := h_
  replace hT := hT_
  refine hw_null hx hb dX5_readOne_151 ?_
  exact cs_aret (v := none) hC (Or.inl ⟨_, rfl⟩) hT h dX5_readOne_152 (Nat.zero_le _) (Nat.zero_le _)
def wg_X5_readCond : Nat → Nat → (Option Nat → cs_S → Prop) → (Nat → Nat) → Nat → Nat → cs_S → Nat → Int32 → Prop
  | 0, _, _, _, _, _, _, _, _ => False
  | d + 1, t, post, G, mc, ms, S, o, a0 => if t = 0 then wpb_X5_readCond post G mc ms (fun post mc ms S o a0 => wg_X5_readCond d 0 post G mc ms S o a0) (fun post mc ms S o a0 => wg_X5_readCond d 1 post G mc ms S o a0) S o a0 else wpb_X5_readOne post G mc ms (fun post mc ms S o a0 => wg_X5_readCond d 0 post G mc ms S o a0) (fun post mc ms S o a0 => wg_X5_readCond d 1 post G mc ms S o a0) S o a0
def wp_X5_readCond (d : Nat) (post : Option Nat → cs_S → Prop) (G : Nat → Nat) (mc ms : Nat) (S : cs_S) (o : Nat) (a0 : Int32) : Prop := wg_X5_readCond d 0 post G mc ms S o a0
def wp_X5_readOne (d : Nat) (post : Option Nat → cs_S → Prop) (G : Nat → Nat) (mc ms : Nat) (S : cs_S) (o : Nat) (a0 : Int32) : Prop := wg_X5_readCond d 1 post G mc ms S o a0
theorem cg_X5_readCond {l : Launch} {P : hw_G} {G : Nat → Nat} (d : Nat) : (∀ {S : cs_S} {sz : Nat} {mc ms : Nat} {o : Nat} {a0 : Int32} {post : Option Nat → cs_S → Prop}, wg_X5_readCond d 0 post G mc ms S o a0 → Met l yX5_readCond [Cond.code yX5_readCond cX5_readCond 5 (some (.object "WatchHouse$Cond"))] (rmg_X5_readCond d mc ms) (cs_Pc P G S sz [.ref o, .int a0]) (cs_Qr P (cs_A S sz) post) mc ms (cs_A S sz)) ∧ (∀ {S : cs_S} {sz : Nat} {mc ms : Nat} {o : Nat} {a0 : Int32} {post : Option Nat → cs_S → Prop}, wg_X5_readCond d 1 post G mc ms S o a0 → Met l yX5_readOne [Cond.code yX5_readOne cX5_readOne 3 (some (.object "WatchHouse$Cond"))] (rmg_X5_readCond d mc ms) (cs_Pc P G S sz [.ref o, .int a0]) (cs_Qr P (cs_A S sz) post) mc ms (cs_A S sz)) := by
  induction d with
  | zero => exact ⟨fun h => False.elim h, fun h => False.elim h⟩
  | succ d ih => exact ⟨fun h => cb_X5_readCond (fun h => ih.1 h) (fun h => ih.2 h) h, fun h => cb_X5_readOne (fun h => ih.1 h) (fun h => ih.2 h) h⟩
theorem c_X5_readCond {l : Launch} {P : hw_G} {G : Nat → Nat} (d : Nat) {S : cs_S} {sz : Nat} {mc ms : Nat} {o : Nat} {a0 : Int32} {post : Option Nat → cs_S → Prop} (h : wp_X5_readCond d post G mc ms S o a0) : Met l yX5_readCond [Cond.code yX5_readCond cX5_readCond 5 (some (.object "WatchHouse$Cond"))] (rmg_X5_readCond d mc ms) (cs_Pc P G S sz [.ref o, .int a0]) (cs_Qr P (cs_A S sz) post) mc ms (cs_A S sz) := (cg_X5_readCond d).1 h
theorem c_X5_readOne {l : Launch} {P : hw_G} {G : Nat → Nat} (d : Nat) {S : cs_S} {sz : Nat} {mc ms : Nat} {o : Nat} {a0 : Int32} {post : Option Nat → cs_S → Prop} (h : wp_X5_readOne d post G mc ms S o a0) : Met l yX5_readOne [Cond.code yX5_readOne cX5_readOne 3 (some (.object "WatchHouse$Cond"))] (rmg_X5_readCond d mc ms) (cs_Pc P G S sz [.ref o, .int a0]) (cs_Qr P (cs_A S sz) post) mc ms (cs_A S sz) := (cg_X5_readCond d).2 h
/-! X7_addCond -/
abbrev rm_X7_addCond : Room := { frames := 0, cells := 0, slots := 0, locals := 0 }
def w_X7_addCond_32 (post : cs_S → Prop) (G : Nat → Nat) (S : cs_S)  : Prop := post S
section
variable {p : Program} {l : Launch} {e : Env} {s : State} {m : MethodId} {args : Array Value} {below : List Frame} {meth : Method} {c : Code} {P : hw_G} {G : Nat → Nat} {A : Nat → Prop}
set_option maxRecDepth 100000 in
set_option maxHeartbeats 4000000 in
theorem t_X7_addCond_32 {post : cs_S → Prop} (hC : rf_C P RX7 p s m meth c cX7_addCond 2 none) (hin : meth.name = yX7_addCond.name) (hO : cs_O G A s s.heap) (S : cs_S)  (H : Heap) (locs : List Loc) (ls : Array Slot) (h : w_X7_addCond_32 post G S ) (hT : cs_T P s A S H locs) (hl : lv_has ls 2 []) : W p l e rm_X7_addCond s m args below meth c H locs 0 0 (MQ below (cs_Qv P A post) args s 0 0 A) (F0 m 32 ls []) := by
  obtain ⟨hx, hb, hml, hown, hK, -, -⟩ := id hC
  exact cs_vret hC hT h dX7_addCond_32 (Nat.le_refl _) (Nat.le_refl _)
end
def wp_X7_addCond (post : cs_S → Prop) (G : Nat → Nat) (S : cs_S) (o : Nat) (p1 : Option Nat) : Prop := cs_k S o = 9 ∧ ∀ r12, r12 = cs_r S 805 o → ∃ b13, r12 = some b13 ∧ cs_k S b13 = 24 ∧ ((Int32.ofNat (cs_n S b13)) ≤ (cs_i S 806 o) → w_X7_addCond_32 post G S) ∧ (¬ (Int32.ofNat (cs_n S b13)) ≤ (cs_i S 806 o) → ∀ r15, r15 = cs_r S 805 o → ∃ b16, r15 = some b16 ∧ cs_k S b16 = 24 ∧ vp_in (cs_i S 806 o) (cs_n S b16) ∧ (∀ b, p1 = some b → cs_k S b = 3) ∧ ∀ S18, S18 = cs_uar S b16 (cs_i S 806 o).toNatClampNeg p1 → cs_k S18 o = 9 ∧ ∀ S20, S20 = cs_ui S18 806 o ((cs_i S18 806 o) + 1) → w_X7_addCond_32 post G S20)
set_option maxRecDepth 100000 in
set_option maxHeartbeats 4000000 in
theorem c_X7_addCond {l : Launch} {P : hw_G} {G : Nat → Nat} {S : cs_S} {sz : Nat} {o : Nat} {p1 : Option Nat} {post : cs_S → Prop} (h : wp_X7_addCond post G S o p1) : Met l yX7_addCond [Cond.code yX7_addCond cX7_addCond 2 none] rm_X7_addCond (cs_Pc P G S sz [.ref o, va_rf p1]) (cs_Qv P (cs_A S sz) post) 0 0 (cs_A S sz) := by
  refine cs_met (by decide) rfl (by cases p1 <;> exact Nat.le_of_ble_eq_true rfl) ?_
  intro p e s m below meth c ls hC hin hO hT hl
  obtain ⟨hx, hb, hml, hown, hK, -, -⟩ := id hC
  replace hl : lv_has ls 2 [(0, .ref o), (1, va_rf p1)] := by cases p1 <;> exact hl
  refine lv_aload_n (x := o) hx hb dX7_addCond_0 rfl (lv_at hl 0 rfl) ?_
  obtain ⟨hk11_, h⟩ := h
  refine cs_get hx hb hK hT hown 8 hk11_ (by decide) rfl 6 (by decide) kfX7_40 (v := .int (cs_i S 806 o)) rfl dX7_addCond_1 ?_
  refine lv_aload_n (x := o) hx hb dX7_addCond_4 rfl (lv_at hl 0 rfl) ?_
  refine cs_get hx hb hK hT hown 8 hk11_ (by decide) rfl 5 (by decide) kfX7_17 (v := va_rf (cs_r S 805 o)) rfl dX7_addCond_5 ?_
  refine hw_topr (fun r12 er12 => ?_)
  replace h := h r12 er12
  obtain ⟨b13, rfl, h⟩ := h
  obtain ⟨hk14_, h⟩ := h
  refine cs_alen hx hb hK hT 24 hk14_ (by decide) (by decide) dX7_addCond_8 ?_
  refine lv_icmp_ge (tgt := 32) hx hb dX7_addCond_9 (by decide) (fun hc => ?_) (fun hc => ?_)
  · replace h := h.1 hc
    exact t_X7_addCond_32 hC hin hO S _ _ _ h hT (lv_sub hl [] rfl)
  · replace h := h.2 hc
    refine lv_aload_n (x := o) hx hb dX7_addCond_12 rfl (lv_at hl 0 rfl) ?_
    refine cs_get hx hb hK hT hown 8 hk11_ (by decide) rfl 5 (by decide) kfX7_17 (v := va_rf (cs_r S 805 o)) rfl dX7_addCond_13 ?_
    refine hw_topr (fun r15 er15 => ?_)
    replace h := h r15 er15
    refine lv_aload_n (x := o) hx hb dX7_addCond_16 rfl (lv_at hl 0 rfl) ?_
    refine cs_get hx hb hK hT hown 8 hk11_ (by decide) rfl 6 (by decide) kfX7_40 (v := .int (cs_i S 806 o)) rfl dX7_addCond_17 ?_
    refine hw_aload_n (x := p1) hx hb dX7_addCond_20 rfl (lv_at hl 1 rfl) ?_
    obtain ⟨b16, rfl, h⟩ := h
    obtain ⟨hk17_, h⟩ := h
    obtain ⟨hi, h⟩ := h
    obtain ⟨he, h⟩ := h
    refine cs_aast (x := p1) hx hb hK hT 24 hk17_ (by decide) (ci := 2) rfl (by decide) rfl (by decide) hi he dX7_addCond_21 (fun H locs hT_ => ?_)
    replace hT := hT_
    obtain ⟨S18, eS18⟩ : ∃ z, z = cs_uar S b16 (cs_i S 806 o).toNatClampNeg p1 := ⟨_, rfl⟩
    rw [← eS18] at hT
    replace h := h S18 eS18
    refine lv_aload_n (x := o) hx hb dX7_addCond_22 rfl (lv_at hl 0 rfl) ?_
    refine lv_dup hx hb dX7_addCond_23 rfl ?_
    obtain ⟨hk19_, h⟩ := h
    refine cs_get hx hb hK hT hown 8 hk19_ (by decide) rfl 6 (by decide) kfX7_40 (v := .int (cs_i S18 806 o)) rfl dX7_addCond_24 ?_
    refine lv_iconst (v := 1) hx hb dX7_addCond_27 (by decide) ?_
    refine lv_iadd hx hb dX7_addCond_28 ?_
    refine cs_puti (x := ((cs_i S18 806 o) + 1)) hx hb hK hT hown 8 hk19_ (by decide) rfl 6 (by decide) kfX7_40 rfl (tyX7_ok 6 (by decide)) rfl 806 rfl dX7_addCond_29 (fun H locs hT_ => ?_)
    replace hT := hT_
    obtain ⟨S20, eS20⟩ : ∃ z, z = cs_ui S18 806 o ((cs_i S18 806 o) + 1) := ⟨_, rfl⟩
    rw [← eS20] at hT
    replace h := h S20 eS20
    exact t_X7_addCond_32 hC hin hO S20 _ _ _ h hT (lv_sub hl [] rfl)
/-! X5_readWhat -/
abbrev rm_X5_readWhat (mc ms : Nat) : Room := { frames := 65, cells := mc, slots := ms, locals := 2528 }
def w_X5_readWhat_248 (post : cs_S → Prop) (G : Nat → Nat) (mc ms : Nat) (S : cs_S) (u v : Nat)  : Prop := u ≤ mc ∧ v ≤ ms ∧ post S
section
variable {p : Program} {l : Launch} {e : Env} {s : State} {m : MethodId} {args : Array Value} {below : List Frame} {meth : Method} {c : Code} {P : hw_G} {G : Nat → Nat} {A : Nat → Prop}
set_option maxRecDepth 100000 in
set_option maxHeartbeats 4000000 in
theorem t_X5_readWhat_248 {post : cs_S → Prop} {mc ms : Nat} (hC : rf_C P RX5 p s m meth c cX5_readWhat 3 none) (hin : meth.name = yX5_readWhat.name) (hO : cs_O G A s s.heap) (S : cs_S) (u v : Nat)  (H : Heap) (locs : List Loc) (ls : Array Slot) (h : w_X5_readWhat_248 post G mc ms S u v ) (hT : cs_T P s A S H locs) (hl : lv_has ls 3 []) : W p l e (rm_X5_readWhat mc ms) s m args below meth c H locs u v (MQ below (cs_Qv P A post) args s mc ms A) (F0 m 248 ls []) := by
  obtain ⟨hx, hb, hml, hown, hK, -, -⟩ := id hC
  obtain ⟨hu, hv, h⟩ := h
  exact cs_vret hC hT h dX5_readWhat_248 hu hv
end
def w_X5_readWhat_107 (post : cs_S → Prop) (G : Nat → Nat) (mc ms : Nat) (S : cs_S) (u v : Nat) (x0 : Nat) (x1 : Option Nat) : Prop := u ≤ mc ∧ v ≤ ms ∧ cs_k S x0 = 7 ∧ wp_X5_skip (fun S59 => cs_k S59 x0 = 7 ∧ ∃ m61 n61, u + m61 ≤ mc ∧ v + n61 ≤ ms ∧ ∃ d9, d9 ≤ 60 ∧ wp_X5_readCond d9 (fun r61 S61 => ∃ b63, x1 = some b63 ∧ cs_k S61 b63 = 9 ∧ wp_X7_addCond (fun S64 => w_X5_readWhat_248 post G mc ms S64 (u + m61) (v + n61)) G S61 b63 r61) G m61 n61 S59 x0 0) G S x0 25
section
variable {p : Program} {l : Launch} {e : Env} {s : State} {m : MethodId} {args : Array Value} {below : List Frame} {meth : Method} {c : Code} {P : hw_G} {G : Nat → Nat} {A : Nat → Prop}
set_option maxRecDepth 100000 in
set_option maxHeartbeats 4000000 in
theorem t_X5_readWhat_107 {post : cs_S → Prop} {mc ms : Nat} (hC : rf_C P RX5 p s m meth c cX5_readWhat 3 none) (hin : meth.name = yX5_readWhat.name) (hO : cs_O G A s s.heap) (S : cs_S) (u v : Nat) (x0 : Nat) (x1 : Option Nat) (H : Heap) (locs : List Loc) (ls : Array Slot) (h : w_X5_readWhat_107 post G mc ms S u v x0 x1) (hT : cs_T P s A S H locs) (hl : lv_has ls 3 [(0, .ref x0), (1, va_rf x1)]) : W p l e (rm_X5_readWhat mc ms) s m args below meth c H locs u v (MQ below (cs_Qv P A post) args s mc ms A) (F0 m 107 ls []) := by
  obtain ⟨hx, hb, hml, hown, hK, -, -⟩ := id hC
  obtain ⟨hu, hv, h⟩ := h
  refine lv_aload_n (x := x0) hx hb dX5_readWhat_107 rfl (lv_at hl 0 rfl) ?_
  refine lv_bipush (v := 25) hx hb dX5_readWhat_108 (by decide) ?_
  obtain ⟨hk60_, h⟩ := h
  refine cs_callv0 (cs_runV hx hb hml hown hK hO hT 6 hk60_ (by decide) rfl (c_X5_skip h) rfl rfl klX5_70 ki_X5_skip ks_X5_skip kn_X5 kc_X5_skip 1 ⟨rfl, by decide, by decide, by decide +kernel⟩ ⟨Nat.le_of_ble_eq_true rfl, Nat.le_of_ble_eq_true rfl⟩ rfl hl.1 rfl (hw_cat8 (Nat.le_of_ble_eq_true rfl)) ⟨hu, hv⟩ dX5_readWhat_110) hT (fun S59 H locs h_ hT_ => ?_)
  replace h := h_
  replace hT := hT_
  refine hw_aload_n (x := x1) hx hb dX5_readWhat_113 rfl (lv_at hl 1 rfl) ?_
  refine lv_aload_n (x := x0) hx hb dX5_readWhat_114 rfl (lv_at hl 0 rfl) ?_
  refine lv_iconst (v := 0) hx hb dX5_readWhat_115 (by decide) ?_
  obtain ⟨hk62_, h⟩ := h
  obtain ⟨m61, n61, hu61, hv61, h⟩ := h
  obtain ⟨d9, hd9, h⟩ := h
  refine cs_callr (cs_runV hx hb hml hown hK hO hT 6 hk62_ (by decide) rfl (c_X5_readCond d9 h) rfl rfl klX5_119 ki_X5_readCond ks_X5_readCond kn_X5 kc_X5_readCond 1 ⟨rfl, by decide, by decide, by decide +kernel⟩ ⟨by show 4 + d9 + 1 ≤ _; exact Nat.le_trans (Nat.add_le_add_right (Nat.add_le_add_left hd9 _) 1) (Nat.le_of_ble_eq_true rfl), by show 8 + (5 + 11) + (104 + 40 * d9) ≤ _; exact Nat.le_trans (Nat.add_le_add_left (Nat.add_le_add_left (Nat.mul_le_mul_left 40 hd9) _) _) (Nat.le_of_ble_eq_true rfl)⟩ rfl hl.1 rfl (hw_cat8 (Nat.le_of_ble_eq_true rfl)) ⟨hu61, hv61⟩ dX5_readWhat_116) hT (fun r61 S61 H locs h_ hT_ => ?_)
  replace h := h_
  replace hT := hT_
  obtain ⟨b63, rfl, h⟩ := h
  obtain ⟨hk65_, h⟩ := h
  refine cs_callv0 (cs_runV hx hb hml hown hK hO hT 8 hk65_ (by decide) rfl (c_X7_addCond h) rfl rfl klX5_123 ki_X7_addCond ks_X7_addCond kn_X7 kc_X7_addCond 1 ⟨rfl, by decide, by decide, by decide +kernel⟩ ⟨Nat.le_of_ble_eq_true rfl, Nat.le_of_ble_eq_true rfl⟩ rfl hl.1 rfl (hw_cat8 (Nat.le_of_ble_eq_true rfl)) ⟨hu61, hv61⟩ dX5_readWhat_119) hT (fun S64 H locs h_ hT_ => ?_)
  replace h := h_
  replace hT := hT_
  refine lv_goto (tgt := 248) hx hb dX5_readWhat_122 (by decide) ?_
  exact t_X5_readWhat_248 hC hin hO S64 (u + m61) (v + n61) _ _ _ h hT (lv_sub hl [] rfl)
end
def w_X5_readWhat_84 (post : cs_S → Prop) (G : Nat → Nat) (mc ms : Nat) (S : cs_S) (u v : Nat) (x0 : Nat) (x1 : Option Nat) (y0 : Option Nat) (y1 : Option Nat) (y2 : Int32) (y3 : Int32) : Prop := u ≤ mc ∧ v ≤ ms ∧ ∃ b66, y1 = some b66 ∧ cs_k S b66 = 7 ∧ wp_X5_readNumber (fun r67 S67 => ∃ b69, y0 = some b69 ∧ cs_k S67 b69 = 9 ∧ ∀ S71, S71 = cs_ui S67 803 b69 r67 → ∃ b72, x1 = some b72 ∧ cs_k S71 b72 = 9 ∧ ((cs_i S71 802 b72) = 24 → w_X5_readWhat_107 post G mc ms S71 u v x0 (some b72)) ∧ (¬ (cs_i S71 802 b72) = 24 → cs_k S71 x0 = 7 ∧ wp_X5_readName (fun r74 S74 => cs_k S74 b72 = 9 ∧ ∀ S77, S77 = cs_ul S74 804 b72 r74 → w_X5_readWhat_107 post G mc ms S77 u v x0 (some b72)) G S71 x0)) G S b66 y2 y3
section
variable {p : Program} {l : Launch} {e : Env} {s : State} {m : MethodId} {args : Array Value} {below : List Frame} {meth : Method} {c : Code} {P : hw_G} {G : Nat → Nat} {A : Nat → Prop}
set_option maxRecDepth 100000 in
set_option maxHeartbeats 4000000 in
theorem t_X5_readWhat_84 {post : cs_S → Prop} {mc ms : Nat} (hC : rf_C P RX5 p s m meth c cX5_readWhat 3 none) (hin : meth.name = yX5_readWhat.name) (hO : cs_O G A s s.heap) (S : cs_S) (u v : Nat) (x0 : Nat) (x1 : Option Nat) (y0 : Option Nat) (y1 : Option Nat) (y2 : Int32) (y3 : Int32) (H : Heap) (locs : List Loc) (ls : Array Slot) (h : w_X5_readWhat_84 post G mc ms S u v x0 x1 y0 y1 y2 y3) (hT : cs_T P s A S H locs) (hl : lv_has ls 3 [(0, .ref x0), (1, va_rf x1)]) : W p l e (rm_X5_readWhat mc ms) s m args below meth c H locs u v (MQ below (cs_Qv P A post) args s mc ms A) (F0 m 84 ls [.int y3, .int y2, va_rf y1, va_rf y0]) := by
  obtain ⟨hx, hb, hml, hown, hK, -, -⟩ := id hC
  obtain ⟨hu, hv, h⟩ := h
  obtain ⟨b66, rfl, h⟩ := h
  obtain ⟨hk68_, h⟩ := h
  refine cs_calli0 (cs_runV hx hb hml hown hK hO hT 6 hk68_ (by decide) rfl (c_X5_readNumber h) rfl rfl klX5_74 ki_X5_readNumber ks_X5_readNumber kn_X5 kc_X5_readNumber 2 ⟨rfl, by decide, by decide, by decide +kernel⟩ ⟨Nat.le_of_ble_eq_true rfl, Nat.le_of_ble_eq_true rfl⟩ rfl hl.1 rfl (hw_cat8 (Nat.le_of_ble_eq_true rfl)) ⟨hu, hv⟩ dX5_readWhat_84) hT (fun r67 S67 H locs h_ hT_ => ?_)
  replace h := h_
  replace hT := hT_
  obtain ⟨b69, rfl, h⟩ := h
  obtain ⟨hk70_, h⟩ := h
  refine cs_puti (x := r67) hx hb hK hT hown 8 hk70_ (by decide) rfl 3 (by decide) kfX5_113 rfl (tyX7_ok 3 (by decide)) rfl 803 rfl dX5_readWhat_87 (fun H locs hT_ => ?_)
  replace hT := hT_
  obtain ⟨S71, eS71⟩ : ∃ z, z = cs_ui S67 803 b69 r67 := ⟨_, rfl⟩
  rw [← eS71] at hT
  replace h := h S71 eS71
  refine hw_aload_n (x := x1) hx hb dX5_readWhat_90 rfl (lv_at hl 1 rfl) ?_
  obtain ⟨b72, rfl, h⟩ := h
  obtain ⟨hk73_, h⟩ := h
  refine cs_get hx hb hK hT hown 8 hk73_ (by decide) rfl 2 (by decide) kfX5_109 (v := .int (cs_i S71 802 b72)) rfl dX5_readWhat_91 ?_
  refine lv_bipush (v := 24) hx hb dX5_readWhat_94 (by decide) ?_
  refine lv_icmp_eq (tgt := 107) hx hb dX5_readWhat_96 (by decide) (fun hc => ?_) (fun hc => ?_)
  · replace h := h.1 hc
    exact t_X5_readWhat_107 hC hin hO S71 u v x0 (some b72) _ _ _ h hT (lv_sub hl [0, 1] rfl)
  · replace h := h.2 hc
    refine lv_aload_n (x := b72) hx hb dX5_readWhat_99 rfl (lv_at hl 1 rfl) ?_
    refine lv_aload_n (x := x0) hx hb dX5_readWhat_100 rfl (lv_at hl 0 rfl) ?_
    obtain ⟨hk75_, h⟩ := h
    refine cs_calll0 (cs_runV hx hb hml hown hK hO hT 6 hk75_ (by decide) rfl (c_X5_readName h) rfl rfl klX5_95 ki_X5_readName ks_X5_readName kn_X5 kc_X5_readName 0 ⟨rfl, by decide, by decide, by decide +kernel⟩ ⟨Nat.le_of_ble_eq_true rfl, Nat.le_of_ble_eq_true rfl⟩ rfl hl.1 rfl (hw_cat8 (Nat.le_of_ble_eq_true rfl)) ⟨hu, hv⟩ dX5_readWhat_101) hT (fun r74 S74 H locs h_ hT_ => ?_)
    replace h := h_
    replace hT := hT_
    obtain ⟨hk76_, h⟩ := h
    refine cs_putl (x := r74) hx hb hK hT hown 8 hk76_ (by decide) rfl 4 (by decide) kfX5_116 rfl (tyX7_ok 4 (by decide)) rfl 804 rfl dX5_readWhat_104 (fun H locs hT_ => ?_)
    replace hT := hT_
    obtain ⟨S77, eS77⟩ : ∃ z, z = cs_ul S74 804 b72 r74 := ⟨_, rfl⟩
    rw [← eS77] at hT
    replace h := h S77 eS77
    exact t_X5_readWhat_107 hC hin hO S77 u v x0 (some b72) _ _ _ h hT (lv_sub hl [0, 1] rfl)
end
def w_X5_readWhat_187 (post : cs_S → Prop) (G : Nat → Nat) (mc ms : Nat) (S : cs_S) (u v : Nat) (x0 : Nat) (x1 : Option Nat) : Prop := u ≤ mc ∧ v ≤ ms ∧ cs_k S x0 = 7 ∧ (¬ (cs_i S 606 x0) = 30 → w_X5_readWhat_248 post G mc ms S u v) ∧ ((cs_i S 606 x0) = 30 → wp_X5_step (fun S79 => cs_k S79 x0 = 7 ∧ ∃ m80 n80, u + m80 ≤ mc ∧ v + n80 ≤ ms ∧ ∃ d9, d9 ≤ 60 ∧ wp_X5_readCond d9 (fun r80 S80 => ∃ b82, x1 = some b82 ∧ cs_k S80 b82 = 9 ∧ ∀ S84, S84 = cs_ur S80 807 b82 r80 → w_X5_readWhat_248 post G mc ms S84 (u + m80) (v + n80)) G m80 n80 S79 x0 0) G S x0)
section
variable {p : Program} {l : Launch} {e : Env} {s : State} {m : MethodId} {args : Array Value} {below : List Frame} {meth : Method} {c : Code} {P : hw_G} {G : Nat → Nat} {A : Nat → Prop}
set_option maxRecDepth 100000 in
set_option maxHeartbeats 4000000 in
theorem t_X5_readWhat_187 {post : cs_S → Prop} {mc ms : Nat} (hC : rf_C P RX5 p s m meth c cX5_readWhat 3 none) (hin : meth.name = yX5_readWhat.name) (hO : cs_O G A s s.heap) (S : cs_S) (u v : Nat) (x0 : Nat) (x1 : Option Nat) (H : Heap) (locs : List Loc) (ls : Array Slot) (h : w_X5_readWhat_187 post G mc ms S u v x0 x1) (hT : cs_T P s A S H locs) (hl : lv_has ls 3 [(0, .ref x0), (1, va_rf x1)]) : W p l e (rm_X5_readWhat mc ms) s m args below meth c H locs u v (MQ below (cs_Qv P A post) args s mc ms A) (F0 m 187 ls []) := by
  obtain ⟨hx, hb, hml, hown, hK, -, -⟩ := id hC
  obtain ⟨hu, hv, h⟩ := h
  refine lv_aload_n (x := x0) hx hb dX5_readWhat_187 rfl (lv_at hl 0 rfl) ?_
  obtain ⟨hk78_, h⟩ := h
  refine cs_get hx hb hK hT hown 6 hk78_ (by decide) rfl 6 (by decide) kfX5_27 (v := .int (cs_i S 606 x0)) rfl dX5_readWhat_188 ?_
  refine lv_bipush (v := 30) hx hb dX5_readWhat_191 (by decide) ?_
  refine lv_icmp_ne (tgt := 248) hx hb dX5_readWhat_193 (by decide) (fun hc => ?_) (fun hc => ?_)
  · replace h := h.1 hc
    exact t_X5_readWhat_248 hC hin hO S u v _ _ _ h hT (lv_sub hl [] rfl)
  · replace h := h.2 hc
    refine lv_aload_n (x := x0) hx hb dX5_readWhat_196 rfl (lv_at hl 0 rfl) ?_
    refine cs_callv0 (cs_runV hx hb hml hown hK hO hT 6 hk78_ (by decide) rfl (c_X5_step h) rfl rfl klX5_43 ki_X5_step ks_X5_step kn_X5 kc_X5_step 0 ⟨rfl, by decide, by decide, by decide +kernel⟩ ⟨Nat.le_of_ble_eq_true rfl, Nat.le_of_ble_eq_true rfl⟩ rfl hl.1 rfl (hw_cat8 (Nat.le_of_ble_eq_true rfl)) ⟨hu, hv⟩ dX5_readWhat_197) hT (fun S79 H locs h_ hT_ => ?_)
    replace h := h_
    replace hT := hT_
    refine hw_aload_n (x := x1) hx hb dX5_readWhat_200 rfl (lv_at hl 1 rfl) ?_
    refine lv_aload_n (x := x0) hx hb dX5_readWhat_201 rfl (lv_at hl 0 rfl) ?_
    refine lv_iconst (v := 0) hx hb dX5_readWhat_202 (by decide) ?_
    obtain ⟨hk81_, h⟩ := h
    obtain ⟨m80, n80, hu80, hv80, h⟩ := h
    obtain ⟨d9, hd9, h⟩ := h
    refine cs_callr (cs_runV hx hb hml hown hK hO hT 6 hk81_ (by decide) rfl (c_X5_readCond d9 h) rfl rfl klX5_119 ki_X5_readCond ks_X5_readCond kn_X5 kc_X5_readCond 1 ⟨rfl, by decide, by decide, by decide +kernel⟩ ⟨by show 4 + d9 + 1 ≤ _; exact Nat.le_trans (Nat.add_le_add_right (Nat.add_le_add_left hd9 _) 1) (Nat.le_of_ble_eq_true rfl), by show 8 + (5 + 11) + (104 + 40 * d9) ≤ _; exact Nat.le_trans (Nat.add_le_add_left (Nat.add_le_add_left (Nat.mul_le_mul_left 40 hd9) _) _) (Nat.le_of_ble_eq_true rfl)⟩ rfl hl.1 rfl (hw_cat8 (Nat.le_of_ble_eq_true rfl)) ⟨hu80, hv80⟩ dX5_readWhat_203) hT (fun r80 S80 H locs h_ hT_ => ?_)
    replace h := h_
    replace hT := hT_
    obtain ⟨b82, rfl, h⟩ := h
    obtain ⟨hk83_, h⟩ := h
    refine cs_putr (x := r80) hx hb hK hT hown 8 hk83_ (by decide) rfl 7 (by decide) kfX5_127 rfl (tyX7_ok 7 (by decide)) rfl 807 rfl dX5_readWhat_206 (fun H locs hT_ => ?_)
    replace hT := hT_
    obtain ⟨S84, eS84⟩ : ∃ z, z = cs_ur S80 807 b82 r80 := ⟨_, rfl⟩
    rw [← eS84] at hT
    replace h := h S84 eS84
    refine lv_goto (tgt := 248) hx hb dX5_readWhat_209 (by decide) ?_
    exact t_X5_readWhat_248 hC hin hO S84 (u + m80) (v + n80) _ _ _ h hT (lv_sub hl [] rfl)
end
def w_X5_readWhat_173 (post : cs_S → Prop) (G : Nat → Nat) (mc ms : Nat) (S : cs_S) (u v : Nat) (x0 : Nat) (x1 : Option Nat) : Prop := u ≤ mc ∧ v ≤ ms ∧ cs_k S x0 = 7 ∧ (¬ (cs_i S 606 x0) = 29 → w_X5_readWhat_187 post G mc ms S u v x0 x1) ∧ ((cs_i S 606 x0) = 29 → wp_X5_fail (fun S86 => w_X5_readWhat_187 post G mc ms S86 u v x0 x1) G S x0 4)
section
variable {p : Program} {l : Launch} {e : Env} {s : State} {m : MethodId} {args : Array Value} {below : List Frame} {meth : Method} {c : Code} {P : hw_G} {G : Nat → Nat} {A : Nat → Prop}
set_option maxRecDepth 100000 in
set_option maxHeartbeats 4000000 in
theorem t_X5_readWhat_173 {post : cs_S → Prop} {mc ms : Nat} (hC : rf_C P RX5 p s m meth c cX5_readWhat 3 none) (hin : meth.name = yX5_readWhat.name) (hO : cs_O G A s s.heap) (S : cs_S) (u v : Nat) (x0 : Nat) (x1 : Option Nat) (H : Heap) (locs : List Loc) (ls : Array Slot) (h : w_X5_readWhat_173 post G mc ms S u v x0 x1) (hT : cs_T P s A S H locs) (hl : lv_has ls 3 [(0, .ref x0), (1, va_rf x1)]) : W p l e (rm_X5_readWhat mc ms) s m args below meth c H locs u v (MQ below (cs_Qv P A post) args s mc ms A) (F0 m 173 ls []) := by
  obtain ⟨hx, hb, hml, hown, hK, -, -⟩ := id hC
  obtain ⟨hu, hv, h⟩ := h
  refine lv_aload_n (x := x0) hx hb dX5_readWhat_173 rfl (lv_at hl 0 rfl) ?_
  obtain ⟨hk85_, h⟩ := h
  refine cs_get hx hb hK hT hown 6 hk85_ (by decide) rfl 6 (by decide) kfX5_27 (v := .int (cs_i S 606 x0)) rfl dX5_readWhat_174 ?_
  refine lv_bipush (v := 29) hx hb dX5_readWhat_177 (by decide) ?_
  refine lv_icmp_ne (tgt := 187) hx hb dX5_readWhat_179 (by decide) (fun hc => ?_) (fun hc => ?_)
  · replace h := h.1 hc
    exact t_X5_readWhat_187 hC hin hO S u v x0 x1 _ _ _ h hT (lv_sub hl [0, 1] rfl)
  · replace h := h.2 hc
    refine lv_aload_n (x := x0) hx hb dX5_readWhat_182 rfl (lv_at hl 0 rfl) ?_
    refine lv_iconst (v := 4) hx hb dX5_readWhat_183 (by decide) ?_
    refine cs_callv0 (cs_runV hx hb hml hown hK hO hT 6 hk85_ (by decide) rfl (c_X5_fail h) rfl rfl klX5_46 ki_X5_fail ks_X5_fail kn_X5 kc_X5_fail 1 ⟨rfl, by decide, by decide, by decide +kernel⟩ ⟨Nat.le_of_ble_eq_true rfl, Nat.le_of_ble_eq_true rfl⟩ rfl hl.1 rfl (hw_cat8 (Nat.le_of_ble_eq_true rfl)) ⟨hu, hv⟩ dX5_readWhat_184) hT (fun S86 H locs h_ hT_ => ?_)
    replace h := h_
    replace hT := hT_
    exact t_X5_readWhat_187 hC hin hO S86 u v x0 x1 _ _ _ h hT (lv_sub hl [0, 1] rfl)
end
def w_X5_readWhat_140 (post : cs_S → Prop) (G : Nat → Nat) (mc ms : Nat) : Nat → cs_S → Nat → Nat → Nat → Option Nat → Int32 → Prop
  | 0, _, _, _, _, _, _ => False
  | n + 1, S, u, v, x0, x1, x2 => u ≤ mc ∧ v ≤ ms ∧ cs_k S x0 = 7 ∧ (¬ (cs_i S 606 x0) = 29 → w_X5_readWhat_173 post G mc ms S u v x0 x1) ∧ ((cs_i S 606 x0) = 29 → (5 ≤ x2 → w_X5_readWhat_173 post G mc ms S u v x0 x1) ∧ (¬ 5 ≤ x2 → wp_X5_step (fun S88 => cs_k S88 x0 = 7 ∧ ∃ m89 n89, u + m89 ≤ mc ∧ v + n89 ≤ ms ∧ ∃ d9, d9 ≤ 60 ∧ wp_X5_readCond d9 (fun r89 S89 => ∃ b91, x1 = some b91 ∧ cs_k S89 b91 = 9 ∧ wp_X7_addCond (fun S92 => w_X5_readWhat_140 post G mc ms n S92 (u + m89) (v + n89) x0 (some b91) (x2 + 1)) G S89 b91 r89) G m89 n89 S88 x0 0) G S x0))
section
variable {p : Program} {l : Launch} {e : Env} {s : State} {m : MethodId} {args : Array Value} {below : List Frame} {meth : Method} {c : Code} {P : hw_G} {G : Nat → Nat} {A : Nat → Prop}
set_option maxRecDepth 100000 in
set_option maxHeartbeats 4000000 in
theorem t_X5_readWhat_140 {post : cs_S → Prop} {mc ms : Nat} (hC : rf_C P RX5 p s m meth c cX5_readWhat 3 none) (hin : meth.name = yX5_readWhat.name) (hO : cs_O G A s s.heap) : ∀ (n : Nat) (S : cs_S) (u v : Nat) (x0 : Nat) (x1 : Option Nat) (x2 : Int32) (H : Heap) (locs : List Loc) (ls : Array Slot), w_X5_readWhat_140 post G mc ms n S u v x0 x1 x2 → cs_T P s A S H locs → lv_has ls 3 [(0, .ref x0), (1, va_rf x1), (2, .int x2)] → W p l e (rm_X5_readWhat mc ms) s m args below meth c H locs u v (MQ below (cs_Qv P A post) args s mc ms A) (F0 m 140 ls []) := by
  obtain ⟨hx, hb, hml, hown, hK, -, -⟩ := id hC
  intro n
  induction n with
  | zero => intro S u v x0 x1 x2 H locs ls h; exact False.elim h
  | succ n ih =>
    intro S u v x0 x1 x2 H locs ls h hT hl
    obtain ⟨hu, hv, h⟩ := h
    refine lv_aload_n (x := x0) hx hb dX5_readWhat_140 rfl (lv_at hl 0 rfl) ?_
    obtain ⟨hk87_, h⟩ := h
    refine cs_get hx hb hK hT hown 6 hk87_ (by decide) rfl 6 (by decide) kfX5_27 (v := .int (cs_i S 606 x0)) rfl dX5_readWhat_141 ?_
    refine lv_bipush (v := 29) hx hb dX5_readWhat_144 (by decide) ?_
    refine lv_icmp_ne (tgt := 173) hx hb dX5_readWhat_146 (by decide) (fun hc => ?_) (fun hc => ?_)
    · replace h := h.1 hc
      exact t_X5_readWhat_173 hC hin hO S u v x0 x1 _ _ _ h hT (lv_sub hl [0, 1] rfl)
    · replace h := h.2 hc
      refine lv_iload_n hx hb dX5_readWhat_149 rfl (lv_at hl 2 rfl) ?_
      refine lv_iconst (v := 5) hx hb dX5_readWhat_150 (by decide) ?_
      refine lv_icmp_ge (tgt := 173) hx hb dX5_readWhat_151 (by decide) (fun hc => ?_) (fun hc => ?_)
      · replace h := h.1 hc
        exact t_X5_readWhat_173 hC hin hO S u v x0 x1 _ _ _ h hT (lv_sub hl [0, 1] rfl)
      · replace h := h.2 hc
        refine lv_aload_n (x := x0) hx hb dX5_readWhat_154 rfl (lv_at hl 0 rfl) ?_
        refine cs_callv0 (cs_runV hx hb hml hown hK hO hT 6 hk87_ (by decide) rfl (c_X5_step h) rfl rfl klX5_43 ki_X5_step ks_X5_step kn_X5 kc_X5_step 0 ⟨rfl, by decide, by decide, by decide +kernel⟩ ⟨Nat.le_of_ble_eq_true rfl, Nat.le_of_ble_eq_true rfl⟩ rfl hl.1 rfl (hw_cat8 (Nat.le_of_ble_eq_true rfl)) ⟨hu, hv⟩ dX5_readWhat_155) hT (fun S88 H locs h_ hT_ => ?_)
        replace h := h_
        replace hT := hT_
        refine hw_aload_n (x := x1) hx hb dX5_readWhat_158 rfl (lv_at hl 1 rfl) ?_
        refine lv_aload_n (x := x0) hx hb dX5_readWhat_159 rfl (lv_at hl 0 rfl) ?_
        refine lv_iconst (v := 0) hx hb dX5_readWhat_160 (by decide) ?_
        obtain ⟨hk90_, h⟩ := h
        obtain ⟨m89, n89, hu89, hv89, h⟩ := h
        obtain ⟨d9, hd9, h⟩ := h
        refine cs_callr (cs_runV hx hb hml hown hK hO hT 6 hk90_ (by decide) rfl (c_X5_readCond d9 h) rfl rfl klX5_119 ki_X5_readCond ks_X5_readCond kn_X5 kc_X5_readCond 1 ⟨rfl, by decide, by decide, by decide +kernel⟩ ⟨by show 4 + d9 + 1 ≤ _; exact Nat.le_trans (Nat.add_le_add_right (Nat.add_le_add_left hd9 _) 1) (Nat.le_of_ble_eq_true rfl), by show 8 + (5 + 11) + (104 + 40 * d9) ≤ _; exact Nat.le_trans (Nat.add_le_add_left (Nat.add_le_add_left (Nat.mul_le_mul_left 40 hd9) _) _) (Nat.le_of_ble_eq_true rfl)⟩ rfl hl.1 rfl (hw_cat8 (Nat.le_of_ble_eq_true rfl)) ⟨hu89, hv89⟩ dX5_readWhat_161) hT (fun r89 S89 H locs h_ hT_ => ?_)
        replace h := h_
        replace hT := hT_
        obtain ⟨b91, rfl, h⟩ := h
        obtain ⟨hk93_, h⟩ := h
        refine cs_callv0 (cs_runV hx hb hml hown hK hO hT 8 hk93_ (by decide) rfl (c_X7_addCond h) rfl rfl klX5_123 ki_X7_addCond ks_X7_addCond kn_X7 kc_X7_addCond 1 ⟨rfl, by decide, by decide, by decide +kernel⟩ ⟨Nat.le_of_ble_eq_true rfl, Nat.le_of_ble_eq_true rfl⟩ rfl hl.1 rfl (hw_cat8 (Nat.le_of_ble_eq_true rfl)) ⟨hu89, hv89⟩ dX5_readWhat_164) hT (fun S92 H locs h_ hT_ => ?_)
        replace h := h_
        replace hT := hT_
        refine lv_iinc (v := x2 + 1) (lv' := [(2, _), (0, _), (1, _)]) hx hb dX5_readWhat_167 hl (k := 2) rfl rfl (by decide) rfl (fun ls hl_ => ?_)
        replace hl := hl_
        refine lv_goto (tgt := 140) hx hb dX5_readWhat_170 (by decide) ?_
        exact ih S92 (u + m89) (v + n89) x0 (some b91) (x2 + 1) _ _ _ h hT (lv_sub hl [1, 2, 0] rfl)
end
def wp_X5_readWhat (post : cs_S → Prop) (G : Nat → Nat) (mc ms : Nat) (S : cs_S) (o : Nat) (p1 : Option Nat) : Prop := cs_k S o = 7 ∧ ∃ b95, p1 = some b95 ∧ cs_k S b95 = 9 ∧ ∀ S97, S97 = cs_ui S 802 b95 (cs_i S 606 o) → cs_k S97 o = 7 ∧ ((cs_i S97 606 o).toInt < 24 ∨ 31 < (cs_i S97 606 o).toInt → wp_X5_fail (fun S99 => w_X5_readWhat_248 post G mc ms S99 0 0) G S97 o 2) ∧ ((cs_i S97 606 o).toInt = 24 → wp_X5_step (fun S100 => cs_k S100 b95 = 9 ∧ (¬ (cs_i S100 802 b95) = 27 → w_X5_readWhat_84 post G mc ms S100 0 0 o (some b95) (some b95) (some o) 1 1000) ∧ ((cs_i S100 802 b95) = 27 → w_X5_readWhat_84 post G mc ms S100 0 0 o (some b95) (some b95) (some o) 1 2147483647)) G S97 o) ∧ ((cs_i S97 606 o).toInt = 25 → wp_X5_fail (fun S102 => w_X5_readWhat_248 post G mc ms S102 0 0) G S97 o 2) ∧ ((cs_i S97 606 o).toInt = 26 → wp_X5_step (fun S103 => cs_k S103 b95 = 9 ∧ (¬ (cs_i S103 802 b95) = 27 → w_X5_readWhat_84 post G mc ms S103 0 0 o (some b95) (some b95) (some o) 1 1000) ∧ ((cs_i S103 802 b95) = 27 → w_X5_readWhat_84 post G mc ms S103 0 0 o (some b95) (some b95) (some o) 1 2147483647)) G S97 o) ∧ ((cs_i S97 606 o).toInt = 27 → wp_X5_step (fun S105 => cs_k S105 b95 = 9 ∧ (¬ (cs_i S105 802 b95) = 27 → w_X5_readWhat_84 post G mc ms S105 0 0 o (some b95) (some b95) (some o) 1 1000) ∧ ((cs_i S105 802 b95) = 27 → w_X5_readWhat_84 post G mc ms S105 0 0 o (some b95) (some b95) (some o) 1 2147483647)) G S97 o) ∧ ((cs_i S97 606 o).toInt = 28 → wp_X5_step (fun S107 => cs_k S107 o = 7 ∧ ∃ m108 n108, 0 + m108 ≤ mc ∧ 0 + n108 ≤ ms ∧ ∃ d9, d9 ≤ 60 ∧ wp_X5_readCond d9 (fun r108 S108 => cs_k S108 b95 = 9 ∧ wp_X7_addCond (fun S110 => ∃ n9, w_X5_readWhat_140 post G mc ms n9 S110 (0 + m108) (0 + n108) o (some b95) 1) G S108 b95 r108) G m108 n108 S107 o 0) G S97 o) ∧ ((cs_i S97 606 o).toInt = 29 → wp_X5_fail (fun S112 => w_X5_readWhat_248 post G mc ms S112 0 0) G S97 o 2) ∧ ((cs_i S97 606 o).toInt = 30 → wp_X5_fail (fun S113 => w_X5_readWhat_248 post G mc ms S113 0 0) G S97 o 2) ∧ ((cs_i S97 606 o).toInt = 31 → wp_X5_step (fun S114 => cs_k S114 o = 7 ∧ ∃ m115 n115, 0 + m115 ≤ mc ∧ 0 + n115 ≤ ms ∧ ∃ d9, d9 ≤ 60 ∧ wp_X5_readCond d9 (fun r115 S115 => cs_k S115 b95 = 9 ∧ wp_X7_addCond (fun S117 => cs_k S117 o = 7 ∧ wp_X5_skip (fun S119 => cs_k S119 o = 7 ∧ ∃ m121 n121, 0 + m115 + m121 ≤ mc ∧ 0 + n115 + n121 ≤ ms ∧ ∃ d9, d9 ≤ 60 ∧ wp_X5_readCond d9 (fun r121 S121 => cs_k S121 b95 = 9 ∧ wp_X7_addCond (fun S123 => w_X5_readWhat_248 post G mc ms S123 (0 + m115 + m121) (0 + n115 + n121)) G S121 b95 r121) G m121 n121 S119 o 0) G S117 o 29) G S115 b95 r115) G m115 n115 S114 o 0) G S97 o)
set_option maxRecDepth 100000 in
set_option maxHeartbeats 4000000 in
theorem c_X5_readWhat {l : Launch} {P : hw_G} {G : Nat → Nat} {S : cs_S} {sz : Nat} {mc ms : Nat} {o : Nat} {p1 : Option Nat} {post : cs_S → Prop} (h : wp_X5_readWhat post G mc ms S o p1) : Met l yX5_readWhat [Cond.code yX5_readWhat cX5_readWhat 3 none] (rm_X5_readWhat mc ms) (cs_Pc P G S sz [.ref o, va_rf p1]) (cs_Qv P (cs_A S sz) post) mc ms (cs_A S sz) := by
  refine cs_met (by decide) rfl (by cases p1 <;> exact Nat.le_of_ble_eq_true rfl) ?_
  intro p e s m below meth c ls hC hin hO hT hl
  obtain ⟨hx, hb, hml, hown, hK, -, -⟩ := id hC
  replace hl : lv_has ls 3 [(0, .ref o), (1, va_rf p1)] := by cases p1 <;> exact hl
  refine hw_aload_n (x := p1) hx hb dX5_readWhat_0 rfl (lv_at hl 1 rfl) ?_
  refine lv_aload_n (x := o) hx hb dX5_readWhat_1 rfl (lv_at hl 0 rfl) ?_
  obtain ⟨hk94_, h⟩ := h
  refine cs_get hx hb hK hT hown 6 hk94_ (by decide) rfl 6 (by decide) kfX5_27 (v := .int (cs_i S 606 o)) rfl dX5_readWhat_2 ?_
  obtain ⟨b95, rfl, h⟩ := h
  obtain ⟨hk96_, h⟩ := h
  refine cs_puti (x := (cs_i S 606 o)) hx hb hK hT hown 8 hk96_ (by decide) rfl 2 (by decide) kfX5_109 rfl (tyX7_ok 2 (by decide)) rfl 802 rfl dX5_readWhat_5 (fun H locs hT_ => ?_)
  replace hT := hT_
  obtain ⟨S97, eS97⟩ : ∃ z, z = cs_ui S 802 b95 (cs_i S 606 o) := ⟨_, rfl⟩
  rw [← eS97] at hT
  replace h := h S97 eS97
  refine lv_aload_n (x := o) hx hb dX5_readWhat_8 rfl (lv_at hl 0 rfl) ?_
  obtain ⟨hk98_, h⟩ := h
  refine cs_get hx hb hK hT hown 6 hk98_ (by decide) rfl 6 (by decide) kfX5_27 (v := .int (cs_i S97 606 o)) rfl dX5_readWhat_9 ?_
  by_cases hz : (cs_i S97 606 o).toInt < 24 ∨ 31 < (cs_i S97 606 o).toInt
  · replace h := h.1 hz
    refine lv_tableOut (tgt := 243) hx hb dX5_readWhat_12 hz (by decide) ?_
    refine lv_aload_n (x := o) hx hb dX5_readWhat_243 rfl (lv_at hl 0 rfl) ?_
    refine lv_iconst (v := 2) hx hb dX5_readWhat_244 (by decide) ?_
    refine cs_callv0 (cs_runV hx hb hml hown hK hO hT 6 hk98_ (by decide) rfl (c_X5_fail h) rfl rfl klX5_46 ki_X5_fail ks_X5_fail kn_X5 kc_X5_fail 1 ⟨rfl, by decide, by decide, by decide +kernel⟩ ⟨Nat.le_of_ble_eq_true rfl, Nat.le_of_ble_eq_true rfl⟩ rfl hl.1 rfl (hw_cat8 (Nat.le_of_ble_eq_true rfl)) ⟨(Nat.zero_le _), (Nat.zero_le _)⟩ dX5_readWhat_245) hT (fun S99 H locs h_ hT_ => ?_)
    replace h := h_
    replace hT := hT_
    exact t_X5_readWhat_248 hC hin hO S99 0 0 _ _ _ h hT (lv_sub hl [] rfl)
  have hz : (cs_i S97 606 o).toInt = 24 ∨ (cs_i S97 606 o).toInt = 25 ∨ (cs_i S97 606 o).toInt = 26 ∨ (cs_i S97 606 o).toInt = 27 ∨ (cs_i S97 606 o).toInt = 28 ∨ (cs_i S97 606 o).toInt = 29 ∨ (cs_i S97 606 o).toInt = 30 ∨ (cs_i S97 606 o).toInt = 31 := by omega
  rcases hz with hz | hz | hz | hz | hz | hz | hz | hz
  · replace h := h.2.1 hz
    refine hw_tab (tgt := 60) hx hb hz dX5_readWhat_12 (by decide) (by decide) (off := 48) rfl (by decide) ?_
    refine lv_aload_n (x := o) hx hb dX5_readWhat_60 rfl (lv_at hl 0 rfl) ?_
    refine cs_callv0 (cs_runV hx hb hml hown hK hO hT 6 hk98_ (by decide) rfl (c_X5_step h) rfl rfl klX5_43 ki_X5_step ks_X5_step kn_X5 kc_X5_step 0 ⟨rfl, by decide, by decide, by decide +kernel⟩ ⟨Nat.le_of_ble_eq_true rfl, Nat.le_of_ble_eq_true rfl⟩ rfl hl.1 rfl (hw_cat8 (Nat.le_of_ble_eq_true rfl)) ⟨(Nat.zero_le _), (Nat.zero_le _)⟩ dX5_readWhat_61) hT (fun S100 H locs h_ hT_ => ?_)
    replace h := h_
    replace hT := hT_
    refine lv_aload_n (x := b95) hx hb dX5_readWhat_64 rfl (lv_at hl 1 rfl) ?_
    refine lv_aload_n (x := o) hx hb dX5_readWhat_65 rfl (lv_at hl 0 rfl) ?_
    refine lv_iconst (v := 1) hx hb dX5_readWhat_66 (by decide) ?_
    refine lv_aload_n (x := b95) hx hb dX5_readWhat_67 rfl (lv_at hl 1 rfl) ?_
    obtain ⟨hk101_, h⟩ := h
    refine cs_get hx hb hK hT hown 8 hk101_ (by decide) rfl 2 (by decide) kfX5_109 (v := .int (cs_i S100 802 b95)) rfl dX5_readWhat_68 ?_
    refine lv_bipush (v := 27) hx hb dX5_readWhat_71 (by decide) ?_
    refine lv_icmp_ne (tgt := 81) hx hb dX5_readWhat_73 (by decide) (fun hc => ?_) (fun hc => ?_)
    · replace h := h.1 hc
      refine lv_sipush (v := 1000) hx hb dX5_readWhat_81 (by decide) ?_
      exact t_X5_readWhat_84 hC hin hO S100 0 0 o (some b95) (some b95) (some o) 1 1000 _ _ _ h hT (lv_sub hl [0, 1] rfl)
    · replace h := h.2 hc
      refine lv_ldc (v := 2147483647) hx hb hown (hK.word kkX5_112 rfl) dX5_readWhat_76 ?_
      refine lv_goto (tgt := 84) hx hb dX5_readWhat_78 (by decide) ?_
      exact t_X5_readWhat_84 hC hin hO S100 0 0 o (some b95) (some b95) (some o) 1 2147483647 _ _ _ h hT (lv_sub hl [0, 1] rfl)
  · replace h := h.2.2.1 hz
    refine hw_tab (tgt := 243) hx hb hz dX5_readWhat_12 (by decide) (by decide) (off := 231) rfl (by decide) ?_
    refine lv_aload_n (x := o) hx hb dX5_readWhat_243 rfl (lv_at hl 0 rfl) ?_
    refine lv_iconst (v := 2) hx hb dX5_readWhat_244 (by decide) ?_
    refine cs_callv0 (cs_runV hx hb hml hown hK hO hT 6 hk98_ (by decide) rfl (c_X5_fail h) rfl rfl klX5_46 ki_X5_fail ks_X5_fail kn_X5 kc_X5_fail 1 ⟨rfl, by decide, by decide, by decide +kernel⟩ ⟨Nat.le_of_ble_eq_true rfl, Nat.le_of_ble_eq_true rfl⟩ rfl hl.1 rfl (hw_cat8 (Nat.le_of_ble_eq_true rfl)) ⟨(Nat.zero_le _), (Nat.zero_le _)⟩ dX5_readWhat_245) hT (fun S102 H locs h_ hT_ => ?_)
    replace h := h_
    replace hT := hT_
    exact t_X5_readWhat_248 hC hin hO S102 0 0 _ _ _ h hT (lv_sub hl [] rfl)
  · replace h := h.2.2.2.1 hz
    refine hw_tab (tgt := 60) hx hb hz dX5_readWhat_12 (by decide) (by decide) (off := 48) rfl (by decide) ?_
    refine lv_aload_n (x := o) hx hb dX5_readWhat_60 rfl (lv_at hl 0 rfl) ?_
    refine cs_callv0 (cs_runV hx hb hml hown hK hO hT 6 hk98_ (by decide) rfl (c_X5_step h) rfl rfl klX5_43 ki_X5_step ks_X5_step kn_X5 kc_X5_step 0 ⟨rfl, by decide, by decide, by decide +kernel⟩ ⟨Nat.le_of_ble_eq_true rfl, Nat.le_of_ble_eq_true rfl⟩ rfl hl.1 rfl (hw_cat8 (Nat.le_of_ble_eq_true rfl)) ⟨(Nat.zero_le _), (Nat.zero_le _)⟩ dX5_readWhat_61) hT (fun S103 H locs h_ hT_ => ?_)
    replace h := h_
    replace hT := hT_
    refine lv_aload_n (x := b95) hx hb dX5_readWhat_64 rfl (lv_at hl 1 rfl) ?_
    refine lv_aload_n (x := o) hx hb dX5_readWhat_65 rfl (lv_at hl 0 rfl) ?_
    refine lv_iconst (v := 1) hx hb dX5_readWhat_66 (by decide) ?_
    refine lv_aload_n (x := b95) hx hb dX5_readWhat_67 rfl (lv_at hl 1 rfl) ?_
    obtain ⟨hk104_, h⟩ := h
    refine cs_get hx hb hK hT hown 8 hk104_ (by decide) rfl 2 (by decide) kfX5_109 (v := .int (cs_i S103 802 b95)) rfl dX5_readWhat_68 ?_
    refine lv_bipush (v := 27) hx hb dX5_readWhat_71 (by decide) ?_
    refine lv_icmp_ne (tgt := 81) hx hb dX5_readWhat_73 (by decide) (fun hc => ?_) (fun hc => ?_)
    · replace h := h.1 hc
      refine lv_sipush (v := 1000) hx hb dX5_readWhat_81 (by decide) ?_
      exact t_X5_readWhat_84 hC hin hO S103 0 0 o (some b95) (some b95) (some o) 1 1000 _ _ _ h hT (lv_sub hl [0, 1] rfl)
    · replace h := h.2 hc
      refine lv_ldc (v := 2147483647) hx hb hown (hK.word kkX5_112 rfl) dX5_readWhat_76 ?_
      refine lv_goto (tgt := 84) hx hb dX5_readWhat_78 (by decide) ?_
      exact t_X5_readWhat_84 hC hin hO S103 0 0 o (some b95) (some b95) (some o) 1 2147483647 _ _ _ h hT (lv_sub hl [0, 1] rfl)
  · replace h := h.2.2.2.2.1 hz
    refine hw_tab (tgt := 60) hx hb hz dX5_readWhat_12 (by decide) (by decide) (off := 48) rfl (by decide) ?_
    refine lv_aload_n (x := o) hx hb dX5_readWhat_60 rfl (lv_at hl 0 rfl) ?_
    refine cs_callv0 (cs_runV hx hb hml hown hK hO hT 6 hk98_ (by decide) rfl (c_X5_step h) rfl rfl klX5_43 ki_X5_step ks_X5_step kn_X5 kc_X5_step 0 ⟨rfl, by decide, by decide, by decide +kernel⟩ ⟨Nat.le_of_ble_eq_true rfl, Nat.le_of_ble_eq_true rfl⟩ rfl hl.1 rfl (hw_cat8 (Nat.le_of_ble_eq_true rfl)) ⟨(Nat.zero_le _), (Nat.zero_le _)⟩ dX5_readWhat_61) hT (fun S105 H locs h_ hT_ => ?_)
    replace h := h_
    replace hT := hT_
    refine lv_aload_n (x := b95) hx hb dX5_readWhat_64 rfl (lv_at hl 1 rfl) ?_
    refine lv_aload_n (x := o) hx hb dX5_readWhat_65 rfl (lv_at hl 0 rfl) ?_
    refine lv_iconst (v := 1) hx hb dX5_readWhat_66 (by decide) ?_
    refine lv_aload_n (x := b95) hx hb dX5_readWhat_67 rfl (lv_at hl 1 rfl) ?_
    obtain ⟨hk106_, h⟩ := h
    refine cs_get hx hb hK hT hown 8 hk106_ (by decide) rfl 2 (by decide) kfX5_109 (v := .int (cs_i S105 802 b95)) rfl dX5_readWhat_68 ?_
    refine lv_bipush (v := 27) hx hb dX5_readWhat_71 (by decide) ?_
    refine lv_icmp_ne (tgt := 81) hx hb dX5_readWhat_73 (by decide) (fun hc => ?_) (fun hc => ?_)
    · replace h := h.1 hc
      refine lv_sipush (v := 1000) hx hb dX5_readWhat_81 (by decide) ?_
      exact t_X5_readWhat_84 hC hin hO S105 0 0 o (some b95) (some b95) (some o) 1 1000 _ _ _ h hT (lv_sub hl [0, 1] rfl)
    · replace h := h.2 hc
      refine lv_ldc (v := 2147483647) hx hb hown (hK.word kkX5_112 rfl) dX5_readWhat_76 ?_
      refine lv_goto (tgt := 84) hx hb dX5_readWhat_78 (by decide) ?_
      exact t_X5_readWhat_84 hC hin hO S105 0 0 o (some b95) (some b95) (some o) 1 2147483647 _ _ _ h hT (lv_sub hl [0, 1] rfl)
  · replace h := h.2.2.2.2.2.1 hz
    refine hw_tab (tgt := 125) hx hb hz dX5_readWhat_12 (by decide) (by decide) (off := 113) rfl (by decide) ?_
    refine lv_aload_n (x := o) hx hb dX5_readWhat_125 rfl (lv_at hl 0 rfl) ?_
    refine cs_callv0 (cs_runV hx hb hml hown hK hO hT 6 hk98_ (by decide) rfl (c_X5_step h) rfl rfl klX5_43 ki_X5_step ks_X5_step kn_X5 kc_X5_step 0 ⟨rfl, by decide, by decide, by decide +kernel⟩ ⟨Nat.le_of_ble_eq_true rfl, Nat.le_of_ble_eq_true rfl⟩ rfl hl.1 rfl (hw_cat8 (Nat.le_of_ble_eq_true rfl)) ⟨(Nat.zero_le _), (Nat.zero_le _)⟩ dX5_readWhat_126) hT (fun S107 H locs h_ hT_ => ?_)
    replace h := h_
    replace hT := hT_
    refine lv_aload_n (x := b95) hx hb dX5_readWhat_129 rfl (lv_at hl 1 rfl) ?_
    refine lv_aload_n (x := o) hx hb dX5_readWhat_130 rfl (lv_at hl 0 rfl) ?_
    refine lv_iconst (v := 0) hx hb dX5_readWhat_131 (by decide) ?_
    obtain ⟨hk109_, h⟩ := h
    obtain ⟨m108, n108, hu108, hv108, h⟩ := h
    obtain ⟨d9, hd9, h⟩ := h
    refine cs_callr (cs_runV hx hb hml hown hK hO hT 6 hk109_ (by decide) rfl (c_X5_readCond d9 h) rfl rfl klX5_119 ki_X5_readCond ks_X5_readCond kn_X5 kc_X5_readCond 1 ⟨rfl, by decide, by decide, by decide +kernel⟩ ⟨by show 4 + d9 + 1 ≤ _; exact Nat.le_trans (Nat.add_le_add_right (Nat.add_le_add_left hd9 _) 1) (Nat.le_of_ble_eq_true rfl), by show 8 + (5 + 11) + (104 + 40 * d9) ≤ _; exact Nat.le_trans (Nat.add_le_add_left (Nat.add_le_add_left (Nat.mul_le_mul_left 40 hd9) _) _) (Nat.le_of_ble_eq_true rfl)⟩ rfl hl.1 rfl (hw_cat8 (Nat.le_of_ble_eq_true rfl)) ⟨hu108, hv108⟩ dX5_readWhat_132) hT (fun r108 S108 H locs h_ hT_ => ?_)
    replace h := h_
    replace hT := hT_
    obtain ⟨hk111_, h⟩ := h
    refine cs_callv0 (cs_runV hx hb hml hown hK hO hT 8 hk111_ (by decide) rfl (c_X7_addCond h) rfl rfl klX5_123 ki_X7_addCond ks_X7_addCond kn_X7 kc_X7_addCond 1 ⟨rfl, by decide, by decide, by decide +kernel⟩ ⟨Nat.le_of_ble_eq_true rfl, Nat.le_of_ble_eq_true rfl⟩ rfl hl.1 rfl (hw_cat8 (Nat.le_of_ble_eq_true rfl)) ⟨hu108, hv108⟩ dX5_readWhat_135) hT (fun S110 H locs h_ hT_ => ?_)
    replace h := h_
    replace hT := hT_
    refine lv_iconst (v := 1) hx hb dX5_readWhat_138 (by decide) ?_
    refine lv_istore_n (lv' := [(2, _), (0, _), (1, _)]) hx hb dX5_readWhat_139 rfl hl (by decide) rfl (fun ls hl_ => ?_)
    replace hl := hl_
    obtain ⟨n9, h⟩ := h
    exact t_X5_readWhat_140 hC hin hO n9 S110 (0 + m108) (0 + n108) o (some b95) 1 _ _ _ h hT (lv_sub hl [1, 2, 0] rfl)
  · replace h := h.2.2.2.2.2.2.1 hz
    refine hw_tab (tgt := 243) hx hb hz dX5_readWhat_12 (by decide) (by decide) (off := 231) rfl (by decide) ?_
    refine lv_aload_n (x := o) hx hb dX5_readWhat_243 rfl (lv_at hl 0 rfl) ?_
    refine lv_iconst (v := 2) hx hb dX5_readWhat_244 (by decide) ?_
    refine cs_callv0 (cs_runV hx hb hml hown hK hO hT 6 hk98_ (by decide) rfl (c_X5_fail h) rfl rfl klX5_46 ki_X5_fail ks_X5_fail kn_X5 kc_X5_fail 1 ⟨rfl, by decide, by decide, by decide +kernel⟩ ⟨Nat.le_of_ble_eq_true rfl, Nat.le_of_ble_eq_true rfl⟩ rfl hl.1 rfl (hw_cat8 (Nat.le_of_ble_eq_true rfl)) ⟨(Nat.zero_le _), (Nat.zero_le _)⟩ dX5_readWhat_245) hT (fun S112 H locs h_ hT_ => ?_)
    replace h := h_
    replace hT := hT_
    exact t_X5_readWhat_248 hC hin hO S112 0 0 _ _ _ h hT (lv_sub hl [] rfl)
  · replace h := h.2.2.2.2.2.2.2.1 hz
    refine hw_tab (tgt := 243) hx hb hz dX5_readWhat_12 (by decide) (by decide) (off := 231) rfl (by decide) ?_
    refine lv_aload_n (x := o) hx hb dX5_readWhat_243 rfl (lv_at hl 0 rfl) ?_
    refine lv_iconst (v := 2) hx hb dX5_readWhat_244 (by decide) ?_
    refine cs_callv0 (cs_runV hx hb hml hown hK hO hT 6 hk98_ (by decide) rfl (c_X5_fail h) rfl rfl klX5_46 ki_X5_fail ks_X5_fail kn_X5 kc_X5_fail 1 ⟨rfl, by decide, by decide, by decide +kernel⟩ ⟨Nat.le_of_ble_eq_true rfl, Nat.le_of_ble_eq_true rfl⟩ rfl hl.1 rfl (hw_cat8 (Nat.le_of_ble_eq_true rfl)) ⟨(Nat.zero_le _), (Nat.zero_le _)⟩ dX5_readWhat_245) hT (fun S113 H locs h_ hT_ => ?_)
    replace h := h_
    replace hT := hT_
    exact t_X5_readWhat_248 hC hin hO S113 0 0 _ _ _ h hT (lv_sub hl [] rfl)
  · replace h := h.2.2.2.2.2.2.2.2 hz
    refine hw_tab (tgt := 212) hx hb hz dX5_readWhat_12 (by decide) (by decide) (off := 200) rfl (by decide) ?_
    refine lv_aload_n (x := o) hx hb dX5_readWhat_212 rfl (lv_at hl 0 rfl) ?_
    refine cs_callv0 (cs_runV hx hb hml hown hK hO hT 6 hk98_ (by decide) rfl (c_X5_step h) rfl rfl klX5_43 ki_X5_step ks_X5_step kn_X5 kc_X5_step 0 ⟨rfl, by decide, by decide, by decide +kernel⟩ ⟨Nat.le_of_ble_eq_true rfl, Nat.le_of_ble_eq_true rfl⟩ rfl hl.1 rfl (hw_cat8 (Nat.le_of_ble_eq_true rfl)) ⟨(Nat.zero_le _), (Nat.zero_le _)⟩ dX5_readWhat_213) hT (fun S114 H locs h_ hT_ => ?_)
    replace h := h_
    replace hT := hT_
    refine lv_aload_n (x := b95) hx hb dX5_readWhat_216 rfl (lv_at hl 1 rfl) ?_
    refine lv_aload_n (x := o) hx hb dX5_readWhat_217 rfl (lv_at hl 0 rfl) ?_
    refine lv_iconst (v := 0) hx hb dX5_readWhat_218 (by decide) ?_
    obtain ⟨hk116_, h⟩ := h
    obtain ⟨m115, n115, hu115, hv115, h⟩ := h
    obtain ⟨d9, hd9, h⟩ := h
    refine cs_callr (cs_runV hx hb hml hown hK hO hT 6 hk116_ (by decide) rfl (c_X5_readCond d9 h) rfl rfl klX5_119 ki_X5_readCond ks_X5_readCond kn_X5 kc_X5_readCond 1 ⟨rfl, by decide, by decide, by decide +kernel⟩ ⟨by show 4 + d9 + 1 ≤ _; exact Nat.le_trans (Nat.add_le_add_right (Nat.add_le_add_left hd9 _) 1) (Nat.le_of_ble_eq_true rfl), by show 8 + (5 + 11) + (104 + 40 * d9) ≤ _; exact Nat.le_trans (Nat.add_le_add_left (Nat.add_le_add_left (Nat.mul_le_mul_left 40 hd9) _) _) (Nat.le_of_ble_eq_true rfl)⟩ rfl hl.1 rfl (hw_cat8 (Nat.le_of_ble_eq_true rfl)) ⟨hu115, hv115⟩ dX5_readWhat_219) hT (fun r115 S115 H locs h_ hT_ => ?_)
    replace h := h_
    replace hT := hT_
    obtain ⟨hk118_, h⟩ := h
    refine cs_callv0 (cs_runV hx hb hml hown hK hO hT 8 hk118_ (by decide) rfl (c_X7_addCond h) rfl rfl klX5_123 ki_X7_addCond ks_X7_addCond kn_X7 kc_X7_addCond 1 ⟨rfl, by decide, by decide, by decide +kernel⟩ ⟨Nat.le_of_ble_eq_true rfl, Nat.le_of_ble_eq_true rfl⟩ rfl hl.1 rfl (hw_cat8 (Nat.le_of_ble_eq_true rfl)) ⟨hu115, hv115⟩ dX5_readWhat_222) hT (fun S117 H locs h_ hT_ => ?_)
    replace h := h_
    replace hT := hT_
    refine lv_aload_n (x := o) hx hb dX5_readWhat_225 rfl (lv_at hl 0 rfl) ?_
    refine lv_bipush (v := 29) hx hb dX5_readWhat_226 (by decide) ?_
    obtain ⟨hk120_, h⟩ := h
    refine cs_callv0 (cs_runV hx hb hml hown hK hO hT 6 hk120_ (by decide) rfl (c_X5_skip h) rfl rfl klX5_70 ki_X5_skip ks_X5_skip kn_X5 kc_X5_skip 1 ⟨rfl, by decide, by decide, by decide +kernel⟩ ⟨Nat.le_of_ble_eq_true rfl, Nat.le_of_ble_eq_true rfl⟩ rfl hl.1 rfl (hw_cat8 (Nat.le_of_ble_eq_true rfl)) ⟨hu115, hv115⟩ dX5_readWhat_228) hT (fun S119 H locs h_ hT_ => ?_)
    replace h := h_
    replace hT := hT_
    refine lv_aload_n (x := b95) hx hb dX5_readWhat_231 rfl (lv_at hl 1 rfl) ?_
    refine lv_aload_n (x := o) hx hb dX5_readWhat_232 rfl (lv_at hl 0 rfl) ?_
    refine lv_iconst (v := 0) hx hb dX5_readWhat_233 (by decide) ?_
    obtain ⟨hk122_, h⟩ := h
    obtain ⟨m121, n121, hu121, hv121, h⟩ := h
    obtain ⟨d9, hd9, h⟩ := h
    refine cs_callr (cs_runV hx hb hml hown hK hO hT 6 hk122_ (by decide) rfl (c_X5_readCond d9 h) rfl rfl klX5_119 ki_X5_readCond ks_X5_readCond kn_X5 kc_X5_readCond 1 ⟨rfl, by decide, by decide, by decide +kernel⟩ ⟨by show 4 + d9 + 1 ≤ _; exact Nat.le_trans (Nat.add_le_add_right (Nat.add_le_add_left hd9 _) 1) (Nat.le_of_ble_eq_true rfl), by show 8 + (5 + 11) + (104 + 40 * d9) ≤ _; exact Nat.le_trans (Nat.add_le_add_left (Nat.add_le_add_left (Nat.mul_le_mul_left 40 hd9) _) _) (Nat.le_of_ble_eq_true rfl)⟩ rfl hl.1 rfl (hw_cat8 (Nat.le_of_ble_eq_true rfl)) ⟨hu121, hv121⟩ dX5_readWhat_234) hT (fun r121 S121 H locs h_ hT_ => ?_)
    replace h := h_
    replace hT := hT_
    obtain ⟨hk124_, h⟩ := h
    refine cs_callv0 (cs_runV hx hb hml hown hK hO hT 8 hk124_ (by decide) rfl (c_X7_addCond h) rfl rfl klX5_123 ki_X7_addCond ks_X7_addCond kn_X7 kc_X7_addCond 1 ⟨rfl, by decide, by decide, by decide +kernel⟩ ⟨Nat.le_of_ble_eq_true rfl, Nat.le_of_ble_eq_true rfl⟩ rfl hl.1 rfl (hw_cat8 (Nat.le_of_ble_eq_true rfl)) ⟨hu121, hv121⟩ dX5_readWhat_237) hT (fun S123 H locs h_ hT_ => ?_)
    replace h := h_
    replace hT := hT_
    refine lv_goto (tgt := 248) hx hb dX5_readWhat_240 (by decide) ?_
    exact t_X5_readWhat_248 hC hin hO S123 (0 + m115 + m121) (0 + n115 + n121) _ _ _ h hT (lv_sub hl [] rfl)
/-! X7_keyedBy -/
abbrev rm_X7_keyedBy : Room := { frames := 0, cells := 0, slots := 0, locals := 0 }
def w_X7_keyedBy_38 (post : Int32 → cs_S → Prop) (G : Nat → Nat) (S : cs_S)  : Prop := post 0 S
section
variable {p : Program} {l : Launch} {e : Env} {s : State} {m : MethodId} {args : Array Value} {below : List Frame} {meth : Method} {c : Code} {P : hw_G} {G : Nat → Nat} {A : Nat → Prop}
set_option maxRecDepth 100000 in
set_option maxHeartbeats 4000000 in
theorem t_X7_keyedBy_38 {post : Int32 → cs_S → Prop} (hC : rf_C P RX7 p s m meth c cX7_keyedBy 4 (some .boolean)) (hin : meth.name = yX7_keyedBy.name) (hO : cs_O G A s s.heap) (S : cs_S)  (H : Heap) (locs : List Loc) (ls : Array Slot) (h : w_X7_keyedBy_38 post G S ) (hT : cs_T P s A S H locs) (hl : lv_has ls 4 []) : W p l e rm_X7_keyedBy s m args below meth c H locs 0 0 (MQ below (cs_Qi P A post) args s 0 0 A) (F0 m 38 ls []) := by
  obtain ⟨hx, hb, hml, hown, hK, -, -⟩ := id hC
  refine lv_iconst (v := 0) hx hb dX7_keyedBy_38 (by decide) ?_
  exact cs_zret hC hT rfl h dX7_keyedBy_39 (Nat.le_refl _) (Nat.le_refl _)
end
def w_X7_keyedBy_2 (post : Int32 → cs_S → Prop) (G : Nat → Nat) : Nat → cs_S → Nat → Int64 → Int32 → Prop
  | 0, _, _, _, _ => False
  | n + 1, S, x0, x1, x3 => cs_k S x0 = 9 ∧ ((cs_i S 809 x0) ≤ x3 → w_X7_keyedBy_38 post G S) ∧ (¬ (cs_i S 809 x0) ≤ x3 → ∀ r9, r9 = cs_r S 808 x0 → ∃ b10, r9 = some b10 ∧ cs_k S b10 = 21 ∧ ((Int32.ofNat (cs_n S b10)) ≤ x3 → w_X7_keyedBy_38 post G S) ∧ (¬ (Int32.ofNat (cs_n S b10)) ≤ x3 → ∀ r12, r12 = cs_r S 808 x0 → ∃ b13, r12 = some b13 ∧ cs_k S b13 = 21 ∧ vp_in x3 (cs_n S b13) ∧ (¬ (lg_cmp (cs_al S b13 x3.toNatClampNeg) x1) = 0 → w_X7_keyedBy_2 post G n S x0 x1 (x3 + 1)) ∧ ((lg_cmp (cs_al S b13 x3.toNatClampNeg) x1) = 0 → post 1 S)))
section
variable {p : Program} {l : Launch} {e : Env} {s : State} {m : MethodId} {args : Array Value} {below : List Frame} {meth : Method} {c : Code} {P : hw_G} {G : Nat → Nat} {A : Nat → Prop}
set_option maxRecDepth 100000 in
set_option maxHeartbeats 4000000 in
theorem t_X7_keyedBy_2 {post : Int32 → cs_S → Prop} (hC : rf_C P RX7 p s m meth c cX7_keyedBy 4 (some .boolean)) (hin : meth.name = yX7_keyedBy.name) (hO : cs_O G A s s.heap) : ∀ (n : Nat) (S : cs_S) (x0 : Nat) (x1 : Int64) (x3 : Int32) (H : Heap) (locs : List Loc) (ls : Array Slot), w_X7_keyedBy_2 post G n S x0 x1 x3 → cs_T P s A S H locs → lv_has ls 4 [(0, .ref x0), (1, .long x1), (3, .int x3)] → W p l e rm_X7_keyedBy s m args below meth c H locs 0 0 (MQ below (cs_Qi P A post) args s 0 0 A) (F0 m 2 ls []) := by
  obtain ⟨hx, hb, hml, hown, hK, -, -⟩ := id hC
  intro n
  induction n with
  | zero => intro S x0 x1 x3 H locs ls h; exact False.elim h
  | succ n ih =>
    intro S x0 x1 x3 H locs ls h hT hl
    refine lv_iload_n hx hb dX7_keyedBy_2 rfl (lv_at hl 2 rfl) ?_
    refine lv_aload_n (x := x0) hx hb dX7_keyedBy_3 rfl (lv_at hl 0 rfl) ?_
    obtain ⟨hk8_, h⟩ := h
    refine cs_get hx hb hK hT hown 8 hk8_ (by decide) rfl 9 (by decide) kfX7_37 (v := .int (cs_i S 809 x0)) rfl dX7_keyedBy_4 ?_
    refine lv_icmp_ge (tgt := 38) hx hb dX7_keyedBy_7 (by decide) (fun hc => ?_) (fun hc => ?_)
    · replace h := h.1 hc
      exact t_X7_keyedBy_38 hC hin hO S _ _ _ h hT (lv_sub hl [] rfl)
    · replace h := h.2 hc
      refine lv_iload_n hx hb dX7_keyedBy_10 rfl (lv_at hl 2 rfl) ?_
      refine lv_aload_n (x := x0) hx hb dX7_keyedBy_11 rfl (lv_at hl 0 rfl) ?_
      refine cs_get hx hb hK hT hown 8 hk8_ (by decide) rfl 8 (by decide) kfX7_21 (v := va_rf (cs_r S 808 x0)) rfl dX7_keyedBy_12 ?_
      refine hw_topr (fun r9 er9 => ?_)
      replace h := h r9 er9
      obtain ⟨b10, rfl, h⟩ := h
      obtain ⟨hk11_, h⟩ := h
      refine cs_alen hx hb hK hT 21 hk11_ (by decide) (by decide) dX7_keyedBy_15 ?_
      refine lv_icmp_ge (tgt := 38) hx hb dX7_keyedBy_16 (by decide) (fun hc => ?_) (fun hc => ?_)
      · replace h := h.1 hc
        exact t_X7_keyedBy_38 hC hin hO S _ _ _ h hT (lv_sub hl [] rfl)
      · replace h := h.2 hc
        refine lv_aload_n (x := x0) hx hb dX7_keyedBy_19 rfl (lv_at hl 0 rfl) ?_
        refine cs_get hx hb hK hT hown 8 hk8_ (by decide) rfl 8 (by decide) kfX7_21 (v := va_rf (cs_r S 808 x0)) rfl dX7_keyedBy_20 ?_
        refine hw_topr (fun r12 er12 => ?_)
        replace h := h r12 er12
        refine lv_iload_n hx hb dX7_keyedBy_23 rfl (lv_at hl 2 rfl) ?_
        obtain ⟨b13, rfl, h⟩ := h
        obtain ⟨hk14_, h⟩ := h
        obtain ⟨hi, h⟩ := h
        refine cs_lald hx hb hK hT hk14_ hi dX7_keyedBy_24 ?_
        refine lv_lload_n hx hb dX7_keyedBy_25 rfl (lv_at hl 1 rfl) ?_
        refine W.lcmp hx hb dX7_keyedBy_26 ?_
        refine lv_if_ne (tgt := 32) hx hb dX7_keyedBy_27 (by decide) (fun hc => ?_) (fun hc => ?_)
        · replace h := h.1 hc
          refine lv_iinc (v := x3 + 1) (lv' := [(3, _), (0, _), (1, _)]) hx hb dX7_keyedBy_32 hl (k := 2) rfl rfl (by decide) rfl (fun ls hl_ => ?_)
          replace hl := hl_
          refine lv_goto (tgt := 2) hx hb dX7_keyedBy_35 (by decide) ?_
          exact ih S x0 x1 (x3 + 1) _ _ _ h hT (lv_sub hl [1, 2, 0] rfl)
        · replace h := h.2 hc
          refine lv_iconst (v := 1) hx hb dX7_keyedBy_30 (by decide) ?_
          exact cs_zret hC hT rfl h dX7_keyedBy_31 (Nat.le_refl _) (Nat.le_refl _)
end
def wp_X7_keyedBy (post : Int32 → cs_S → Prop) (G : Nat → Nat) (S : cs_S) (o : Nat) (p1 : Int64) : Prop := ∃ n9, w_X7_keyedBy_2 post G n9 S o p1 0
set_option maxRecDepth 100000 in
set_option maxHeartbeats 4000000 in
theorem c_X7_keyedBy {l : Launch} {P : hw_G} {G : Nat → Nat} {S : cs_S} {sz : Nat} {o : Nat} {p1 : Int64} {post : Int32 → cs_S → Prop} (h : wp_X7_keyedBy post G S o p1) : Met l yX7_keyedBy [Cond.code yX7_keyedBy cX7_keyedBy 4 (some .boolean)] rm_X7_keyedBy (cs_Pc P G S sz [.ref o, .long p1]) (cs_Qi P (cs_A S sz) post) 0 0 (cs_A S sz) := by
  refine cs_met (by decide) rfl (Nat.le_of_ble_eq_true rfl) ?_
  intro p e s m below meth c ls hC hin hO hT hl
  obtain ⟨hx, hb, hml, hown, hK, -, -⟩ := id hC
  replace hl : lv_has ls 4 [(0, .ref o), (1, .long p1)] := hl
  refine lv_iconst (v := 0) hx hb dX7_keyedBy_0 (by decide) ?_
  refine lv_istore_n (lv' := [(3, _), (0, _), (1, _)]) hx hb dX7_keyedBy_1 rfl hl (by decide) rfl (fun ls hl_ => ?_)
  replace hl := hl_
  obtain ⟨n9, h⟩ := h
  exact t_X7_keyedBy_2 hC hin hO n9 S o p1 0 _ _ _ h hT (lv_sub hl [1, 2, 0] rfl)
/-! X7_addBy -/
abbrev rm_X7_addBy : Room := { frames := 0, cells := 0, slots := 0, locals := 0 }
def w_X7_addBy_32 (post : cs_S → Prop) (G : Nat → Nat) (S : cs_S)  : Prop := post S
section
variable {p : Program} {l : Launch} {e : Env} {s : State} {m : MethodId} {args : Array Value} {below : List Frame} {meth : Method} {c : Code} {P : hw_G} {G : Nat → Nat} {A : Nat → Prop}
set_option maxRecDepth 100000 in
set_option maxHeartbeats 4000000 in
theorem t_X7_addBy_32 {post : cs_S → Prop} (hC : rf_C P RX7 p s m meth c cX7_addBy 3 none) (hin : meth.name = yX7_addBy.name) (hO : cs_O G A s s.heap) (S : cs_S)  (H : Heap) (locs : List Loc) (ls : Array Slot) (h : w_X7_addBy_32 post G S ) (hT : cs_T P s A S H locs) (hl : lv_has ls 3 []) : W p l e rm_X7_addBy s m args below meth c H locs 0 0 (MQ below (cs_Qv P A post) args s 0 0 A) (F0 m 32 ls []) := by
  obtain ⟨hx, hb, hml, hown, hK, -, -⟩ := id hC
  exact cs_vret hC hT h dX7_addBy_32 (Nat.le_refl _) (Nat.le_refl _)
end
def wp_X7_addBy (post : cs_S → Prop) (G : Nat → Nat) (S : cs_S) (o : Nat) (p1 : Int64) : Prop := cs_k S o = 9 ∧ ∀ r12, r12 = cs_r S 808 o → ∃ b13, r12 = some b13 ∧ cs_k S b13 = 21 ∧ ((Int32.ofNat (cs_n S b13)) ≤ (cs_i S 809 o) → w_X7_addBy_32 post G S) ∧ (¬ (Int32.ofNat (cs_n S b13)) ≤ (cs_i S 809 o) → ∀ r15, r15 = cs_r S 808 o → ∃ b16, r15 = some b16 ∧ cs_k S b16 = 21 ∧ vp_in (cs_i S 809 o) (cs_n S b16) ∧ ∀ S18, S18 = cs_ual S b16 (cs_i S 809 o).toNatClampNeg p1 → cs_k S18 o = 9 ∧ ∀ S20, S20 = cs_ui S18 809 o ((cs_i S18 809 o) + 1) → w_X7_addBy_32 post G S20)
set_option maxRecDepth 100000 in
set_option maxHeartbeats 4000000 in
theorem c_X7_addBy {l : Launch} {P : hw_G} {G : Nat → Nat} {S : cs_S} {sz : Nat} {o : Nat} {p1 : Int64} {post : cs_S → Prop} (h : wp_X7_addBy post G S o p1) : Met l yX7_addBy [Cond.code yX7_addBy cX7_addBy 3 none] rm_X7_addBy (cs_Pc P G S sz [.ref o, .long p1]) (cs_Qv P (cs_A S sz) post) 0 0 (cs_A S sz) := by
  refine cs_met (by decide) rfl (Nat.le_of_ble_eq_true rfl) ?_
  intro p e s m below meth c ls hC hin hO hT hl
  obtain ⟨hx, hb, hml, hown, hK, -, -⟩ := id hC
  replace hl : lv_has ls 3 [(0, .ref o), (1, .long p1)] := hl
  refine lv_aload_n (x := o) hx hb dX7_addBy_0 rfl (lv_at hl 0 rfl) ?_
  obtain ⟨hk11_, h⟩ := h
  refine cs_get hx hb hK hT hown 8 hk11_ (by decide) rfl 9 (by decide) kfX7_37 (v := .int (cs_i S 809 o)) rfl dX7_addBy_1 ?_
  refine lv_aload_n (x := o) hx hb dX7_addBy_4 rfl (lv_at hl 0 rfl) ?_
  refine cs_get hx hb hK hT hown 8 hk11_ (by decide) rfl 8 (by decide) kfX7_21 (v := va_rf (cs_r S 808 o)) rfl dX7_addBy_5 ?_
  refine hw_topr (fun r12 er12 => ?_)
  replace h := h r12 er12
  obtain ⟨b13, rfl, h⟩ := h
  obtain ⟨hk14_, h⟩ := h
  refine cs_alen hx hb hK hT 21 hk14_ (by decide) (by decide) dX7_addBy_8 ?_
  refine lv_icmp_ge (tgt := 32) hx hb dX7_addBy_9 (by decide) (fun hc => ?_) (fun hc => ?_)
  · replace h := h.1 hc
    exact t_X7_addBy_32 hC hin hO S _ _ _ h hT (lv_sub hl [] rfl)
  · replace h := h.2 hc
    refine lv_aload_n (x := o) hx hb dX7_addBy_12 rfl (lv_at hl 0 rfl) ?_
    refine cs_get hx hb hK hT hown 8 hk11_ (by decide) rfl 8 (by decide) kfX7_21 (v := va_rf (cs_r S 808 o)) rfl dX7_addBy_13 ?_
    refine hw_topr (fun r15 er15 => ?_)
    replace h := h r15 er15
    refine lv_aload_n (x := o) hx hb dX7_addBy_16 rfl (lv_at hl 0 rfl) ?_
    refine cs_get hx hb hK hT hown 8 hk11_ (by decide) rfl 9 (by decide) kfX7_37 (v := .int (cs_i S 809 o)) rfl dX7_addBy_17 ?_
    refine lv_lload_n hx hb dX7_addBy_20 rfl (lv_at hl 1 rfl) ?_
    obtain ⟨b16, rfl, h⟩ := h
    obtain ⟨hk17_, h⟩ := h
    obtain ⟨hi, h⟩ := h
    refine cs_last hx hb hK hT hk17_ hi dX7_addBy_21 (fun H locs hT_ => ?_)
    replace hT := hT_
    obtain ⟨S18, eS18⟩ : ∃ z, z = cs_ual S b16 (cs_i S 809 o).toNatClampNeg p1 := ⟨_, rfl⟩
    rw [← eS18] at hT
    replace h := h S18 eS18
    refine lv_aload_n (x := o) hx hb dX7_addBy_22 rfl (lv_at hl 0 rfl) ?_
    refine lv_dup hx hb dX7_addBy_23 rfl ?_
    obtain ⟨hk19_, h⟩ := h
    refine cs_get hx hb hK hT hown 8 hk19_ (by decide) rfl 9 (by decide) kfX7_37 (v := .int (cs_i S18 809 o)) rfl dX7_addBy_24 ?_
    refine lv_iconst (v := 1) hx hb dX7_addBy_27 (by decide) ?_
    refine lv_iadd hx hb dX7_addBy_28 ?_
    refine cs_puti (x := ((cs_i S18 809 o) + 1)) hx hb hK hT hown 8 hk19_ (by decide) rfl 9 (by decide) kfX7_37 rfl (tyX7_ok 9 (by decide)) rfl 809 rfl dX7_addBy_29 (fun H locs hT_ => ?_)
    replace hT := hT_
    obtain ⟨S20, eS20⟩ : ∃ z, z = cs_ui S18 809 o ((cs_i S18 809 o) + 1) := ⟨_, rfl⟩
    rw [← eS20] at hT
    replace h := h S20 eS20
    exact t_X7_addBy_32 hC hin hO S20 _ _ _ h hT (lv_sub hl [] rfl)
/-! X5_readBy -/
abbrev rm_X5_readBy : Room := { frames := 2, cells := 0, slots := 0, locals := 43 }
def w_X5_readBy_102 (post : cs_S → Prop) (G : Nat → Nat) (S : cs_S)  : Prop := post S
section
variable {p : Program} {l : Launch} {e : Env} {s : State} {m : MethodId} {args : Array Value} {below : List Frame} {meth : Method} {c : Code} {P : hw_G} {G : Nat → Nat} {A : Nat → Prop}
set_option maxRecDepth 100000 in
set_option maxHeartbeats 4000000 in
theorem t_X5_readBy_102 {post : cs_S → Prop} (hC : rf_C P RX5 p s m meth c cX5_readBy 4 none) (hin : meth.name = yX5_readBy.name) (hO : cs_O G A s s.heap) (S : cs_S)  (H : Heap) (locs : List Loc) (ls : Array Slot) (h : w_X5_readBy_102 post G S ) (hT : cs_T P s A S H locs) (hl : lv_has ls 4 []) : W p l e rm_X5_readBy s m args below meth c H locs 0 0 (MQ below (cs_Qv P A post) args s 0 0 A) (F0 m 102 ls []) := by
  obtain ⟨hx, hb, hml, hown, hK, -, -⟩ := id hC
  exact cs_vret hC hT h dX5_readBy_102 (Nat.le_refl _) (Nat.le_refl _)
end
def w_X5_readBy_95 (post : cs_S → Prop) (G : Nat → Nat) (k4 : cs_S → Nat → Option Nat → Int32 → Int32 → Prop) (S : cs_S) (x0 : Nat) (x1 : Option Nat) (x3 : Int32) (y0 : Int32) : Prop := k4 S x0 x1 y0 (x3 + 1)
section
variable {p : Program} {l : Launch} {e : Env} {s : State} {m : MethodId} {args : Array Value} {below : List Frame} {meth : Method} {c : Code} {P : hw_G} {G : Nat → Nat} {A : Nat → Prop}
set_option maxRecDepth 100000 in
set_option maxHeartbeats 4000000 in
theorem t_X5_readBy_95 {post : cs_S → Prop} {k4 : cs_S → Nat → Option Nat → Int32 → Int32 → Prop} (hC : rf_C P RX5 p s m meth c cX5_readBy 4 none) (hin : meth.name = yX5_readBy.name) (hO : cs_O G A s s.heap) (hk4 : ∀ (S : cs_S) (x0 : Nat) (x1 : Option Nat) (x2 : Int32) (x3 : Int32) (H : Heap) (locs : List Loc) (ls : Array Slot), k4 S x0 x1 x2 x3 → cs_T P s A S H locs → lv_has ls 4 [(0, .ref x0), (1, va_rf x1), (2, .int x2), (3, .int x3)] → W p l e rm_X5_readBy s m args below meth c H locs 0 0 (MQ below (cs_Qv P A post) args s 0 0 A) (F0 m 4 ls [])) (S : cs_S) (x0 : Nat) (x1 : Option Nat) (x3 : Int32) (y0 : Int32) (H : Heap) (locs : List Loc) (ls : Array Slot) (h : w_X5_readBy_95 post G k4 S x0 x1 x3 y0) (hT : cs_T P s A S H locs) (hl : lv_has ls 4 [(0, .ref x0), (1, va_rf x1), (3, .int x3)]) : W p l e rm_X5_readBy s m args below meth c H locs 0 0 (MQ below (cs_Qv P A post) args s 0 0 A) (F0 m 95 ls [.int y0]) := by
  obtain ⟨hx, hb, hml, hown, hK, -, -⟩ := id hC
  refine lv_istore_n (lv' := [(2, _), (0, _), (1, _), (3, _)]) hx hb dX5_readBy_95 rfl hl (by decide) (congrArg (List.cons _) ((hw_flt (fun q hq => by simp only [List.mem_cons, List.not_mem_nil, or_false] at hq; rcases hq with rfl | rfl | rfl <;> first | exact fun _ => rfl | exact fun _ => va_rf_cat _ | (intro h; simp at h))).trans rfl)) (fun ls hl_ => ?_)
  replace hl := hl_
  refine lv_iinc (v := x3 + 1) (lv' := [(3, _), (2, _), (0, _), (1, _)]) hx hb dX5_readBy_96 hl (k := 3) rfl rfl (by decide) rfl (fun ls hl_ => ?_)
  replace hl := hl_
  refine lv_goto (tgt := 4) hx hb dX5_readBy_99 (by decide) ?_
  exact hk4 S x0 x1 y0 (x3 + 1) _ _ _ h hT (lv_sub hl [2, 3, 1, 0] rfl)
end
def w_X5_readBy_73 (post : cs_S → Prop) (G : Nat → Nat) (k4 : cs_S → Nat → Option Nat → Int32 → Int32 → Prop) (S : cs_S) (x0 : Nat) (x1 : Option Nat) (x3 : Int32) : Prop := cs_k S x0 = 7 ∧ wp_X5_readName (fun r23 S23 => ∃ b25, x1 = some b25 ∧ cs_k S23 b25 = 9 ∧ wp_X7_addBy (fun S26 => cs_k S26 x0 = 7 ∧ (¬ (cs_i S26 606 x0) = 8 → w_X5_readBy_95 post G k4 S26 x0 (some b25) x3 0) ∧ ((cs_i S26 606 x0) = 8 → w_X5_readBy_95 post G k4 S26 x0 (some b25) x3 1)) G S23 b25 r23) G S x0
section
variable {p : Program} {l : Launch} {e : Env} {s : State} {m : MethodId} {args : Array Value} {below : List Frame} {meth : Method} {c : Code} {P : hw_G} {G : Nat → Nat} {A : Nat → Prop}
set_option maxRecDepth 100000 in
set_option maxHeartbeats 4000000 in
theorem t_X5_readBy_73 {post : cs_S → Prop} {k4 : cs_S → Nat → Option Nat → Int32 → Int32 → Prop} (hC : rf_C P RX5 p s m meth c cX5_readBy 4 none) (hin : meth.name = yX5_readBy.name) (hO : cs_O G A s s.heap) (hk4 : ∀ (S : cs_S) (x0 : Nat) (x1 : Option Nat) (x2 : Int32) (x3 : Int32) (H : Heap) (locs : List Loc) (ls : Array Slot), k4 S x0 x1 x2 x3 → cs_T P s A S H locs → lv_has ls 4 [(0, .ref x0), (1, va_rf x1), (2, .int x2), (3, .int x3)] → W p l e rm_X5_readBy s m args below meth c H locs 0 0 (MQ below (cs_Qv P A post) args s 0 0 A) (F0 m 4 ls [])) (S : cs_S) (x0 : Nat) (x1 : Option Nat) (x3 : Int32) (H : Heap) (locs : List Loc) (ls : Array Slot) (h : w_X5_readBy_73 post G k4 S x0 x1 x3) (hT : cs_T P s A S H locs) (hl : lv_has ls 4 [(0, .ref x0), (1, va_rf x1), (3, .int x3)]) : W p l e rm_X5_readBy s m args below meth c H locs 0 0 (MQ below (cs_Qv P A post) args s 0 0 A) (F0 m 73 ls []) := by
  obtain ⟨hx, hb, hml, hown, hK, -, -⟩ := id hC
  refine hw_aload_n (x := x1) hx hb dX5_readBy_73 rfl (lv_at hl 1 rfl) ?_
  refine lv_aload_n (x := x0) hx hb dX5_readBy_74 rfl (lv_at hl 0 rfl) ?_
  obtain ⟨hk24_, h⟩ := h
  refine cs_calll0 (cs_runV hx hb hml hown hK hO hT 6 hk24_ (by decide) rfl (c_X5_readName h) rfl rfl klX5_95 ki_X5_readName ks_X5_readName kn_X5 kc_X5_readName 0 ⟨rfl, by decide, by decide, by decide +kernel⟩ ⟨by decide, by decide⟩ rfl hl.1 rfl (hw_cat8 (Nat.le_of_ble_eq_true rfl)) ⟨(Nat.le_refl _), (Nat.le_refl _)⟩ dX5_readBy_75) hT (fun r23 S23 H locs h_ hT_ => ?_)
  replace h := h_
  replace hT := hT_
  obtain ⟨b25, rfl, h⟩ := h
  obtain ⟨hk27_, h⟩ := h
  refine cs_callv0 (cs_runV hx hb hml hown hK hO hT 8 hk27_ (by decide) rfl (c_X7_addBy h) rfl rfl klX5_105 ki_X7_addBy ks_X7_addBy kn_X7 kc_X7_addBy 1 ⟨rfl, by decide, by decide, by decide +kernel⟩ ⟨by decide, by decide⟩ rfl hl.1 rfl (hw_cat8 (Nat.le_of_ble_eq_true rfl)) ⟨(Nat.le_refl _), (Nat.le_refl _)⟩ dX5_readBy_78) hT (fun S26 H locs h_ hT_ => ?_)
  replace h := h_
  replace hT := hT_
  refine lv_aload_n (x := x0) hx hb dX5_readBy_81 rfl (lv_at hl 0 rfl) ?_
  obtain ⟨hk28_, h⟩ := h
  refine cs_get hx hb hK hT hown 6 hk28_ (by decide) rfl 6 (by decide) kfX5_27 (v := .int (cs_i S26 606 x0)) rfl dX5_readBy_82 ?_
  refine lv_bipush (v := 8) hx hb dX5_readBy_85 (by decide) ?_
  refine lv_icmp_ne (tgt := 94) hx hb dX5_readBy_87 (by decide) (fun hc => ?_) (fun hc => ?_)
  · replace h := h.1 hc
    refine lv_iconst (v := 0) hx hb dX5_readBy_94 (by decide) ?_
    exact t_X5_readBy_95 hC hin hO hk4 S26 x0 (some b25) x3 0 _ _ _ h hT (lv_sub hl [0, 1, 2] rfl)
  · replace h := h.2 hc
    refine lv_iconst (v := 1) hx hb dX5_readBy_90 (by decide) ?_
    refine lv_goto (tgt := 95) hx hb dX5_readBy_91 (by decide) ?_
    exact t_X5_readBy_95 hC hin hO hk4 S26 x0 (some b25) x3 1 _ _ _ h hT (lv_sub hl [0, 1, 2] rfl)
end
def w_X5_readBy_41 (post : cs_S → Prop) (G : Nat → Nat) (k4 : cs_S → Nat → Option Nat → Int32 → Int32 → Prop) (S : cs_S) (x0 : Nat) (x1 : Option Nat) (x3 : Int32) : Prop := cs_k S x0 = 7 ∧ (¬ (cs_i S 606 x0) = 2 → w_X5_readBy_73 post G k4 S x0 x1 x3) ∧ ((cs_i S 606 x0) = 2 → ∀ r30, r30 = cs_r S 604 x0 → ∃ b31, r30 = some b31 ∧ cs_k S b31 = 10 ∧ ∀ r33, r33 = cs_r S 902 b31 → ∃ b34, r33 = some b34 ∧ cs_k S b34 = 21 ∧ vp_in (cs_i S 605 x0) (cs_n S b34) ∧ ∃ b36, x1 = some b36 ∧ cs_k S b36 = 9 ∧ wp_X7_keyedBy (fun r37 S37 => (r37 = 0 → w_X5_readBy_73 post G k4 S37 x0 (some b36) x3) ∧ (¬ r37 = 0 → cs_k S37 x0 = 7 ∧ wp_X5_fail (fun S39 => w_X5_readBy_73 post G k4 S39 x0 (some b36) x3) G S37 x0 5)) G S b36 (cs_al S b34 (cs_i S 605 x0).toNatClampNeg))
section
variable {p : Program} {l : Launch} {e : Env} {s : State} {m : MethodId} {args : Array Value} {below : List Frame} {meth : Method} {c : Code} {P : hw_G} {G : Nat → Nat} {A : Nat → Prop}
set_option maxRecDepth 100000 in
set_option maxHeartbeats 4000000 in
theorem t_X5_readBy_41 {post : cs_S → Prop} {k4 : cs_S → Nat → Option Nat → Int32 → Int32 → Prop} (hC : rf_C P RX5 p s m meth c cX5_readBy 4 none) (hin : meth.name = yX5_readBy.name) (hO : cs_O G A s s.heap) (hk4 : ∀ (S : cs_S) (x0 : Nat) (x1 : Option Nat) (x2 : Int32) (x3 : Int32) (H : Heap) (locs : List Loc) (ls : Array Slot), k4 S x0 x1 x2 x3 → cs_T P s A S H locs → lv_has ls 4 [(0, .ref x0), (1, va_rf x1), (2, .int x2), (3, .int x3)] → W p l e rm_X5_readBy s m args below meth c H locs 0 0 (MQ below (cs_Qv P A post) args s 0 0 A) (F0 m 4 ls [])) (S : cs_S) (x0 : Nat) (x1 : Option Nat) (x3 : Int32) (H : Heap) (locs : List Loc) (ls : Array Slot) (h : w_X5_readBy_41 post G k4 S x0 x1 x3) (hT : cs_T P s A S H locs) (hl : lv_has ls 4 [(0, .ref x0), (1, va_rf x1), (3, .int x3)]) : W p l e rm_X5_readBy s m args below meth c H locs 0 0 (MQ below (cs_Qv P A post) args s 0 0 A) (F0 m 41 ls []) := by
  obtain ⟨hx, hb, hml, hown, hK, -, -⟩ := id hC
  refine lv_aload_n (x := x0) hx hb dX5_readBy_41 rfl (lv_at hl 0 rfl) ?_
  obtain ⟨hk29_, h⟩ := h
  refine cs_get hx hb hK hT hown 6 hk29_ (by decide) rfl 6 (by decide) kfX5_27 (v := .int (cs_i S 606 x0)) rfl dX5_readBy_42 ?_
  refine lv_iconst (v := 2) hx hb dX5_readBy_45 (by decide) ?_
  refine lv_icmp_ne (tgt := 73) hx hb dX5_readBy_46 (by decide) (fun hc => ?_) (fun hc => ?_)
  · replace h := h.1 hc
    exact t_X5_readBy_73 hC hin hO hk4 S x0 x1 x3 _ _ _ h hT (lv_sub hl [0, 1, 2] rfl)
  · replace h := h.2 hc
    refine hw_aload_n (x := x1) hx hb dX5_readBy_49 rfl (lv_at hl 1 rfl) ?_
    refine lv_aload_n (x := x0) hx hb dX5_readBy_50 rfl (lv_at hl 0 rfl) ?_
    refine cs_get hx hb hK hT hown 6 hk29_ (by decide) rfl 4 (by decide) kfX5_9 (v := va_rf (cs_r S 604 x0)) rfl dX5_readBy_51 ?_
    refine hw_topr (fun r30 er30 => ?_)
    replace h := h r30 er30
    obtain ⟨b31, rfl, h⟩ := h
    obtain ⟨hk32_, h⟩ := h
    refine cs_get hx hb hK hT hown 9 hk32_ (by decide) rfl 2 (by decide) kfX5_87 (v := va_rf (cs_r S 902 b31)) rfl dX5_readBy_54 ?_
    refine hw_topr (fun r33 er33 => ?_)
    replace h := h r33 er33
    refine lv_aload_n (x := x0) hx hb dX5_readBy_57 rfl (lv_at hl 0 rfl) ?_
    refine cs_get hx hb hK hT hown 6 hk29_ (by decide) rfl 5 (by decide) kfX5_34 (v := .int (cs_i S 605 x0)) rfl dX5_readBy_58 ?_
    obtain ⟨b34, rfl, h⟩ := h
    obtain ⟨hk35_, h⟩ := h
    obtain ⟨hi, h⟩ := h
    refine cs_lald hx hb hK hT hk35_ hi dX5_readBy_61 ?_
    obtain ⟨b36, rfl, h⟩ := h
    obtain ⟨hk38_, h⟩ := h
    refine cs_calli0 (cs_runV hx hb hml hown hK hO hT 8 hk38_ (by decide) rfl (c_X7_keyedBy h) rfl rfl klX5_101 ki_X7_keyedBy ks_X7_keyedBy kn_X7 kc_X7_keyedBy 1 ⟨rfl, by decide, by decide, by decide +kernel⟩ ⟨by decide, by decide⟩ rfl hl.1 rfl (hw_cat8 (Nat.le_of_ble_eq_true rfl)) ⟨(Nat.le_refl _), (Nat.le_refl _)⟩ dX5_readBy_62) hT (fun r37 S37 H locs h_ hT_ => ?_)
    replace h := h_
    replace hT := hT_
    refine lv_if_eq (tgt := 73) hx hb dX5_readBy_65 (by decide) (fun hc => ?_) (fun hc => ?_)
    · replace h := h.1 hc
      exact t_X5_readBy_73 hC hin hO hk4 S37 x0 (some b36) x3 _ _ _ h hT (lv_sub hl [0, 1, 2] rfl)
    · replace h := h.2 hc
      refine lv_aload_n (x := x0) hx hb dX5_readBy_68 rfl (lv_at hl 0 rfl) ?_
      refine lv_iconst (v := 5) hx hb dX5_readBy_69 (by decide) ?_
      obtain ⟨hk40_, h⟩ := h
      refine cs_callv0 (cs_runV hx hb hml hown hK hO hT 6 hk40_ (by decide) rfl (c_X5_fail h) rfl rfl klX5_46 ki_X5_fail ks_X5_fail kn_X5 kc_X5_fail 1 ⟨rfl, by decide, by decide, by decide +kernel⟩ ⟨by decide, by decide⟩ rfl hl.1 rfl (hw_cat8 (Nat.le_of_ble_eq_true rfl)) ⟨(Nat.le_refl _), (Nat.le_refl _)⟩ dX5_readBy_70) hT (fun S39 H locs h_ hT_ => ?_)
      replace h := h_
      replace hT := hT_
      exact t_X5_readBy_73 hC hin hO hk4 S39 x0 (some b36) x3 _ _ _ h hT (lv_sub hl [0, 1, 2] rfl)
end
def w_X5_readBy_4 (post : cs_S → Prop) (G : Nat → Nat) : Nat → cs_S → Nat → Option Nat → Int32 → Int32 → Prop
  | 0, _, _, _, _, _ => False
  | n + 1, S, x0, x1, x2, x3 => (x2 = 0 → w_X5_readBy_102 post G S) ∧ (¬ x2 = 0 → (3 < x3 → w_X5_readBy_102 post G S) ∧ (¬ 3 < x3 → cs_k S x0 = 7 ∧ wp_X5_step (fun S41 => cs_k S41 x0 = 7 ∧ (¬ (cs_i S41 606 x0) = 2 → w_X5_readBy_41 post G (w_X5_readBy_4 post G n) S41 x0 x1 x3) ∧ ((cs_i S41 606 x0) = 2 → ∃ b44, x1 = some b44 ∧ cs_k S41 b44 = 9 ∧ ((cs_i S41 809 b44) < 3 → w_X5_readBy_41 post G (w_X5_readBy_4 post G n) S41 x0 (some b44) x3) ∧ (¬ (cs_i S41 809 b44) < 3 → wp_X5_fail (fun S46 => w_X5_readBy_73 post G (w_X5_readBy_4 post G n) S46 x0 (some b44) x3) G S41 x0 4))) G S x0))
section
variable {p : Program} {l : Launch} {e : Env} {s : State} {m : MethodId} {args : Array Value} {below : List Frame} {meth : Method} {c : Code} {P : hw_G} {G : Nat → Nat} {A : Nat → Prop}
set_option maxRecDepth 100000 in
set_option maxHeartbeats 4000000 in
theorem t_X5_readBy_4 {post : cs_S → Prop} (hC : rf_C P RX5 p s m meth c cX5_readBy 4 none) (hin : meth.name = yX5_readBy.name) (hO : cs_O G A s s.heap) : ∀ (n : Nat) (S : cs_S) (x0 : Nat) (x1 : Option Nat) (x2 : Int32) (x3 : Int32) (H : Heap) (locs : List Loc) (ls : Array Slot), w_X5_readBy_4 post G n S x0 x1 x2 x3 → cs_T P s A S H locs → lv_has ls 4 [(0, .ref x0), (1, va_rf x1), (2, .int x2), (3, .int x3)] → W p l e rm_X5_readBy s m args below meth c H locs 0 0 (MQ below (cs_Qv P A post) args s 0 0 A) (F0 m 4 ls []) := by
  obtain ⟨hx, hb, hml, hown, hK, -, -⟩ := id hC
  intro n
  induction n with
  | zero => intro S x0 x1 x2 x3 H locs ls h; exact False.elim h
  | succ n ih =>
    intro S x0 x1 x2 x3 H locs ls h hT hl
    refine lv_iload_n hx hb dX5_readBy_4 rfl (lv_at hl 2 rfl) ?_
    refine lv_if_eq (tgt := 102) hx hb dX5_readBy_5 (by decide) (fun hc => ?_) (fun hc => ?_)
    · replace h := h.1 hc
      exact t_X5_readBy_102 hC hin hO S _ _ _ h hT (lv_sub hl [] rfl)
    · replace h := h.2 hc
      refine lv_iload_n hx hb dX5_readBy_8 rfl (lv_at hl 3 rfl) ?_
      refine lv_iconst (v := 3) hx hb dX5_readBy_9 (by decide) ?_
      refine lv_icmp_gt (tgt := 102) hx hb dX5_readBy_10 (by decide) (fun hc => ?_) (fun hc => ?_)
      · replace h := h.1 hc
        exact t_X5_readBy_102 hC hin hO S _ _ _ h hT (lv_sub hl [] rfl)
      · replace h := h.2 hc
        refine lv_aload_n (x := x0) hx hb dX5_readBy_13 rfl (lv_at hl 0 rfl) ?_
        obtain ⟨hk42_, h⟩ := h
        refine cs_callv0 (cs_runV hx hb hml hown hK hO hT 6 hk42_ (by decide) rfl (c_X5_step h) rfl rfl klX5_43 ki_X5_step ks_X5_step kn_X5 kc_X5_step 0 ⟨rfl, by decide, by decide, by decide +kernel⟩ ⟨by decide, by decide⟩ rfl hl.1 rfl (hw_cat8 (Nat.le_of_ble_eq_true rfl)) ⟨(Nat.le_refl _), (Nat.le_refl _)⟩ dX5_readBy_14) hT (fun S41 H locs h_ hT_ => ?_)
        replace h := h_
        replace hT := hT_
        refine lv_aload_n (x := x0) hx hb dX5_readBy_17 rfl (lv_at hl 0 rfl) ?_
        obtain ⟨hk43_, h⟩ := h
        refine cs_get hx hb hK hT hown 6 hk43_ (by decide) rfl 6 (by decide) kfX5_27 (v := .int (cs_i S41 606 x0)) rfl dX5_readBy_18 ?_
        refine lv_iconst (v := 2) hx hb dX5_readBy_21 (by decide) ?_
        refine lv_icmp_ne (tgt := 41) hx hb dX5_readBy_22 (by decide) (fun hc => ?_) (fun hc => ?_)
        · replace h := h.1 hc
          exact t_X5_readBy_41 hC hin hO ih S41 x0 x1 x3 _ _ _ h hT (lv_sub hl [0, 1, 3] rfl)
        · replace h := h.2 hc
          refine hw_aload_n (x := x1) hx hb dX5_readBy_25 rfl (lv_at hl 1 rfl) ?_
          obtain ⟨b44, rfl, h⟩ := h
          obtain ⟨hk45_, h⟩ := h
          refine cs_get hx hb hK hT hown 8 hk45_ (by decide) rfl 9 (by decide) kfX5_98 (v := .int (cs_i S41 809 b44)) rfl dX5_readBy_26 ?_
          refine lv_iconst (v := 3) hx hb dX5_readBy_29 (by decide) ?_
          refine lv_icmp_lt (tgt := 41) hx hb dX5_readBy_30 (by decide) (fun hc => ?_) (fun hc => ?_)
          · replace h := h.1 hc
            exact t_X5_readBy_41 hC hin hO ih S41 x0 (some b44) x3 _ _ _ h hT (lv_sub hl [0, 1, 3] rfl)
          · replace h := h.2 hc
            refine lv_aload_n (x := x0) hx hb dX5_readBy_33 rfl (lv_at hl 0 rfl) ?_
            refine lv_iconst (v := 4) hx hb dX5_readBy_34 (by decide) ?_
            refine cs_callv0 (cs_runV hx hb hml hown hK hO hT 6 hk43_ (by decide) rfl (c_X5_fail h) rfl rfl klX5_46 ki_X5_fail ks_X5_fail kn_X5 kc_X5_fail 1 ⟨rfl, by decide, by decide, by decide +kernel⟩ ⟨by decide, by decide⟩ rfl hl.1 rfl (hw_cat8 (Nat.le_of_ble_eq_true rfl)) ⟨(Nat.le_refl _), (Nat.le_refl _)⟩ dX5_readBy_35) hT (fun S46 H locs h_ hT_ => ?_)
            replace h := h_
            replace hT := hT_
            refine lv_goto (tgt := 73) hx hb dX5_readBy_38 (by decide) ?_
            exact t_X5_readBy_73 hC hin hO ih S46 x0 (some b44) x3 _ _ _ h hT (lv_sub hl [0, 1, 3] rfl)
end
def wp_X5_readBy (post : cs_S → Prop) (G : Nat → Nat) (S : cs_S) (o : Nat) (p1 : Option Nat) : Prop := ∃ n9, w_X5_readBy_4 post G n9 S o p1 1 0
set_option maxRecDepth 100000 in
set_option maxHeartbeats 4000000 in
theorem c_X5_readBy {l : Launch} {P : hw_G} {G : Nat → Nat} {S : cs_S} {sz : Nat} {o : Nat} {p1 : Option Nat} {post : cs_S → Prop} (h : wp_X5_readBy post G S o p1) : Met l yX5_readBy [Cond.code yX5_readBy cX5_readBy 4 none] rm_X5_readBy (cs_Pc P G S sz [.ref o, va_rf p1]) (cs_Qv P (cs_A S sz) post) 0 0 (cs_A S sz) := by
  refine cs_met (by decide) rfl (by cases p1 <;> exact Nat.le_of_ble_eq_true rfl) ?_
  intro p e s m below meth c ls hC hin hO hT hl
  obtain ⟨hx, hb, hml, hown, hK, -, -⟩ := id hC
  replace hl : lv_has ls 4 [(0, .ref o), (1, va_rf p1)] := by cases p1 <;> exact hl
  refine lv_iconst (v := 1) hx hb dX5_readBy_0 (by decide) ?_
  refine lv_istore_n (lv' := [(2, _), (0, _), (1, _)]) hx hb dX5_readBy_1 rfl hl (by decide) (congrArg (List.cons _) ((hw_flt (fun q hq => by simp only [List.mem_cons, List.not_mem_nil, or_false] at hq; rcases hq with rfl | rfl <;> first | exact fun _ => rfl | exact fun _ => va_rf_cat _ | (intro h; simp at h))).trans rfl)) (fun ls hl_ => ?_)
  replace hl := hl_
  refine lv_iconst (v := 0) hx hb dX5_readBy_2 (by decide) ?_
  refine lv_istore_n (lv' := [(3, _), (2, _), (0, _), (1, _)]) hx hb dX5_readBy_3 rfl hl (by decide) rfl (fun ls hl_ => ?_)
  replace hl := hl_
  obtain ⟨n9, h⟩ := h
  exact t_X5_readBy_4 hC hin hO n9 S o p1 1 0 _ _ _ h hT (lv_sub hl [2, 3, 1, 0] rfl)
/-! X7_makeBuckets -/
abbrev rm_X7_makeBuckets (mc ms : Nat) : Room := { frames := 0, cells := mc, slots := ms, locals := 0 }
def w_X7_makeBuckets_24 (post : cs_S → Prop) (G : Nat → Nat) (mc ms : Nat) (S : cs_S) (u v : Nat) (y0 : Option Nat) (y1 : Int32) : Prop := u ≤ mc ∧ v ≤ ms ∧ ¬ y1 < 0 ∧ y1.toNatClampNeg * 4 ≤ 536870912 ∧ u + 1 ≤ mc ∧ v + y1.toNatClampNeg ≤ ms ∧ ∀ q6, cs_k S q6 = 0 → ∀ S7, S7 = cs_newA S q6 25 y1.toNatClampNeg → ∃ b8, y0 = some b8 ∧ cs_k S7 b8 = 9 ∧ ∀ S10, S10 = cs_ur S7 816 b8 (some q6) → post S10
section
variable {p : Program} {l : Launch} {e : Env} {s : State} {m : MethodId} {args : Array Value} {below : List Frame} {meth : Method} {c : Code} {P : hw_G} {G : Nat → Nat} {A : Nat → Prop}
set_option maxRecDepth 100000 in
set_option maxHeartbeats 4000000 in
theorem t_X7_makeBuckets_24 {post : cs_S → Prop} {mc ms : Nat} (hC : rf_C P RX7 p s m meth c cX7_makeBuckets 1 none) (hin : meth.name = yX7_makeBuckets.name) (hO : cs_O G A s s.heap) (S : cs_S) (u v : Nat) (y0 : Option Nat) (y1 : Int32) (H : Heap) (locs : List Loc) (ls : Array Slot) (h : w_X7_makeBuckets_24 post G mc ms S u v y0 y1) (hT : cs_T P s A S H locs) (hl : lv_has ls 1 []) : W p l e (rm_X7_makeBuckets mc ms) s m args below meth c H locs u v (MQ below (cs_Qv P A post) args s mc ms A) (F0 m 24 ls [.int y1, va_rf y0]) := by
  obtain ⟨hx, hb, hml, hown, hK, -, -⟩ := id hC
  obtain ⟨hu, hv, h⟩ := h
  obtain ⟨hn1, hn2, hu6, hv6, h⟩ := h
  refine cs_anew hx hb hK hT hown 25 rfl kxX7_31 (by decide) (by decide) (by decide) hn1 hn2 hu6 hv6 dX7_makeBuckets_24 (fun q6 H hq6 hT_ => ?_)
  replace h := h q6 hq6
  replace hT := hT_
  obtain ⟨S7, eS7⟩ : ∃ z, z = cs_newA S q6 25 y1.toNatClampNeg := ⟨_, rfl⟩
  rw [← eS7] at hT
  replace h := h S7 eS7
  obtain ⟨b8, rfl, h⟩ := h
  obtain ⟨hk9_, h⟩ := h
  refine cs_putr (x := (some q6)) hx hb hK hT hown 8 hk9_ (by decide) rfl 16 (by decide) kfX7_33 rfl (tyX7_ok 16 (by decide)) rfl 816 rfl dX7_makeBuckets_27 (fun H locs hT_ => ?_)
  replace hT := hT_
  obtain ⟨S10, eS10⟩ : ∃ z, z = cs_ur S7 816 b8 (some q6) := ⟨_, rfl⟩
  rw [← eS10] at hT
  replace h := h S10 eS10
  exact cs_vret hC hT h dX7_makeBuckets_30 hu6 hv6
end
def w_X7_makeBuckets_21 (post : cs_S → Prop) (G : Nat → Nat) (mc ms : Nat) (S : cs_S) (u v : Nat) (y0 : Option Nat) : Prop := u ≤ mc ∧ v ≤ ms ∧ w_X7_makeBuckets_24 post G mc ms S u v y0 128
section
variable {p : Program} {l : Launch} {e : Env} {s : State} {m : MethodId} {args : Array Value} {below : List Frame} {meth : Method} {c : Code} {P : hw_G} {G : Nat → Nat} {A : Nat → Prop}
set_option maxRecDepth 100000 in
set_option maxHeartbeats 4000000 in
theorem t_X7_makeBuckets_21 {post : cs_S → Prop} {mc ms : Nat} (hC : rf_C P RX7 p s m meth c cX7_makeBuckets 1 none) (hin : meth.name = yX7_makeBuckets.name) (hO : cs_O G A s s.heap) (S : cs_S) (u v : Nat) (y0 : Option Nat) (H : Heap) (locs : List Loc) (ls : Array Slot) (h : w_X7_makeBuckets_21 post G mc ms S u v y0) (hT : cs_T P s A S H locs) (hl : lv_has ls 1 []) : W p l e (rm_X7_makeBuckets mc ms) s m args below meth c H locs u v (MQ below (cs_Qv P A post) args s mc ms A) (F0 m 21 ls [va_rf y0]) := by
  obtain ⟨hx, hb, hml, hown, hK, -, -⟩ := id hC
  obtain ⟨hu, hv, h⟩ := h
  refine lv_sipush (v := 128) hx hb dX7_makeBuckets_21 (by decide) ?_
  exact t_X7_makeBuckets_24 hC hin hO S u v y0 128 _ _ _ h hT (lv_sub hl [] rfl)
end
def wp_X7_makeBuckets (post : cs_S → Prop) (G : Nat → Nat) (mc ms : Nat) (S : cs_S) (o : Nat) : Prop := cs_k S o = 9 ∧ (¬ (cs_i S 809 o) = 0 → w_X7_makeBuckets_21 post G mc ms S 0 0 (some o)) ∧ ((cs_i S 809 o) = 0 → ((cs_i S 802 o) = 26 → w_X7_makeBuckets_21 post G mc ms S 0 0 (some o)) ∧ (¬ (cs_i S 802 o) = 26 → w_X7_makeBuckets_24 post G mc ms S 0 0 (some o) 1))
set_option maxRecDepth 100000 in
set_option maxHeartbeats 4000000 in
theorem c_X7_makeBuckets {l : Launch} {P : hw_G} {G : Nat → Nat} {S : cs_S} {sz : Nat} {mc ms : Nat} {o : Nat} {post : cs_S → Prop} (h : wp_X7_makeBuckets post G mc ms S o) : Met l yX7_makeBuckets [Cond.code yX7_makeBuckets cX7_makeBuckets 1 none] (rm_X7_makeBuckets mc ms) (cs_Pc P G S sz [.ref o]) (cs_Qv P (cs_A S sz) post) mc ms (cs_A S sz) := by
  refine cs_met (by decide) rfl (Nat.le_of_ble_eq_true rfl) ?_
  intro p e s m below meth c ls hC hin hO hT hl
  obtain ⟨hx, hb, hml, hown, hK, -, -⟩ := id hC
  replace hl : lv_has ls 1 [(0, .ref o)] := hl
  refine lv_aload_n (x := o) hx hb dX7_makeBuckets_0 rfl (lv_at hl 0 rfl) ?_
  refine lv_aload_n (x := o) hx hb dX7_makeBuckets_1 rfl (lv_at hl 0 rfl) ?_
  obtain ⟨hk11_, h⟩ := h
  refine cs_get hx hb hK hT hown 8 hk11_ (by decide) rfl 9 (by decide) kfX7_37 (v := .int (cs_i S 809 o)) rfl dX7_makeBuckets_2 ?_
  refine lv_if_ne (tgt := 21) hx hb dX7_makeBuckets_5 (by decide) (fun hc => ?_) (fun hc => ?_)
  · replace h := h.1 hc
    exact t_X7_makeBuckets_21 hC hin hO S 0 0 (some o) _ _ _ h hT (lv_sub hl [] rfl)
  · replace h := h.2 hc
    refine lv_aload_n (x := o) hx hb dX7_makeBuckets_8 rfl (lv_at hl 0 rfl) ?_
    refine cs_get hx hb hK hT hown 8 hk11_ (by decide) rfl 2 (by decide) kfX7_43 (v := .int (cs_i S 802 o)) rfl dX7_makeBuckets_9 ?_
    refine lv_bipush (v := 26) hx hb dX7_makeBuckets_12 (by decide) ?_
    refine lv_icmp_eq (tgt := 21) hx hb dX7_makeBuckets_14 (by decide) (fun hc => ?_) (fun hc => ?_)
    · replace h := h.1 hc
      exact t_X7_makeBuckets_21 hC hin hO S 0 0 (some o) _ _ _ h hT (lv_sub hl [] rfl)
    · replace h := h.2 hc
      refine lv_iconst (v := 1) hx hb dX7_makeBuckets_17 (by decide) ?_
      refine lv_goto (tgt := 24) hx hb dX7_makeBuckets_18 (by decide) ?_
      exact t_X7_makeBuckets_24 hC hin hO S 0 0 (some o) 1 _ _ _ h hT (lv_sub hl [] rfl)
/-! X5_readRule -/
abbrev rm_X5_readRule (mc ms : Nat) : Room := { frames := 66, cells := mc, slots := ms, locals := 2550 }
def w_X5_readRule_154 (post : cs_S → Prop) (G : Nat → Nat) (mc ms : Nat) (S : cs_S) (u v : Nat)  : Prop := u ≤ mc ∧ v ≤ ms ∧ post S
section
variable {p : Program} {l : Launch} {e : Env} {s : State} {m : MethodId} {args : Array Value} {below : List Frame} {meth : Method} {c : Code} {P : hw_G} {G : Nat → Nat} {A : Nat → Prop}
set_option maxRecDepth 100000 in
set_option maxHeartbeats 4000000 in
theorem t_X5_readRule_154 {post : cs_S → Prop} {mc ms : Nat} (hC : rf_C P RX5 p s m meth c cX5_readRule 2 none) (hin : meth.name = yX5_readRule.name) (hO : cs_O G A s s.heap) (S : cs_S) (u v : Nat)  (H : Heap) (locs : List Loc) (ls : Array Slot) (h : w_X5_readRule_154 post G mc ms S u v ) (hT : cs_T P s A S H locs) (hl : lv_has ls 2 []) : W p l e (rm_X5_readRule mc ms) s m args below meth c H locs u v (MQ below (cs_Qv P A post) args s mc ms A) (F0 m 154 ls []) := by
  obtain ⟨hx, hb, hml, hown, hK, -, -⟩ := id hC
  obtain ⟨hu, hv, h⟩ := h
  exact cs_vret hC hT h dX5_readRule_154 hu hv
end
def w_X5_readRule_117 (post : cs_S → Prop) (G : Nat → Nat) (mc ms : Nat) (S : cs_S) (u v : Nat) (x0 : Nat) (x1 : Option Nat) : Prop := u ≤ mc ∧ v ≤ ms ∧ cs_k S x0 = 7 ∧ wp_X5_skip (fun S42 => cs_k S42 x0 = 7 ∧ (¬ (cs_i S42 602 x0) = 0 → w_X5_readRule_154 post G mc ms S42 u v) ∧ ((cs_i S42 602 x0) = 0 → ∃ b45, x1 = some b45 ∧ cs_k S42 b45 = 9 ∧ ∃ m46 n46, u + m46 ≤ mc ∧ v + n46 ≤ ms ∧ wp_X7_makeBuckets (fun S46 => cs_k S46 x0 = 7 ∧ ∀ r49, r49 = cs_r S46 600 x0 → ∃ b50, r49 = some b50 ∧ cs_k S46 b50 = 22 ∧ vp_in (cs_i S46 601 x0) (cs_n S46 b50) ∧ (∀ b, (some b45) = some b → cs_k S46 b = 9) ∧ ∀ S52, S52 = cs_uar S46 b50 (cs_i S46 601 x0).toNatClampNeg (some b45) → cs_k S52 x0 = 7 ∧ ∀ S54, S54 = cs_ui S52 601 x0 ((cs_i S52 601 x0) + 1) → w_X5_readRule_154 post G mc ms S54 (u + m46) (v + n46)) G m46 n46 S42 b45)) G S x0 9
section
variable {p : Program} {l : Launch} {e : Env} {s : State} {m : MethodId} {args : Array Value} {below : List Frame} {meth : Method} {c : Code} {P : hw_G} {G : Nat → Nat} {A : Nat → Prop}
set_option maxRecDepth 100000 in
set_option maxHeartbeats 4000000 in
theorem t_X5_readRule_117 {post : cs_S → Prop} {mc ms : Nat} (hC : rf_C P RX5 p s m meth c cX5_readRule 2 none) (hin : meth.name = yX5_readRule.name) (hO : cs_O G A s s.heap) (S : cs_S) (u v : Nat) (x0 : Nat) (x1 : Option Nat) (H : Heap) (locs : List Loc) (ls : Array Slot) (h : w_X5_readRule_117 post G mc ms S u v x0 x1) (hT : cs_T P s A S H locs) (hl : lv_has ls 2 [(0, .ref x0), (1, va_rf x1)]) : W p l e (rm_X5_readRule mc ms) s m args below meth c H locs u v (MQ below (cs_Qv P A post) args s mc ms A) (F0 m 117 ls []) := by
  obtain ⟨hx, hb, hml, hown, hK, -, -⟩ := id hC
  obtain ⟨hu, hv, h⟩ := h
  refine lv_aload_n (x := x0) hx hb dX5_readRule_117 rfl (lv_at hl 0 rfl) ?_
  refine lv_bipush (v := 9) hx hb dX5_readRule_118 (by decide) ?_
  obtain ⟨hk43_, h⟩ := h
  refine cs_callv0 (cs_runV hx hb hml hown hK hO hT 6 hk43_ (by decide) rfl (c_X5_skip h) rfl rfl klX5_70 ki_X5_skip ks_X5_skip kn_X5 kc_X5_skip 1 ⟨rfl, by decide, by decide, by decide +kernel⟩ ⟨Nat.le_of_ble_eq_true rfl, Nat.le_of_ble_eq_true rfl⟩ rfl hl.1 rfl (hw_cat8 (Nat.le_of_ble_eq_true rfl)) ⟨hu, hv⟩ dX5_readRule_120) hT (fun S42 H locs h_ hT_ => ?_)
  replace h := h_
  replace hT := hT_
  refine lv_aload_n (x := x0) hx hb dX5_readRule_123 rfl (lv_at hl 0 rfl) ?_
  obtain ⟨hk44_, h⟩ := h
  refine cs_get hx hb hK hT hown 6 hk44_ (by decide) rfl 2 (by decide) kfX5_31 (v := .int (cs_i S42 602 x0)) rfl dX5_readRule_124 ?_
  refine lv_if_ne (tgt := 154) hx hb dX5_readRule_127 (by decide) (fun hc => ?_) (fun hc => ?_)
  · replace h := h.1 hc
    exact t_X5_readRule_154 hC hin hO S42 u v _ _ _ h hT (lv_sub hl [] rfl)
  · replace h := h.2 hc
    refine hw_aload_n (x := x1) hx hb dX5_readRule_130 rfl (lv_at hl 1 rfl) ?_
    obtain ⟨b45, rfl, h⟩ := h
    obtain ⟨hk47_, h⟩ := h
    obtain ⟨m46, n46, hu46, hv46, h⟩ := h
    refine cs_callv (cs_runV hx hb hml hown hK hO hT 8 hk47_ (by decide) rfl (c_X7_makeBuckets h) rfl rfl klX5_84 ki_X7_makeBuckets ks_X7_makeBuckets kn_X7 kc_X7_makeBuckets 0 ⟨rfl, by decide, by decide, by decide +kernel⟩ ⟨Nat.le_of_ble_eq_true rfl, Nat.le_of_ble_eq_true rfl⟩ rfl hl.1 rfl (hw_cat8 (Nat.le_of_ble_eq_true rfl)) ⟨hu46, hv46⟩ dX5_readRule_131) hT (fun S46 H locs h_ hT_ => ?_)
    replace h := h_
    replace hT := hT_
    refine lv_aload_n (x := x0) hx hb dX5_readRule_134 rfl (lv_at hl 0 rfl) ?_
    obtain ⟨hk48_, h⟩ := h
    refine cs_get hx hb hK hT hown 6 hk48_ (by decide) rfl 0 (by decide) kfX5_17 (v := va_rf (cs_r S46 600 x0)) rfl dX5_readRule_135 ?_
    refine hw_topr (fun r49 er49 => ?_)
    replace h := h r49 er49
    refine lv_aload_n (x := x0) hx hb dX5_readRule_138 rfl (lv_at hl 0 rfl) ?_
    refine cs_get hx hb hK hT hown 6 hk48_ (by decide) rfl 1 (by decide) kfX5_50 (v := .int (cs_i S46 601 x0)) rfl dX5_readRule_139 ?_
    refine lv_aload_n (x := b45) hx hb dX5_readRule_142 rfl (lv_at hl 1 rfl) ?_
    obtain ⟨b50, rfl, h⟩ := h
    obtain ⟨hk51_, h⟩ := h
    obtain ⟨hi, h⟩ := h
    obtain ⟨he, h⟩ := h
    refine cs_aast (x := (some b45)) hx hb hK hT 22 hk51_ (by decide) (ci := 8) rfl (by decide) rfl (by decide) hi he dX5_readRule_143 (fun H locs hT_ => ?_)
    replace hT := hT_
    obtain ⟨S52, eS52⟩ : ∃ z, z = cs_uar S46 b50 (cs_i S46 601 x0).toNatClampNeg (some b45) := ⟨_, rfl⟩
    rw [← eS52] at hT
    replace h := h S52 eS52
    refine lv_aload_n (x := x0) hx hb dX5_readRule_144 rfl (lv_at hl 0 rfl) ?_
    refine lv_dup hx hb dX5_readRule_145 rfl ?_
    obtain ⟨hk53_, h⟩ := h
    refine cs_get hx hb hK hT hown 6 hk53_ (by decide) rfl 1 (by decide) kfX5_50 (v := .int (cs_i S52 601 x0)) rfl dX5_readRule_146 ?_
    refine lv_iconst (v := 1) hx hb dX5_readRule_149 (by decide) ?_
    refine lv_iadd hx hb dX5_readRule_150 ?_
    refine cs_puti (x := ((cs_i S52 601 x0) + 1)) hx hb hK hT hown 6 hk53_ (by decide) rfl 1 (by decide) kfX5_50 rfl (tyX5_ok 1 (by decide)) rfl 601 rfl dX5_readRule_151 (fun H locs hT_ => ?_)
    replace hT := hT_
    obtain ⟨S54, eS54⟩ : ∃ z, z = cs_ui S52 601 x0 ((cs_i S52 601 x0) + 1) := ⟨_, rfl⟩
    rw [← eS54] at hT
    replace h := h S54 eS54
    exact t_X5_readRule_154 hC hin hO S54 (u + m46) (v + n46) _ _ _ h hT (lv_sub hl [] rfl)
end
def w_X5_readRule_76 (post : cs_S → Prop) (G : Nat → Nat) (mc ms : Nat) (S : cs_S) (u v : Nat) (x0 : Nat) (x1 : Option Nat) : Prop := u ≤ mc ∧ v ≤ ms ∧ cs_k S x0 = 7 ∧ wp_X5_skip (fun S55 => cs_k S55 x0 = 7 ∧ wp_X5_readNumber (fun r57 S57 => ∃ b59, x1 = some b59 ∧ cs_k S57 b59 = 9 ∧ ∀ S61, S61 = cs_ui S57 810 b59 r57 → cs_k S61 x0 = 7 ∧ (¬ (cs_i S61 606 x0) = 23 → w_X5_readRule_117 post G mc ms S61 u v x0 (some b59)) ∧ ((cs_i S61 606 x0) = 23 → wp_X5_step (fun S63 => cs_k S63 x0 = 7 ∧ wp_X5_readNumber (fun r64 S64 => cs_k S64 b59 = 9 ∧ ∀ S67, S67 = cs_ui S64 811 b59 r64 → w_X5_readRule_117 post G mc ms S67 u v x0 (some b59)) G S63 x0 0 1000000) G S61 x0)) G S55 x0 1 1000000) G S x0 22
section
variable {p : Program} {l : Launch} {e : Env} {s : State} {m : MethodId} {args : Array Value} {below : List Frame} {meth : Method} {c : Code} {P : hw_G} {G : Nat → Nat} {A : Nat → Prop}
set_option maxRecDepth 100000 in
set_option maxHeartbeats 4000000 in
theorem t_X5_readRule_76 {post : cs_S → Prop} {mc ms : Nat} (hC : rf_C P RX5 p s m meth c cX5_readRule 2 none) (hin : meth.name = yX5_readRule.name) (hO : cs_O G A s s.heap) (S : cs_S) (u v : Nat) (x0 : Nat) (x1 : Option Nat) (H : Heap) (locs : List Loc) (ls : Array Slot) (h : w_X5_readRule_76 post G mc ms S u v x0 x1) (hT : cs_T P s A S H locs) (hl : lv_has ls 2 [(0, .ref x0), (1, va_rf x1)]) : W p l e (rm_X5_readRule mc ms) s m args below meth c H locs u v (MQ below (cs_Qv P A post) args s mc ms A) (F0 m 76 ls []) := by
  obtain ⟨hx, hb, hml, hown, hK, -, -⟩ := id hC
  obtain ⟨hu, hv, h⟩ := h
  refine lv_aload_n (x := x0) hx hb dX5_readRule_76 rfl (lv_at hl 0 rfl) ?_
  refine lv_bipush (v := 22) hx hb dX5_readRule_77 (by decide) ?_
  obtain ⟨hk56_, h⟩ := h
  refine cs_callv0 (cs_runV hx hb hml hown hK hO hT 6 hk56_ (by decide) rfl (c_X5_skip h) rfl rfl klX5_70 ki_X5_skip ks_X5_skip kn_X5 kc_X5_skip 1 ⟨rfl, by decide, by decide, by decide +kernel⟩ ⟨Nat.le_of_ble_eq_true rfl, Nat.le_of_ble_eq_true rfl⟩ rfl hl.1 rfl (hw_cat8 (Nat.le_of_ble_eq_true rfl)) ⟨hu, hv⟩ dX5_readRule_79) hT (fun S55 H locs h_ hT_ => ?_)
  replace h := h_
  replace hT := hT_
  refine hw_aload_n (x := x1) hx hb dX5_readRule_82 rfl (lv_at hl 1 rfl) ?_
  refine lv_aload_n (x := x0) hx hb dX5_readRule_83 rfl (lv_at hl 0 rfl) ?_
  refine lv_iconst (v := 1) hx hb dX5_readRule_84 (by decide) ?_
  refine lv_ldc (v := 1000000) hx hb hown (hK.word kkX5_73 rfl) dX5_readRule_85 ?_
  obtain ⟨hk58_, h⟩ := h
  refine cs_calli0 (cs_runV hx hb hml hown hK hO hT 6 hk58_ (by decide) rfl (c_X5_readNumber h) rfl rfl klX5_74 ki_X5_readNumber ks_X5_readNumber kn_X5 kc_X5_readNumber 2 ⟨rfl, by decide, by decide, by decide +kernel⟩ ⟨Nat.le_of_ble_eq_true rfl, Nat.le_of_ble_eq_true rfl⟩ rfl hl.1 rfl (hw_cat8 (Nat.le_of_ble_eq_true rfl)) ⟨hu, hv⟩ dX5_readRule_87) hT (fun r57 S57 H locs h_ hT_ => ?_)
  replace h := h_
  replace hT := hT_
  obtain ⟨b59, rfl, h⟩ := h
  obtain ⟨hk60_, h⟩ := h
  refine cs_puti (x := r57) hx hb hK hT hown 8 hk60_ (by decide) rfl 10 (by decide) kfX5_78 rfl (tyX7_ok 10 (by decide)) rfl 810 rfl dX5_readRule_90 (fun H locs hT_ => ?_)
  replace hT := hT_
  obtain ⟨S61, eS61⟩ : ∃ z, z = cs_ui S57 810 b59 r57 := ⟨_, rfl⟩
  rw [← eS61] at hT
  replace h := h S61 eS61
  refine lv_aload_n (x := x0) hx hb dX5_readRule_93 rfl (lv_at hl 0 rfl) ?_
  obtain ⟨hk62_, h⟩ := h
  refine cs_get hx hb hK hT hown 6 hk62_ (by decide) rfl 6 (by decide) kfX5_27 (v := .int (cs_i S61 606 x0)) rfl dX5_readRule_94 ?_
  refine lv_bipush (v := 23) hx hb dX5_readRule_97 (by decide) ?_
  refine lv_icmp_ne (tgt := 117) hx hb dX5_readRule_99 (by decide) (fun hc => ?_) (fun hc => ?_)
  · replace h := h.1 hc
    exact t_X5_readRule_117 hC hin hO S61 u v x0 (some b59) _ _ _ h hT (lv_sub hl [0, 1] rfl)
  · replace h := h.2 hc
    refine lv_aload_n (x := x0) hx hb dX5_readRule_102 rfl (lv_at hl 0 rfl) ?_
    refine cs_callv0 (cs_runV hx hb hml hown hK hO hT 6 hk62_ (by decide) rfl (c_X5_step h) rfl rfl klX5_43 ki_X5_step ks_X5_step kn_X5 kc_X5_step 0 ⟨rfl, by decide, by decide, by decide +kernel⟩ ⟨Nat.le_of_ble_eq_true rfl, Nat.le_of_ble_eq_true rfl⟩ rfl hl.1 rfl (hw_cat8 (Nat.le_of_ble_eq_true rfl)) ⟨hu, hv⟩ dX5_readRule_103) hT (fun S63 H locs h_ hT_ => ?_)
    replace h := h_
    replace hT := hT_
    refine lv_aload_n (x := b59) hx hb dX5_readRule_106 rfl (lv_at hl 1 rfl) ?_
    refine lv_aload_n (x := x0) hx hb dX5_readRule_107 rfl (lv_at hl 0 rfl) ?_
    refine lv_iconst (v := 0) hx hb dX5_readRule_108 (by decide) ?_
    refine lv_ldc (v := 1000000) hx hb hown (hK.word kkX5_73 rfl) dX5_readRule_109 ?_
    obtain ⟨hk65_, h⟩ := h
    refine cs_calli0 (cs_runV hx hb hml hown hK hO hT 6 hk65_ (by decide) rfl (c_X5_readNumber h) rfl rfl klX5_74 ki_X5_readNumber ks_X5_readNumber kn_X5 kc_X5_readNumber 2 ⟨rfl, by decide, by decide, by decide +kernel⟩ ⟨Nat.le_of_ble_eq_true rfl, Nat.le_of_ble_eq_true rfl⟩ rfl hl.1 rfl (hw_cat8 (Nat.le_of_ble_eq_true rfl)) ⟨hu, hv⟩ dX5_readRule_111) hT (fun r64 S64 H locs h_ hT_ => ?_)
    replace h := h_
    replace hT := hT_
    obtain ⟨hk66_, h⟩ := h
    refine cs_puti (x := r64) hx hb hK hT hown 8 hk66_ (by decide) rfl 11 (by decide) kfX5_81 rfl (tyX7_ok 11 (by decide)) rfl 811 rfl dX5_readRule_114 (fun H locs hT_ => ?_)
    replace hT := hT_
    obtain ⟨S67, eS67⟩ : ∃ z, z = cs_ui S64 811 b59 r64 := ⟨_, rfl⟩
    rw [← eS67] at hT
    replace h := h S67 eS67
    exact t_X5_readRule_117 hC hin hO S67 u v x0 (some b59) _ _ _ h hT (lv_sub hl [0, 1] rfl)
end
def wp_X5_readRule (post : cs_S → Prop) (G : Nat → Nat) (mc ms : Nat) (S : cs_S) (o : Nat) : Prop := cs_k S o = 7 ∧ ((cs_i S 606 o) = 20 → ∀ r69, r69 = cs_r S 600 o → ∃ b70, r69 = some b70 ∧ cs_k S b70 = 22 ∧ ((cs_i S 601 o) < (Int32.ofNat (cs_n S b70)) → wp_X5_step (fun S72 => 0 + 1 ≤ mc ∧ 0 + 18 ≤ ms ∧ ∀ q73, cs_k S72 q73 = 0 → ∀ S74, S74 = cs_new S72 q73 8 → cs_k S74 o = 7 ∧ ∃ m76 n76, 0 + 1 + m76 ≤ mc ∧ 0 + 18 + n76 ≤ ms ∧ wp_X7_init (fun S76 => cs_k S76 o = 7 ∧ wp_X5_readNewName (fun r77 S77 => cs_k S77 q73 = 9 ∧ ∀ S80, S80 = cs_ul S77 801 q73 r77 → cs_k S80 o = 7 ∧ ∃ m81 n81, 0 + 1 + m76 + m81 ≤ mc ∧ 0 + 18 + n76 + n81 ≤ ms ∧ wp_X5_readWhat (fun S81 => cs_k S81 o = 7 ∧ (¬ (cs_i S81 606 o) = 21 → w_X5_readRule_76 post G mc ms S81 (0 + 1 + m76 + m81) (0 + 18 + n76 + n81) o (some q73)) ∧ ((cs_i S81 606 o) = 21 → wp_X5_readBy (fun S84 => w_X5_readRule_76 post G mc ms S84 (0 + 1 + m76 + m81) (0 + 18 + n76 + n81) o (some q73)) G S81 o (some q73))) G m81 n81 S80 o (some q73)) G S76 o) G m76 n76 S74 q73 (cs_i S74 601 o)) G S o) ∧ (¬ (cs_i S 601 o) < (Int32.ofNat (cs_n S b70)) → wp_X5_fail (fun S85 => post S85) G S o 4)) ∧ (¬ (cs_i S 606 o) = 20 → wp_X5_fail (fun S86 => post S86) G S o 2)
set_option maxRecDepth 100000 in
set_option maxHeartbeats 4000000 in
theorem c_X5_readRule {l : Launch} {P : hw_G} {G : Nat → Nat} {S : cs_S} {sz : Nat} {mc ms : Nat} {o : Nat} {post : cs_S → Prop} (h : wp_X5_readRule post G mc ms S o) : Met l yX5_readRule [Cond.code yX5_readRule cX5_readRule 2 none] (rm_X5_readRule mc ms) (cs_Pc P G S sz [.ref o]) (cs_Qv P (cs_A S sz) post) mc ms (cs_A S sz) := by
  refine cs_met (by decide) rfl (Nat.le_of_ble_eq_true rfl) ?_
  intro p e s m below meth c ls hC hin hO hT hl
  obtain ⟨hx, hb, hml, hown, hK, -, -⟩ := id hC
  replace hl : lv_has ls 2 [(0, .ref o)] := hl
  refine lv_aload_n (x := o) hx hb dX5_readRule_0 rfl (lv_at hl 0 rfl) ?_
  obtain ⟨hk68_, h⟩ := h
  refine cs_get hx hb hK hT hown 6 hk68_ (by decide) rfl 6 (by decide) kfX5_27 (v := .int (cs_i S 606 o)) rfl dX5_readRule_1 ?_
  refine lv_bipush (v := 20) hx hb dX5_readRule_4 (by decide) ?_
  refine lv_icmp_eq (tgt := 15) hx hb dX5_readRule_6 (by decide) (fun hc => ?_) (fun hc => ?_)
  · replace h := h.1 hc
    refine lv_aload_n (x := o) hx hb dX5_readRule_15 rfl (lv_at hl 0 rfl) ?_
    refine cs_get hx hb hK hT hown 6 hk68_ (by decide) rfl 1 (by decide) kfX5_50 (v := .int (cs_i S 601 o)) rfl dX5_readRule_16 ?_
    refine lv_aload_n (x := o) hx hb dX5_readRule_19 rfl (lv_at hl 0 rfl) ?_
    refine cs_get hx hb hK hT hown 6 hk68_ (by decide) rfl 0 (by decide) kfX5_17 (v := va_rf (cs_r S 600 o)) rfl dX5_readRule_20 ?_
    refine hw_topr (fun r69 er69 => ?_)
    replace h := h r69 er69
    obtain ⟨b70, rfl, h⟩ := h
    obtain ⟨hk71_, h⟩ := h
    refine cs_alen hx hb hK hT 22 hk71_ (by decide) (by decide) dX5_readRule_23 ?_
    refine lv_icmp_lt (tgt := 33) hx hb dX5_readRule_24 (by decide) (fun hc => ?_) (fun hc => ?_)
    · replace h := h.1 hc
      refine lv_aload_n (x := o) hx hb dX5_readRule_33 rfl (lv_at hl 0 rfl) ?_
      refine cs_callv0 (cs_runV hx hb hml hown hK hO hT 6 hk68_ (by decide) rfl (c_X5_step h) rfl rfl klX5_43 ki_X5_step ks_X5_step kn_X5 kc_X5_step 0 ⟨rfl, by decide, by decide, by decide +kernel⟩ ⟨Nat.le_of_ble_eq_true rfl, Nat.le_of_ble_eq_true rfl⟩ rfl hl.1 rfl (hw_cat8 (Nat.le_of_ble_eq_true rfl)) ⟨(Nat.zero_le _), (Nat.zero_le _)⟩ dX5_readRule_34) hT (fun S72 H locs h_ hT_ => ?_)
      replace h := h_
      replace hT := hT_
      obtain ⟨hu73, hv73, h⟩ := h
      refine cs_newo hx hb hK hT hown 8 (by decide) rfl tyX7_ok cs_df8 kxX5_15 kj_X7 kn_X7 hu73 hv73 dX5_readRule_37 (fun q73 H hq73 hT_ => ?_)
      replace h := h q73 hq73
      replace hT := hT_
      obtain ⟨S74, eS74⟩ : ∃ z, z = cs_new S72 q73 8 := ⟨_, rfl⟩
      rw [← eS74] at hT
      replace h := h S74 eS74
      refine lv_dup hx hb dX5_readRule_40 rfl ?_
      refine lv_aload_n (x := o) hx hb dX5_readRule_41 rfl (lv_at hl 0 rfl) ?_
      obtain ⟨hk75_, h⟩ := h
      refine cs_get hx hb hK hT hown 6 hk75_ (by decide) rfl 1 (by decide) kfX5_50 (v := .int (cs_i S74 601 o)) rfl dX5_readRule_42 ?_
      obtain ⟨m76, n76, hu76, hv76, h⟩ := h
      refine cs_callv (cs_runI hx hb hml hown hK hO hT (c_X7_init h) rfl rfl klX5_53 ki_X7_init kn_X7 kc_X7_init rfl 1 ⟨by decide, by decide, by decide +kernel⟩ ⟨Nat.le_of_ble_eq_true rfl, Nat.le_of_ble_eq_true rfl⟩ rfl hl.1 rfl (hw_cat8 (Nat.le_of_ble_eq_true rfl)) ⟨hu76, hv76⟩ dX5_readRule_45) hT (fun S76 H locs h_ hT_ => ?_)
      replace h := h_
      replace hT := hT_
      refine lv_astore_n (lv' := [(1, _), (0, _)]) (x := q73) hx hb dX5_readRule_48 rfl hl (by decide) rfl (fun ls hl_ => ?_)
      replace hl := hl_
      refine lv_aload_n (x := q73) hx hb dX5_readRule_49 rfl (lv_at hl 0 rfl) ?_
      refine lv_aload_n (x := o) hx hb dX5_readRule_50 rfl (lv_at hl 1 rfl) ?_
      obtain ⟨hk78_, h⟩ := h
      refine cs_calll0 (cs_runV hx hb hml hown hK hO hT 6 hk78_ (by decide) rfl (c_X5_readNewName h) rfl rfl klX5_55 ki_X5_readNewName ks_X5_readNewName kn_X5 kc_X5_readNewName 0 ⟨rfl, by decide, by decide, by decide +kernel⟩ ⟨Nat.le_of_ble_eq_true rfl, Nat.le_of_ble_eq_true rfl⟩ rfl hl.1 rfl (hw_cat8 (Nat.le_of_ble_eq_true rfl)) ⟨hu76, hv76⟩ dX5_readRule_51) hT (fun r77 S77 H locs h_ hT_ => ?_)
      replace h := h_
      replace hT := hT_
      obtain ⟨hk79_, h⟩ := h
      refine cs_putl (x := r77) hx hb hK hT hown 8 hk79_ (by decide) rfl 1 (by decide) kfX5_59 rfl (tyX7_ok 1 (by decide)) rfl 801 rfl dX5_readRule_54 (fun H locs hT_ => ?_)
      replace hT := hT_
      obtain ⟨S80, eS80⟩ : ∃ z, z = cs_ul S77 801 q73 r77 := ⟨_, rfl⟩
      rw [← eS80] at hT
      replace h := h S80 eS80
      refine lv_aload_n (x := o) hx hb dX5_readRule_57 rfl (lv_at hl 1 rfl) ?_
      refine lv_aload_n (x := q73) hx hb dX5_readRule_58 rfl (lv_at hl 0 rfl) ?_
      obtain ⟨hk82_, h⟩ := h
      obtain ⟨m81, n81, hu81, hv81, h⟩ := h
      refine cs_callv (cs_runV hx hb hml hown hK hO hT 6 hk82_ (by decide) rfl (c_X5_readWhat h) rfl rfl klX5_63 ki_X5_readWhat ks_X5_readWhat kn_X5 kc_X5_readWhat 1 ⟨rfl, by decide, by decide, by decide +kernel⟩ ⟨Nat.le_of_ble_eq_true rfl, Nat.le_of_ble_eq_true rfl⟩ rfl hl.1 rfl (hw_cat8 (Nat.le_of_ble_eq_true rfl)) ⟨hu81, hv81⟩ dX5_readRule_59) hT (fun S81 H locs h_ hT_ => ?_)
      replace h := h_
      replace hT := hT_
      refine lv_aload_n (x := o) hx hb dX5_readRule_62 rfl (lv_at hl 1 rfl) ?_
      obtain ⟨hk83_, h⟩ := h
      refine cs_get hx hb hK hT hown 6 hk83_ (by decide) rfl 6 (by decide) kfX5_27 (v := .int (cs_i S81 606 o)) rfl dX5_readRule_63 ?_
      refine lv_bipush (v := 21) hx hb dX5_readRule_66 (by decide) ?_
      refine lv_icmp_ne (tgt := 76) hx hb dX5_readRule_68 (by decide) (fun hc => ?_) (fun hc => ?_)
      · replace h := h.1 hc
        exact t_X5_readRule_76 hC hin hO S81 (0 + 1 + m76 + m81) (0 + 18 + n76 + n81) o (some q73) _ _ _ h hT (lv_sub hl [1, 0] rfl)
      · replace h := h.2 hc
        refine lv_aload_n (x := o) hx hb dX5_readRule_71 rfl (lv_at hl 1 rfl) ?_
        refine lv_aload_n (x := q73) hx hb dX5_readRule_72 rfl (lv_at hl 0 rfl) ?_
        refine cs_callv0 (cs_runV hx hb hml hown hK hO hT 6 hk83_ (by decide) rfl (c_X5_readBy h) rfl rfl klX5_67 ki_X5_readBy ks_X5_readBy kn_X5 kc_X5_readBy 1 ⟨rfl, by decide, by decide, by decide +kernel⟩ ⟨Nat.le_of_ble_eq_true rfl, Nat.le_of_ble_eq_true rfl⟩ rfl hl.1 rfl (hw_cat8 (Nat.le_of_ble_eq_true rfl)) ⟨hu81, hv81⟩ dX5_readRule_73) hT (fun S84 H locs h_ hT_ => ?_)
        replace h := h_
        replace hT := hT_
        exact t_X5_readRule_76 hC hin hO S84 (0 + 1 + m76 + m81) (0 + 18 + n76 + n81) o (some q73) _ _ _ h hT (lv_sub hl [1, 0] rfl)
    · replace h := h.2 hc
      refine lv_aload_n (x := o) hx hb dX5_readRule_27 rfl (lv_at hl 0 rfl) ?_
      refine lv_iconst (v := 4) hx hb dX5_readRule_28 (by decide) ?_
      refine cs_callv0 (cs_runV hx hb hml hown hK hO hT 6 hk68_ (by decide) rfl (c_X5_fail h) rfl rfl klX5_46 ki_X5_fail ks_X5_fail kn_X5 kc_X5_fail 1 ⟨rfl, by decide, by decide, by decide +kernel⟩ ⟨Nat.le_of_ble_eq_true rfl, Nat.le_of_ble_eq_true rfl⟩ rfl hl.1 rfl (hw_cat8 (Nat.le_of_ble_eq_true rfl)) ⟨(Nat.zero_le _), (Nat.zero_le _)⟩ dX5_readRule_29) hT (fun S85 H locs h_ hT_ => ?_)
      replace h := h_
      replace hT := hT_
      exact cs_vret hC hT h dX5_readRule_32 (Nat.zero_le _) (Nat.zero_le _)
  · replace h := h.2 hc
    refine lv_aload_n (x := o) hx hb dX5_readRule_9 rfl (lv_at hl 0 rfl) ?_
    refine lv_iconst (v := 2) hx hb dX5_readRule_10 (by decide) ?_
    refine cs_callv0 (cs_runV hx hb hml hown hK hO hT 6 hk68_ (by decide) rfl (c_X5_fail h) rfl rfl klX5_46 ki_X5_fail ks_X5_fail kn_X5 kc_X5_fail 1 ⟨rfl, by decide, by decide, by decide +kernel⟩ ⟨Nat.le_of_ble_eq_true rfl, Nat.le_of_ble_eq_true rfl⟩ rfl hl.1 rfl (hw_cat8 (Nat.le_of_ble_eq_true rfl)) ⟨(Nat.zero_le _), (Nat.zero_le _)⟩ dX5_readRule_11) hT (fun S86 H locs h_ hT_ => ?_)
    replace h := h_
    replace hT := hT_
    exact cs_vret hC hT h dX5_readRule_14 (Nat.zero_le _) (Nat.zero_le _)
/-! X6_init -/
abbrev rm_X6_init (mc ms : Nat) : Room := { frames := 1, cells := mc, slots := ms, locals := 24 }
def wp_X6_init (post : cs_S → Prop) (G : Nat → Nat) (mc ms : Nat) (S : cs_S) (o : Nat) : Prop := ¬ (301 : Int32) < 0 ∧ (301 : Int32).toNatClampNeg * componentBytes (cs_aty 20) ≤ 536870912 ∧ 0 + 1 ≤ mc ∧ 0 + (301 : Int32).toNatClampNeg ≤ ms ∧ ∀ q9, cs_k S q9 = 0 → ∀ S10, S10 = cs_newA S q9 20 (301 : Int32).toNatClampNeg → cs_k S10 o = 8 ∧ ∀ S12, S12 = cs_ur S10 702 o (some q9) → cs_k S12 o = 8 ∧ ∀ S14, S14 = cs_ur S12 704 o (some (G 0)) → cs_k S14 o = 8 ∧ ∀ S16, S16 = cs_ui S14 701 o ((-1)) → post S16
set_option maxRecDepth 100000 in
set_option maxHeartbeats 4000000 in
theorem c_X6_init {l : Launch} {P : hw_G} {G : Nat → Nat} {S : cs_S} {sz : Nat} {mc ms : Nat} {o : Nat} {post : cs_S → Prop} (h : wp_X6_init post G mc ms S o) : Met l yX6_init [Cond.code yX6_init cX6_init 1 none] (rm_X6_init mc ms) (cs_Pc P G S sz [.ref o]) (cs_Qv P (cs_A S sz) post) mc ms (cs_A S sz) := by
  refine cs_met (by decide) rfl (Nat.le_of_ble_eq_true rfl) ?_
  intro p e s m below meth c ls hC hin hO hT hl
  obtain ⟨hx, hb, hml, hown, hK, -, -⟩ := id hC
  replace hl : lv_has ls 1 [(0, .ref o)] := hl
  refine lv_aload_n (x := o) hx hb dX6_init_0 rfl (lv_at hl 0 rfl) ?_
  refine cs_objInit hx hb hml hown hK hl.1 klX6_3 ki_obj kc_obj dX6_init_1 (Nat.le_of_ble_eq_true rfl) (hw_catN (Nat.le_of_ble_eq_true rfl) (Nat.le_of_ble_eq_true rfl)) ?_
  refine lv_aload_n (x := o) hx hb dX6_init_4 rfl (lv_at hl 0 rfl) ?_
  refine lv_sipush (v := 301) hx hb dX6_init_5 (by decide) ?_
  obtain ⟨hn1, hn2, hu9, hv9, h⟩ := h
  refine cs_newa hx hb hK hT 20 rfl ka_int (by decide) (by decide) rfl hn1 hn2 hu9 hv9 dX6_init_8 (fun q9 H hq9 hT_ => ?_)
  replace h := h q9 hq9
  replace hT := hT_
  obtain ⟨S10, eS10⟩ : ∃ z, z = cs_newA S q9 20 (301 : Int32).toNatClampNeg := ⟨_, rfl⟩
  rw [← eS10] at hT
  replace h := h S10 eS10
  obtain ⟨hk11_, h⟩ := h
  refine cs_putFr (x := (some q9)) hx hb hK hT hown hin 7 hk11_ (by decide) rfl 2 (by decide) kfX6_11 rfl rfl (tyX6_ok 2 (by decide)) rfl 702 rfl dX6_init_10 (fun H locs hT_ => ?_)
  replace hT := hT_
  obtain ⟨S12, eS12⟩ : ∃ z, z = cs_ur S10 702 o (some q9) := ⟨_, rfl⟩
  rw [← eS12] at hT
  replace h := h S12 eS12
  refine lv_aload_n (x := o) hx hb dX6_init_13 rfl (lv_at hl 0 rfl) ?_
  refine cs_getsN hx hb hO hT hown kfnX6_15 dX6_init_14 ?_
  obtain ⟨hk13_, h⟩ := h
  refine cs_putr (x := (some (G 0))) hx hb hK hT hown 7 hk13_ (by decide) rfl 4 (by decide) kfX6_18 rfl (tyX6_ok 4 (by decide)) rfl 704 rfl dX6_init_17 (fun H locs hT_ => ?_)
  replace hT := hT_
  obtain ⟨S14, eS14⟩ : ∃ z, z = cs_ur S12 704 o (some (G 0)) := ⟨_, rfl⟩
  rw [← eS14] at hT
  replace h := h S14 eS14
  refine lv_aload_n (x := o) hx hb dX6_init_20 rfl (lv_at hl 0 rfl) ?_
  refine lv_iconst (v := (-1)) hx hb dX6_init_21 (by decide) ?_
  obtain ⟨hk15_, h⟩ := h
  refine cs_puti (x := ((-1))) hx hb hK hT hown 7 hk15_ (by decide) rfl 1 (by decide) kfX6_21 rfl (tyX6_ok 1 (by decide)) rfl 701 rfl dX6_init_22 (fun H locs hT_ => ?_)
  replace hT := hT_
  obtain ⟨S16, eS16⟩ : ∃ z, z = cs_ui S14 701 o ((-1)) := ⟨_, rfl⟩
  rw [← eS16] at hT
  replace h := h S16 eS16
  exact cs_vret hC hT h dX6_init_25 hu9 hv9
