/-! ===== the constant texts: length and charAt ===== -/
section STR
variable {p : Program} {l : Launch} {e : Env} {R : Room} {s : State} {m : MethodId} {args : Array Value} {below : List Frame} {meth : Method} {c : Code} {H : Heap} {locs : List Loc} {cells slots : Nat} {Q : State → Prop}
variable {cc : ByteArray} {pc : Nat} {ls : Array Slot} {rest st0 : List Value} {P : hw_G} {A : Nat → Prop} {S : cs_S} {G : Nat → Nat}
variable {y : MethodName} {bytes : ByteArray} {maxL nL n index mc ms : Nat} {ret : Option FieldType} {rm : Room} {Qc : Array Value → State → Outcome → State → Prop} {free : Addr → Prop} {As : List Value} {own : String}
/-- a call on a receiver that is known by its cell alone -/
theorem cs_runVs (hx : p.tables.exec = Jvm.exec) (hb : c.code = cc) (hml : c.maxLocals = nL) (hown : s.vm.findClass own = some m.cls) (hK : hw_K P s) (hO : cs_O G A s s.heap) (hT : cs_T P s A S H locs) {b : Nat} {C : String} (hrec : ∃ cell : Cell, H[b]? = some cell ∧ cell.vm.isStatics = false ∧ s.vm.findClass C = some cell.cls) (hM : Met l y [Cond.code y bytes maxL ret] rm (cs_Pc P G S H.size (.ref b :: As)) Qc mc ms free) (hrc : rm.cells = mc) (hrs : rm.slots = ms) (wl : Cond.methodLink own index y ∈ lw_tbl) (wi : Cond.instanceMethod y ∈ lw_tbl) (ws : Cond.selects C y y ∈ lw_tbl) (wn : Cond.initialized C ∈ lw_tbl) (wc : Cond.code y bytes maxL ret ∈ lw_tbl) (n : Nat)
    (hd : y.cls = C ∧ y.cls ≠ "java/lang/invoke/MethodHandle" ∧ y.cls ≠ "java/lang/invoke/VarHandle" ∧ (parseMethodDescriptor y.desc).map (fun d => d.parameters.length) = some n) (hR : rm.frames + 1 ≤ R.frames ∧ 8 + (maxL + 11) + rm.locals ≤ R.locals) (hn : As.length = n) (hs : ls.size = nL) (hst : st0 = As.reverse ++ .ref b :: rest) (hW : (rest.map fun v => v.category).sum ≤ 8) (hf : cells + mc ≤ R.cells ∧ slots + ms ≤ R.slots) (hdg : decode cc pc = .ok (.invokevirtual index, 3)) :
    va_Run p l e R s m args below meth c H locs cells slots mc ms (F0 m pc ls st0) rest (Qc (Value.ref b :: As).toArray) free := by
  obtain ⟨h1, h2⟩ := hw_ws5 (args := args) hK wl wi ws wn wc rfl
  exact va_runV (As := As) (rest := rest) ⟨hx, hb, hml, hown, h1⟩ hM (cwV n h1 h2 rfl hrc hrs hd hR) ⟨cs_Pc.blind, hrec, cs_Pc.pre hK hO hT _⟩ rfl hn hs hst (lv_room hW) hdg hf
end STR
theorem cs_bok : ∀ i, i < 11 → ∀ x ∈ cs_byt.getD i [], (((x &&& 255).toUInt32 % 65536).toInt32 = x) ∧ narrow .char (.int x) = .int x := by
  intro i hi
  have : i = 0 ∨ i = 1 ∨ i = 2 ∨ i = 3 ∨ i = 4 ∨ i = 5 ∨ i = 6 ∨ i = 7 ∨ i = 8 ∨ i = 9 ∨ i = 10 := by omega
  rcases this with rfl | rfl | rfl | rfl | rfl | rfl | rfl | rfl | rfl | rfl | rfl <;> decide +kernel
theorem cs_blen : ∀ i, i < 11 → cs_len.getD i 0 = (cs_byt.getD i []).length := by
  intro i hi
  have : i = 0 ∨ i = 1 ∨ i = 2 ∨ i = 3 ∨ i = 4 ∨ i = 5 ∨ i = 6 ∨ i = 7 ∨ i = 8 ∨ i = 9 ∨ i = 10 := by omega
  rcases this with rfl | rfl | rfl | rfl | rfl | rfl | rfl | rfl | rfl | rfl | rfl <;> decide +kernel
theorem cs_bsm : ∀ i, i < 11 → cs_len.getD i 0 < 200 := by
  intro i hi
  have : i = 0 ∨ i = 1 ∨ i = 2 ∨ i = 3 ∨ i = 4 ∨ i = 5 ∨ i = 6 ∨ i = 7 ∨ i = 8 ∨ i = 9 ∨ i = 10 := by omega
  rcases this with rfl | rfl | rfl | rfl | rfl | rfl | rfl | rfl | rfl | rfl | rfl <;> decide +kernel
theorem cs_getD_mem (L : List Int32) (n : Nat) (h : n < L.length) : L.getD n 0 ∈ L := by
  rw [List.getD_eq_getElem?_getD, List.getElem?_eq_getElem h]
  exact List.getElem_mem h
theorem cs_bok2a (L : List Int32) (Z : Int32 → Prop) (hb : ∀ x ∈ L, Z x) (n : Nat) (h : n < L.length) : Z (L.getD n 0) := hb _ (cs_getD_mem L n h)
theorem cs_bok2 {i : Nat} (hi : i < 11) {k : Int32} (hk : vp_in k (cs_len.getD i 0)) : (((((cs_byt.getD i []).getD k.toNatClampNeg 0) &&& 255).toUInt32 % 65536).toInt32 = (cs_byt.getD i []).getD k.toNatClampNeg 0) ∧ narrow .char (.int ((cs_byt.getD i []).getD k.toNatClampNeg 0)) = .int ((cs_byt.getD i []).getD k.toNatClampNeg 0) :=
  cs_bok2a (cs_byt.getD i []) (fun x => (((x &&& 255).toUInt32 % 65536).toInt32 = x) ∧ narrow .char (.int x) = .int x) (cs_bok i hi) k.toNatClampNeg (by rw [← cs_blen i hi]; exact Nat.not_le.mp fun q => hk (Or.inr q))
section STRM
variable {l : Launch} {P : hw_G} {G : Nat → Nat} {S : cs_S} {sz : Nat}
abbrev rm_J0_coder_7d493 : Room := { frames := 0, cells := 0, slots := 0, locals := 0 }
def wp_J0_coder_7d493 (post : Int32 → cs_S → Prop) (G : Nat → Nat) (S : cs_S) (o : Nat) : Prop := ∃ i, i < 11 ∧ o = G (10 + i) ∧ post 0 S
theorem c_J0_coder_7d493 {o : Nat} {post : Int32 → cs_S → Prop} (h : wp_J0_coder_7d493 post G S o) : Met l yJ0_coder_7d493 [Cond.code yJ0_coder_7d493 cJ0_coder_7d493 1 (some .byte)] rm_J0_coder_7d493 (cs_Pc P G S sz [.ref o]) (cs_Qi P (cs_A S sz) post) 0 0 (cs_A S sz) := by
  refine cs_met (by decide) rfl (Nat.le_of_ble_eq_true rfl) ?_
  intro p e s m below meth c ls hC hin hO hT hl
  obtain ⟨hx, hb, hml, hown, hK, -, -⟩ := id hC
  obtain ⟨i, hi, rfl, h⟩ := h
  replace hl : lv_has ls 1 [(0, .ref (G (10 + i)))] := hl
  refine cs_gets hx hb hO.2.2.1 hK hT hown kfJ0_38 dJ0_coder_7d493_0 ?_
  refine lv_if_eq (tgt := 13) hx hb dJ0_coder_7d493_3 (by decide) (fun hc => absurd hc (by decide)) (fun hc => ?_)
  refine lv_aload_n hx hb dJ0_coder_7d493_6 rfl (lv_at hl 0 rfl) ?_
  refine vk_getf hx hb (v := .int 0) (hO.2.2.2.2.1.1 i hi).2.1 hT.1 hown (hK.word kfJ0_15 rfl) (fun _ h => h) dJ0_coder_7d493_7 ?_
  refine lv_goto (tgt := 14) hx hb dJ0_coder_7d493_10 (by decide) ?_
  exact cs_zret (v := 0) hC hT rfl h dJ0_coder_7d493_14 (Nat.le_refl _) (Nat.le_refl _)
abbrev rm_J0_isLatin1_aae02 : Room := { frames := 0, cells := 0, slots := 0, locals := 0 }
def wp_J0_isLatin1_aae02 (post : Int32 → cs_S → Prop) (G : Nat → Nat) (S : cs_S) (o : Nat) : Prop := ∃ i, i < 11 ∧ o = G (10 + i) ∧ post 1 S
theorem c_J0_isLatin1_aae02 {o : Nat} {post : Int32 → cs_S → Prop} (h : wp_J0_isLatin1_aae02 post G S o) : Met l yJ0_isLatin1_aae02 [Cond.code yJ0_isLatin1_aae02 cJ0_isLatin1_aae02 1 (some .boolean)] rm_J0_isLatin1_aae02 (cs_Pc P G S sz [.ref o]) (cs_Qi P (cs_A S sz) post) 0 0 (cs_A S sz) := by
  refine cs_met (by decide) rfl (Nat.le_of_ble_eq_true rfl) ?_
  intro p e s m below meth c ls hC hin hO hT hl
  obtain ⟨hx, hb, hml, hown, hK, -, -⟩ := id hC
  obtain ⟨i, hi, rfl, h⟩ := h
  replace hl : lv_has ls 1 [(0, .ref (G (10 + i)))] := hl
  refine cs_gets hx hb hO.2.2.1 hK hT hown kfJ0_38 dJ0_isLatin1_aae02_0 ?_
  refine lv_if_eq (tgt := 17) hx hb dJ0_isLatin1_aae02_3 (by decide) (fun hc => absurd hc (by decide)) (fun hc => ?_)
  refine lv_aload_n hx hb dJ0_isLatin1_aae02_6 rfl (lv_at hl 0 rfl) ?_
  refine vk_getf hx hb (v := .int 0) (hO.2.2.2.2.1.1 i hi).2.1 hT.1 hown (hK.word kfJ0_15 rfl) (fun _ h => h) dJ0_isLatin1_aae02_7 ?_
  refine lv_if_ne (tgt := 17) hx hb dJ0_isLatin1_aae02_10 (by decide) (fun hc => absurd rfl hc) (fun hc => ?_)
  refine lv_iconst (v := 1) hx hb dJ0_isLatin1_aae02_13 (by decide) ?_
  refine lv_goto (tgt := 18) hx hb dJ0_isLatin1_aae02_14 (by decide) ?_
  exact cs_zret (v := 1) hC hT rfl h dJ0_isLatin1_aae02_18 (Nat.le_refl _) (Nat.le_refl _)
abbrev rm_J0_length_8abf5 : Room := { frames := 1, cells := 0, slots := 0, locals := 20 }
def wp_J0_length_8abf5 (post : Int32 → cs_S → Prop) (G : Nat → Nat) (S : cs_S) (o : Nat) : Prop := ∃ i, i < 11 ∧ o = G (10 + i) ∧ post (Int32.ofNat (cs_len.getD i 0)) S
theorem c_J0_length_8abf5 {o : Nat} {post : Int32 → cs_S → Prop} (h : wp_J0_length_8abf5 post G S o) : Met l yJ0_length_8abf5 [Cond.code yJ0_length_8abf5 cJ0_length_8abf5 1 (some .int)] rm_J0_length_8abf5 (cs_Pc P G S sz [.ref o]) (cs_Qi P (cs_A S sz) post) 0 0 (cs_A S sz) := by
  refine cs_met (by decide) rfl (Nat.le_of_ble_eq_true rfl) ?_
  intro p e s m below meth c ls hC hin hO hT hl
  obtain ⟨hx, hb, hml, hown, hK, -, -⟩ := id hC
  obtain ⟨i, hi, rfl, h⟩ := h
  replace hl : lv_has ls 1 [(0, .ref (G (10 + i)))] := hl
  refine lv_aload_n hx hb dJ0_length_8abf5_0 rfl (lv_at hl 0 rfl) ?_
  refine vk_getf hx hb (v := .ref (G (30 + i))) (hO.2.2.2.2.1.1 i hi).2.2.1 hT.1 hown (hK.word kfJ0_9 rfl) (fun _ h => h) dJ0_length_8abf5_1 ?_
  refine va_tlen hx hb (hO.2.2.2.2.1.1 i hi).2.2.2 hT.1 rfl dJ0_length_8abf5_4 ?_
  refine lv_aload_n hx hb dJ0_length_8abf5_5 rfl (lv_at hl 0 rfl) ?_
  refine cs_calli0 (cs_runVs hx hb hml hown hK hO hT (vk_recv hO.2.2.2.2.1 hi hT.1) (c_J0_coder_7d493 (post := fun r S1 => r = 0 ∧ S1 = S) ⟨i, hi, rfl, rfl, rfl⟩) rfl rfl klJ0_335 ki_J0_coder_7d493 ks_J0_coder_7d493 kn_J0 kc_J0_coder_7d493 0 ⟨rfl, by decide, by decide, by decide +kernel⟩ ⟨by decide, by decide⟩ rfl hl.1 rfl (hw_cat8 (Nat.le_of_ble_eq_true rfl)) ⟨Nat.le_refl _, Nat.le_refl _⟩ dJ0_length_8abf5_6) hT (fun r S1 H locs h_ hT_ => ?_)
  obtain ⟨rfl, rfl⟩ := h_
  refine lv_ishr hx hb dJ0_length_8abf5_9 ?_
  have e9 : ∀ z : Int32, z >>> ((0 : Int32) &&& 31) = z := by
    intro z
    have : ((0 : Int32) &&& 31) = 0 := by decide
    rw [this]
    simp
  rw [e9]
  exact cs_iret hC hT_ h dJ0_length_8abf5_10 (Nat.le_refl _) (Nat.le_refl _)
abbrev rm_J0_checkIndex_df160 : Room := { frames := 1, cells := 0, slots := 0, locals := 22 }
def wp_J0_checkIndex_df160 (post : cs_S → Prop) (G : Nat → Nat) (S : cs_S) (p0 p1 : Int32) : Prop := ¬ p0 < 0 ∧ p0 < p1 ∧ post S
theorem c_J0_checkIndex_df160 {p0 p1 : Int32} {post : cs_S → Prop} (h : wp_J0_checkIndex_df160 post G S p0 p1) : Met l yJ0_checkIndex_df160 [Cond.code yJ0_checkIndex_df160 cJ0_checkIndex_df160 2 none] rm_J0_checkIndex_df160 (cs_Pc P G S sz [.int p0, .int p1]) (cs_Qv P (cs_A S sz) post) 0 0 (cs_A S sz) := by
  refine cs_met (by decide) rfl (Nat.le_of_ble_eq_true rfl) ?_
  intro p e s m below meth c ls hC hin hO hT hl
  obtain ⟨hx, hb, hml, hown, hK, -, -⟩ := id hC
  obtain ⟨h1, h2, h⟩ := h
  replace hl : lv_has ls 2 [(0, .int p0), (1, .int p1)] := hl
  refine lv_iload_n hx hb dJ0_checkIndex_df160_0 rfl (lv_at hl 0 rfl) ?_
  refine lv_iload_n hx hb dJ0_checkIndex_df160_1 rfl (lv_at hl 1 rfl) ?_
  obtain ⟨q, hq⟩ : ∃ q : Option Nat, va_Z "jdk/internal/util/Preconditions" "SIOOBE_FORMATTER" "Ljava/util/function/BiFunction;" (va_rf q) (cs_A S sz) s s.heap := by
    rcases hO.2.2.2.1 with h9 | ⟨t, h9⟩
    · exact ⟨none, h9⟩
    · exact ⟨some t, h9⟩
  refine cs_gets hx hb hq hK hT hown kfJ0_1053 dJ0_checkIndex_df160_2 ?_
  refine cs_calli0 (cs_runS hx hb hml hown hK hO hT (c_J3_checkIndex_8e157 (p2 := q) (post := fun r S1 => S1 = S) ⟨h1, h2, rfl⟩) rfl rfl klJ0_1059 ki_J3_checkIndex_8e157 kn_J3 kc_J3_checkIndex_8e157 3 ⟨by decide, by decide, by decide +kernel⟩ ⟨by decide, by decide⟩ rfl hl.1 rfl (hw_cat8 (Nat.le_of_ble_eq_true rfl)) ⟨Nat.le_refl _, Nat.le_refl _⟩ dJ0_checkIndex_df160_5) hT (fun r S1 H locs h_ hT_ => ?_)
  subst h_
  refine lv_pop hx hb dJ0_checkIndex_df160_8 rfl ?_
  exact cs_vret hC hT_ h dJ0_checkIndex_df160_9 (Nat.le_refl _) (Nat.le_refl _)
abbrev rm_J1_charAt_3b067 : Room := { frames := 2, cells := 0, slots := 0, locals := 43 }
def wp_J1_charAt_3b067 (post : Int32 → cs_S → Prop) (G : Nat → Nat) (S : cs_S) (o : Nat) (k : Int32) : Prop := ∃ i, i < 11 ∧ o = G (30 + i) ∧ vp_in k (cs_len.getD i 0) ∧ post ((cs_byt.getD i []).getD k.toNatClampNeg 0) S
theorem c_J1_charAt_3b067 {o : Nat} {k : Int32} {post : Int32 → cs_S → Prop} (h : wp_J1_charAt_3b067 post G S o k) : Met l yJ1_charAt_3b067 [Cond.code yJ1_charAt_3b067 cJ1_charAt_3b067 2 (some .char)] rm_J1_charAt_3b067 (cs_Pc P G S sz [.ref o, .int k]) (cs_Qi P (cs_A S sz) post) 0 0 (cs_A S sz) := by
  refine cs_met (by decide) rfl (Nat.le_of_ble_eq_true rfl) ?_
  intro p e s m below meth c ls hC hin hO hT hl
  obtain ⟨hx, hb, hml, hown, hK, -, -⟩ := id hC
  obtain ⟨i, hi, rfl, hk, h⟩ := h
  have hk0 : ¬ k < 0 := fun q => hk (Or.inl q)
  have hsm := cs_bsm i hi
  have hk1 : k < Int32.ofNat (cs_len.getD i 0) := by
    have h1 : k.toNatClampNeg < cs_len.getD i 0 := Nat.not_le.mp fun q => hk (Or.inr q)
    rw [Int32.lt_iff_toInt_lt]
    have h2 : (Int32.ofNat (cs_len.getD i 0)).toInt = (cs_len.getD i 0 : Int) := Int32.toInt_ofNat_of_lt (by omega)
    have h3 : k.toNatClampNeg = k.toInt.toNat := rfl
    omega
  replace hl : lv_has ls 2 [(0, .ref (G (30 + i))), (1, .int k)] := hl
  refine lv_iload_n hx hb dJ1_charAt_3b067_0 rfl (lv_at hl 1 rfl) ?_
  refine lv_aload_n hx hb dJ1_charAt_3b067_1 rfl (lv_at hl 0 rfl) ?_
  refine va_tlen hx hb (hO.2.2.2.2.1.1 i hi).2.2.2 hT.1 rfl dJ1_charAt_3b067_2 ?_
  refine cs_callv0 (cs_runS hx hb hml hown hK hO hT (c_J0_checkIndex_df160 (post := fun S1 => S1 = S) ⟨hk0, hk1, rfl⟩) rfl rfl klJ1_9 ki_J0_checkIndex_df160 kn_J0 kc_J0_checkIndex_df160 2 ⟨by decide, by decide, by decide +kernel⟩ ⟨by decide, by decide⟩ rfl hl.1 rfl (hw_cat8 (Nat.le_of_ble_eq_true rfl)) ⟨Nat.le_refl _, Nat.le_refl _⟩ dJ1_charAt_3b067_3) hT (fun S1 H locs h_ hT_ => ?_)
  subst h_
  refine lv_aload_n hx hb dJ1_charAt_3b067_6 rfl (lv_at hl 0 rfl) ?_
  refine lv_iload_n hx hb dJ1_charAt_3b067_7 rfl (lv_at hl 1 rfl) ?_
  refine va_tb hx hb (hO.2.2.2.2.1.1 i hi).2.2.2 hT_.1 hk rfl dJ1_charAt_3b067_8 ?_
  refine lv_sipush (v := 255) hx hb dJ1_charAt_3b067_9 (by decide) ?_
  refine lv_iand hx hb dJ1_charAt_3b067_12 ?_
  refine lv_i2c hx hb dJ1_charAt_3b067_13 (cs_bok2 hi hk).1 ?_
  exact cs_zret hC hT_ (cs_bok2 hi hk).2 h dJ1_charAt_3b067_14 (Nat.le_refl _) (Nat.le_refl _)
abbrev rm_J0_charAt_5068e : Room := { frames := 3, cells := 0, slots := 0, locals := 64 }
def wp_J0_charAt_5068e (post : Int32 → cs_S → Prop) (G : Nat → Nat) (S : cs_S) (o : Nat) (k : Int32) : Prop := ∃ i, i < 11 ∧ o = G (10 + i) ∧ vp_in k (cs_len.getD i 0) ∧ post ((cs_byt.getD i []).getD k.toNatClampNeg 0) S
theorem c_J0_charAt_5068e {o : Nat} {k : Int32} {post : Int32 → cs_S → Prop} (h : wp_J0_charAt_5068e post G S o k) : Met l yJ0_charAt_5068e [Cond.code yJ0_charAt_5068e cJ0_charAt_5068e 2 (some .char)] rm_J0_charAt_5068e (cs_Pc P G S sz [.ref o, .int k]) (cs_Qi P (cs_A S sz) post) 0 0 (cs_A S sz) := by
  refine cs_met (by decide) rfl (Nat.le_of_ble_eq_true rfl) ?_
  intro p e s m below meth c ls hC hin hO hT hl
  obtain ⟨hx, hb, hml, hown, hK, -, -⟩ := id hC
  obtain ⟨i, hi, rfl, hk, h⟩ := h
  replace hl : lv_has ls 2 [(0, .ref (G (10 + i))), (1, .int k)] := hl
  refine lv_aload_n hx hb dJ0_charAt_5068e_0 rfl (lv_at hl 0 rfl) ?_
  refine cs_calli0 (cs_runVs hx hb hml hown hK hO hT (vk_recv hO.2.2.2.2.1 hi hT.1) (c_J0_isLatin1_aae02 (post := fun r S1 => r = 1 ∧ S1 = S) ⟨i, hi, rfl, rfl, rfl⟩) rfl rfl klJ0_492 ki_J0_isLatin1_aae02 ks_J0_isLatin1_aae02 kn_J0 kc_J0_isLatin1_aae02 0 ⟨rfl, by decide, by decide, by decide +kernel⟩ ⟨by decide, by decide⟩ rfl hl.1 rfl (hw_cat8 (Nat.le_of_ble_eq_true rfl)) ⟨Nat.le_refl _, Nat.le_refl _⟩ dJ0_charAt_5068e_1) hT (fun r S1 H locs h_ hT_ => ?_)
  obtain ⟨rfl, rfl⟩ := h_
  refine lv_if_eq (tgt := 16) hx hb dJ0_charAt_5068e_4 (by decide) (fun hc => absurd hc (by decide)) (fun hc => ?_)
  refine lv_aload_n hx hb dJ0_charAt_5068e_7 rfl (lv_at hl 0 rfl) ?_
  refine vk_getf hx hb (v := .ref (G (30 + i))) (hO.2.2.2.2.1.1 i hi).2.2.1 hT_.1 hown (hK.word kfJ0_9 rfl) (fun _ h => h) dJ0_charAt_5068e_8 ?_
  refine lv_iload_n hx hb dJ0_charAt_5068e_11 rfl (lv_at hl 1 rfl) ?_
  refine cs_calli0 (cs_runS hx hb hml hown hK hO hT_ (c_J1_charAt_3b067 (post := fun r S2 => r = (cs_byt.getD i []).getD k.toNatClampNeg 0 ∧ S2 = S1) ⟨i, hi, rfl, hk, rfl, rfl⟩) rfl rfl klJ0_495 ki_J1_charAt_3b067 kn_J1 kc_J1_charAt_3b067 2 ⟨by decide, by decide, by decide +kernel⟩ ⟨by decide, by decide⟩ rfl hl.1 rfl (hw_cat8 (Nat.le_of_ble_eq_true rfl)) ⟨Nat.le_refl _, Nat.le_refl _⟩ dJ0_charAt_5068e_12) hT_ (fun r S2 H locs h_ hT_ => ?_)
  obtain ⟨rfl, rfl⟩ := h_
  exact cs_zret hC hT_ (cs_bok2 hi hk).2 h dJ0_charAt_5068e_15 (Nat.le_refl _) (Nat.le_refl _)
end STRM
