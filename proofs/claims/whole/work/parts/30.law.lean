/-! L_alert -/
abbrev rm_L_alert (mc ms : Nat) : Room := { frames := 7, cells := mc, slots := ms, locals := 108 }
def wp_L_alert (post : Int32 → cs_S → Prop) (G : Nat → Nat) (mc ms : Nat) (S : cs_S) (o : Nat) (p1 p2 : Int32) (ob : Nat) : Prop := cs_k S o = 13 ∧ wp_X11_alert (fun r S1 => cs_k S1 ob = 21 ∧ vp_in 0 (cs_n S1 ob) ∧ post 0 (cs_ual S1 ob 0 r.toInt64)) (fun S1 => post 1 S1) G mc ms S o p1 p2
set_option maxRecDepth 100000 in
set_option maxHeartbeats 4000000 in
theorem c_L_alert {l : Launch} {P : hw_G} {G : Nat → Nat} {S : cs_S} {sz mc ms : Nat} {o : Nat} {p1 p2 : Int32} {ob : Nat} {post : Int32 → cs_S → Prop} (hlx : l.stackTraces = false) (h : wp_L_alert post G mc ms S o p1 p2 ob) : Met l yL_alert [Cond.codeWith yL_alert cL_alert 5 (some .int) [(0, 10, 13, 13)]] (rm_L_alert mc ms) (cs_Pc P G S sz [.ref o, .int p1, .int p2, .ref ob]) (cs_Qi P (cs_A S sz) post) mc ms (cs_A S sz) := by
  refine cs_metH (by decide) rfl (Nat.le_of_ble_eq_true rfl) ?_
  intro p e s m below meth c ls hC htab hO hT hl
  obtain ⟨hx, hb, hml, hown, hK, -, -⟩ := id hC
  replace hl : lv_has ls 5 [(0, .ref o), (1, .int p1), (2, .int p2), (3, .ref ob)] := hl
  obtain ⟨hko, h⟩ := h
  refine lv_aload_n hx hb dL_alert_0 rfl (lv_at hl 3 rfl) ?_
  refine lv_iconst (v := 0) hx hb dL_alert_1 (by decide) ?_
  refine lv_aload_n hx hb dL_alert_2 rfl (lv_at hl 0 rfl) ?_
  refine lv_iload_n hx hb dL_alert_3 rfl (lv_at hl 1 rfl) ?_
  refine lv_iload_n hx hb dL_alert_4 rfl (lv_at hl 2 rfl) ?_
  refine cs_callix (cs_runVX hx hb hml hown hK hO hT 12 hko (by decide) rfl (c_X11_alert hlx h) rfl rfl klL_7 ki_X11_alert ks_X11_alert kn_X11 kc_X11_alert 2 ⟨rfl, by decide, by decide, by decide +kernel⟩ ⟨Nat.le_of_ble_eq_true rfl, Nat.le_of_ble_eq_true rfl⟩ rfl hl.1 rfl (hw_cat8 (Nat.le_of_ble_eq_true rfl)) ⟨by show 0 + mc ≤ mc; omega, by show 0 + ms ≤ ms; omega⟩ dL_alert_5) hT (fun ce q9 S1 H locs h_ hT_ h1 h2 h3 => ?_) (fun r S1 H locs h_ hT_ => ?_)
  · refine vx_catch (own := RL) (name := nx_E) (E := nx_E) hown [] ⟨0, 10, 13, 13⟩ [] (by rw [htab]; rfl) (fun z hz => by cases hz) (by decide) (by decide) (hK.word kxL_13 rfl) (va_Nw.use rfl (hO.2.2.2.2.2.2.2.2.1 _ nx_cast rfl)) h1 h2 h3 ?_
    refine lv_astore (lv' := [(4, _), (0, _), (1, _), (2, _), (3, _)]) hx hb dL_alert_13 hl (by decide) rfl (fun ls hl_ => ?_)
    refine lv_iconst (v := 1) hx hb dL_alert_15 (by decide) ?_
    exact cs_iret hC hT_ h_ dL_alert_16 (by show 0 + mc ≤ mc; omega) (by show 0 + ms ≤ ms; omega)
  · obtain ⟨hk, hi, h⟩ := h_
    refine lv_i2l (v := r.toInt64) hx hb dL_alert_8 rfl ?_
    refine cs_last hx hb hK hT_ hk hi dL_alert_9 (fun H locs hT_ => ?_)
    refine lv_goto (tgt := 17) hx hb dL_alert_10 (by decide) ?_
    refine lv_iconst (v := 0) hx hb dL_alert_17 (by decide) ?_
    exact cs_iret hC hT_ h dL_alert_18 (by show 0 + mc ≤ mc; omega) (by show 0 + ms ≤ ms; omega)
/-! L_key -/
abbrev rm_L_key (mc ms : Nat) : Room := { frames := 7, cells := mc, slots := ms, locals := 111 }
def wp_L_key (post : Int32 → cs_S → Prop) (G : Nat → Nat) (mc ms : Nat) (S : cs_S) (o : Nat) (p1 p2 p3 : Int32) (ob : Nat) : Prop := cs_k S o = 13 ∧ wp_X11_key (fun r S1 => cs_k S1 ob = 21 ∧ vp_in 0 (cs_n S1 ob) ∧ post 0 (cs_ual S1 ob 0 r.toInt64)) (fun S1 => post 1 S1) G mc ms S o p1 p2 p3
set_option maxRecDepth 100000 in
set_option maxHeartbeats 4000000 in
theorem c_L_key {l : Launch} {P : hw_G} {G : Nat → Nat} {S : cs_S} {sz mc ms : Nat} {o : Nat} {p1 p2 p3 : Int32} {ob : Nat} {post : Int32 → cs_S → Prop} (hlx : l.stackTraces = false) (h : wp_L_key post G mc ms S o p1 p2 p3 ob) : Met l yL_key [Cond.codeWith yL_key cL_key 6 (some .int) [(0, 12, 15, 13)]] (rm_L_key mc ms) (cs_Pc P G S sz [.ref o, .int p1, .int p2, .int p3, .ref ob]) (cs_Qi P (cs_A S sz) post) mc ms (cs_A S sz) := by
  refine cs_metH (by decide) rfl (Nat.le_of_ble_eq_true rfl) ?_
  intro p e s m below meth c ls hC htab hO hT hl
  obtain ⟨hx, hb, hml, hown, hK, -, -⟩ := id hC
  replace hl : lv_has ls 6 [(0, .ref o), (1, .int p1), (2, .int p2), (3, .int p3), (4, .ref ob)] := hl
  obtain ⟨hko, h⟩ := h
  refine lv_aload hx hb dL_key_0 (lv_at hl 4 rfl) ?_
  refine lv_iconst (v := 0) hx hb dL_key_2 (by decide) ?_
  refine lv_aload_n hx hb dL_key_3 rfl (lv_at hl 0 rfl) ?_
  refine lv_iload_n hx hb dL_key_4 rfl (lv_at hl 1 rfl) ?_
  refine lv_iload_n hx hb dL_key_5 rfl (lv_at hl 2 rfl) ?_
  refine lv_iload_n hx hb dL_key_6 rfl (lv_at hl 3 rfl) ?_
  refine cs_callix (cs_runVX hx hb hml hown hK hO hT 12 hko (by decide) rfl (c_X11_key hlx h) rfl rfl klL_15 ki_X11_key ks_X11_key kn_X11 kc_X11_key 3 ⟨rfl, by decide, by decide, by decide +kernel⟩ ⟨Nat.le_of_ble_eq_true rfl, Nat.le_of_ble_eq_true rfl⟩ rfl hl.1 rfl (hw_cat8 (Nat.le_of_ble_eq_true rfl)) ⟨by show 0 + mc ≤ mc; omega, by show 0 + ms ≤ ms; omega⟩ dL_key_7) hT (fun ce q9 S1 H locs h_ hT_ h1 h2 h3 => ?_) (fun r S1 H locs h_ hT_ => ?_)
  · refine vx_catch (own := RL) (name := nx_E) (E := nx_E) hown [] ⟨0, 12, 15, 13⟩ [] (by rw [htab]; rfl) (fun z hz => by cases hz) (by decide) (by decide) (hK.word kxL_13 rfl) (va_Nw.use rfl (hO.2.2.2.2.2.2.2.2.1 _ nx_cast rfl)) h1 h2 h3 ?_
    refine lv_astore (lv' := [(5, _), (0, _), (1, _), (2, _), (3, _), (4, _)]) hx hb dL_key_15 hl (by decide) rfl (fun ls hl_ => ?_)
    refine lv_iconst (v := 1) hx hb dL_key_17 (by decide) ?_
    exact cs_iret hC hT_ h_ dL_key_18 (by show 0 + mc ≤ mc; omega) (by show 0 + ms ≤ ms; omega)
  · obtain ⟨hk, hi, h⟩ := h_
    refine lv_i2l (v := r.toInt64) hx hb dL_key_10 rfl ?_
    refine cs_last hx hb hK hT_ hk hi dL_key_11 (fun H locs hT_ => ?_)
    refine lv_goto (tgt := 19) hx hb dL_key_12 (by decide) ?_
    refine lv_iconst (v := 0) hx hb dL_key_19 (by decide) ?_
    exact cs_iret hC hT_ h dL_key_20 (by show 0 + mc ≤ mc; omega) (by show 0 + ms ≤ ms; omega)
/-! L_rule -/
abbrev rm_L_rule (mc ms : Nat) : Room := { frames := 7, cells := mc, slots := ms, locals := 105 }
def wp_L_rule (post : Int32 → cs_S → Prop) (G : Nat → Nat) (mc ms : Nat) (S : cs_S) (o : Nat) (p1 p2 : Int32) (ob : Nat) : Prop := cs_k S o = 13 ∧ wp_X11_rule (fun r S1 => cs_k S1 ob = 21 ∧ vp_in 0 (cs_n S1 ob) ∧ post 0 (cs_ual S1 ob 0 r.toInt64)) (fun S1 => post 1 S1) G mc ms S o p1 p2
set_option maxRecDepth 100000 in
set_option maxHeartbeats 4000000 in
theorem c_L_rule {l : Launch} {P : hw_G} {G : Nat → Nat} {S : cs_S} {sz mc ms : Nat} {o : Nat} {p1 p2 : Int32} {ob : Nat} {post : Int32 → cs_S → Prop} (hlx : l.stackTraces = false) (h : wp_L_rule post G mc ms S o p1 p2 ob) : Met l yL_rule [Cond.codeWith yL_rule cL_rule 5 (some .int) [(0, 10, 13, 13)]] (rm_L_rule mc ms) (cs_Pc P G S sz [.ref o, .int p1, .int p2, .ref ob]) (cs_Qi P (cs_A S sz) post) mc ms (cs_A S sz) := by
  refine cs_metH (by decide) rfl (Nat.le_of_ble_eq_true rfl) ?_
  intro p e s m below meth c ls hC htab hO hT hl
  obtain ⟨hx, hb, hml, hown, hK, -, -⟩ := id hC
  replace hl : lv_has ls 5 [(0, .ref o), (1, .int p1), (2, .int p2), (3, .ref ob)] := hl
  obtain ⟨hko, h⟩ := h
  refine lv_aload_n hx hb dL_rule_0 rfl (lv_at hl 3 rfl) ?_
  refine lv_iconst (v := 0) hx hb dL_rule_1 (by decide) ?_
  refine lv_aload_n hx hb dL_rule_2 rfl (lv_at hl 0 rfl) ?_
  refine lv_iload_n hx hb dL_rule_3 rfl (lv_at hl 1 rfl) ?_
  refine lv_iload_n hx hb dL_rule_4 rfl (lv_at hl 2 rfl) ?_
  refine cs_callix (cs_runVX hx hb hml hown hK hO hT 12 hko (by decide) rfl (c_X11_rule hlx h) rfl rfl klL_19 ki_X11_rule ks_X11_rule kn_X11 kc_X11_rule 2 ⟨rfl, by decide, by decide, by decide +kernel⟩ ⟨Nat.le_of_ble_eq_true rfl, Nat.le_of_ble_eq_true rfl⟩ rfl hl.1 rfl (hw_cat8 (Nat.le_of_ble_eq_true rfl)) ⟨by show 0 + mc ≤ mc; omega, by show 0 + ms ≤ ms; omega⟩ dL_rule_5) hT (fun ce q9 S1 H locs h_ hT_ h1 h2 h3 => ?_) (fun r S1 H locs h_ hT_ => ?_)
  · refine vx_catch (own := RL) (name := nx_E) (E := nx_E) hown [] ⟨0, 10, 13, 13⟩ [] (by rw [htab]; rfl) (fun z hz => by cases hz) (by decide) (by decide) (hK.word kxL_13 rfl) (va_Nw.use rfl (hO.2.2.2.2.2.2.2.2.1 _ nx_cast rfl)) h1 h2 h3 ?_
    refine lv_astore (lv' := [(4, _), (0, _), (1, _), (2, _), (3, _)]) hx hb dL_rule_13 hl (by decide) rfl (fun ls hl_ => ?_)
    refine lv_iconst (v := 1) hx hb dL_rule_15 (by decide) ?_
    exact cs_iret hC hT_ h_ dL_rule_16 (by show 0 + mc ≤ mc; omega) (by show 0 + ms ≤ ms; omega)
  · obtain ⟨hk, hi, h⟩ := h_
    refine lv_i2l (v := r.toInt64) hx hb dL_rule_8 rfl ?_
    refine cs_last hx hb hK hT_ hk hi dL_rule_9 (fun H locs hT_ => ?_)
    refine lv_goto (tgt := 17) hx hb dL_rule_10 (by decide) ?_
    refine lv_iconst (v := 0) hx hb dL_rule_17 (by decide) ?_
    exact cs_iret hC hT_ h dL_rule_18 (by show 0 + mc ≤ mc; omega) (by show 0 + ms ≤ ms; omega)
/-! L_event -/
abbrev rm_L_event (mc ms : Nat) : Room := { frames := 7, cells := mc, slots := ms, locals := 105 }
def wp_L_event (post : Int32 → cs_S → Prop) (G : Nat → Nat) (mc ms : Nat) (S : cs_S) (o : Nat) (p1 p2 : Int32) (ob : Nat) : Prop := cs_k S o = 13 ∧ wp_X11_event (fun r S1 => cs_k S1 ob = 21 ∧ vp_in 0 (cs_n S1 ob) ∧ post 0 (cs_ual S1 ob 0 r.toInt64)) (fun S1 => post 1 S1) G mc ms S o p1 p2
set_option maxRecDepth 100000 in
set_option maxHeartbeats 4000000 in
theorem c_L_event {l : Launch} {P : hw_G} {G : Nat → Nat} {S : cs_S} {sz mc ms : Nat} {o : Nat} {p1 p2 : Int32} {ob : Nat} {post : Int32 → cs_S → Prop} (hlx : l.stackTraces = false) (h : wp_L_event post G mc ms S o p1 p2 ob) : Met l yL_event [Cond.codeWith yL_event cL_event 5 (some .int) [(0, 10, 13, 13)]] (rm_L_event mc ms) (cs_Pc P G S sz [.ref o, .int p1, .int p2, .ref ob]) (cs_Qi P (cs_A S sz) post) mc ms (cs_A S sz) := by
  refine cs_metH (by decide) rfl (Nat.le_of_ble_eq_true rfl) ?_
  intro p e s m below meth c ls hC htab hO hT hl
  obtain ⟨hx, hb, hml, hown, hK, -, -⟩ := id hC
  replace hl : lv_has ls 5 [(0, .ref o), (1, .int p1), (2, .int p2), (3, .ref ob)] := hl
  obtain ⟨hko, h⟩ := h
  refine lv_aload_n hx hb dL_event_0 rfl (lv_at hl 3 rfl) ?_
  refine lv_iconst (v := 0) hx hb dL_event_1 (by decide) ?_
  refine lv_aload_n hx hb dL_event_2 rfl (lv_at hl 0 rfl) ?_
  refine lv_iload_n hx hb dL_event_3 rfl (lv_at hl 1 rfl) ?_
  refine lv_iload_n hx hb dL_event_4 rfl (lv_at hl 2 rfl) ?_
  refine cs_callix (cs_runVX hx hb hml hown hK hO hT 12 hko (by decide) rfl (c_X11_event hlx h) rfl rfl klL_22 ki_X11_event ks_X11_event kn_X11 kc_X11_event 2 ⟨rfl, by decide, by decide, by decide +kernel⟩ ⟨Nat.le_of_ble_eq_true rfl, Nat.le_of_ble_eq_true rfl⟩ rfl hl.1 rfl (hw_cat8 (Nat.le_of_ble_eq_true rfl)) ⟨by show 0 + mc ≤ mc; omega, by show 0 + ms ≤ ms; omega⟩ dL_event_5) hT (fun ce q9 S1 H locs h_ hT_ h1 h2 h3 => ?_) (fun r S1 H locs h_ hT_ => ?_)
  · refine vx_catch (own := RL) (name := nx_E) (E := nx_E) hown [] ⟨0, 10, 13, 13⟩ [] (by rw [htab]; rfl) (fun z hz => by cases hz) (by decide) (by decide) (hK.word kxL_13 rfl) (va_Nw.use rfl (hO.2.2.2.2.2.2.2.2.1 _ nx_cast rfl)) h1 h2 h3 ?_
    refine lv_astore (lv' := [(4, _), (0, _), (1, _), (2, _), (3, _)]) hx hb dL_event_13 hl (by decide) rfl (fun ls hl_ => ?_)
    refine lv_iconst (v := 1) hx hb dL_event_15 (by decide) ?_
    exact cs_iret hC hT_ h_ dL_event_16 (by show 0 + mc ≤ mc; omega) (by show 0 + ms ≤ ms; omega)
  · obtain ⟨hk, hi, h⟩ := h_
    refine lv_i2l (v := r.toInt64) hx hb dL_event_8 rfl ?_
    refine cs_last hx hb hK hT_ hk hi dL_event_9 (fun H locs hT_ => ?_)
    refine lv_goto (tgt := 17) hx hb dL_event_10 (by decide) ?_
    refine lv_iconst (v := 0) hx hb dL_event_17 (by decide) ?_
    exact cs_iret hC hT_ h dL_event_18 (by show 0 + mc ≤ mc; omega) (by show 0 + ms ≤ ms; omega)
/-! L_pack -/
abbrev rm_L_pack (mc ms : Nat) : Room := { frames := 7, cells := mc, slots := ms, locals := 117 }
def wp_L_pack (post : Int32 → cs_S → Prop) (G : Nat → Nat) (mc ms : Nat) (S : cs_S) (o : Nat) (p1 : Int32) (ob : Nat) : Prop := cs_k S o = 13 ∧ wp_X11_pack (fun r S1 => cs_k S1 ob = 21 ∧ vp_in 0 (cs_n S1 ob) ∧ post 0 (cs_ual S1 ob 0 r.toInt64)) (fun S1 => post 1 S1) G mc ms S o p1
set_option maxRecDepth 100000 in
set_option maxHeartbeats 4000000 in
theorem c_L_pack {l : Launch} {P : hw_G} {G : Nat → Nat} {S : cs_S} {sz mc ms : Nat} {o : Nat} {p1 : Int32} {ob : Nat} {post : Int32 → cs_S → Prop} (hlx : l.stackTraces = false) (h : wp_L_pack post G mc ms S o p1 ob) : Met l yL_pack [Cond.codeWith yL_pack cL_pack 4 (some .int) [(0, 9, 12, 13)]] (rm_L_pack mc ms) (cs_Pc P G S sz [.ref o, .int p1, .ref ob]) (cs_Qi P (cs_A S sz) post) mc ms (cs_A S sz) := by
  refine cs_metH (by decide) rfl (Nat.le_of_ble_eq_true rfl) ?_
  intro p e s m below meth c ls hC htab hO hT hl
  obtain ⟨hx, hb, hml, hown, hK, -, -⟩ := id hC
  replace hl : lv_has ls 4 [(0, .ref o), (1, .int p1), (2, .ref ob)] := hl
  obtain ⟨hko, h⟩ := h
  refine lv_aload_n hx hb dL_pack_0 rfl (lv_at hl 2 rfl) ?_
  refine lv_iconst (v := 0) hx hb dL_pack_1 (by decide) ?_
  refine lv_aload_n hx hb dL_pack_2 rfl (lv_at hl 0 rfl) ?_
  refine lv_iload_n hx hb dL_pack_3 rfl (lv_at hl 1 rfl) ?_
  refine cs_callix (cs_runVX hx hb hml hown hK hO hT 12 hko (by decide) rfl (c_X11_pack hlx h) rfl rfl klL_25 ki_X11_pack ks_X11_pack kn_X11 kc_X11_pack 1 ⟨rfl, by decide, by decide, by decide +kernel⟩ ⟨Nat.le_of_ble_eq_true rfl, Nat.le_of_ble_eq_true rfl⟩ rfl hl.1 rfl (hw_cat8 (Nat.le_of_ble_eq_true rfl)) ⟨by show 0 + mc ≤ mc; omega, by show 0 + ms ≤ ms; omega⟩ dL_pack_4) hT (fun ce q9 S1 H locs h_ hT_ h1 h2 h3 => ?_) (fun r S1 H locs h_ hT_ => ?_)
  · refine vx_catch (own := RL) (name := nx_E) (E := nx_E) hown [] ⟨0, 9, 12, 13⟩ [] (by rw [htab]; rfl) (fun z hz => by cases hz) (by decide) (by decide) (hK.word kxL_13 rfl) (va_Nw.use rfl (hO.2.2.2.2.2.2.2.2.1 _ nx_cast rfl)) h1 h2 h3 ?_
    refine lv_astore_n (lv' := [(3, _), (0, _), (1, _), (2, _)]) hx hb dL_pack_12 rfl hl (by decide) rfl (fun ls hl_ => ?_)
    refine lv_iconst (v := 1) hx hb dL_pack_13 (by decide) ?_
    exact cs_iret hC hT_ h_ dL_pack_14 (by show 0 + mc ≤ mc; omega) (by show 0 + ms ≤ ms; omega)
  · obtain ⟨hk, hi, h⟩ := h_
    refine lv_i2l (v := r.toInt64) hx hb dL_pack_7 rfl ?_
    refine cs_last hx hb hK hT_ hk hi dL_pack_8 (fun H locs hT_ => ?_)
    refine lv_goto (tgt := 15) hx hb dL_pack_9 (by decide) ?_
    refine lv_iconst (v := 0) hx hb dL_pack_15 (by decide) ?_
    exact cs_iret hC hT_ h dL_pack_16 (by show 0 + mc ≤ mc; omega) (by show 0 + ms ≤ ms; omega)
/-! L_octet -/
abbrev rm_L_octet (mc ms : Nat) : Room := { frames := 7, cells := mc, slots := ms, locals := 103 }
def wp_L_octet (post : Int32 → cs_S → Prop) (G : Nat → Nat) (mc ms : Nat) (S : cs_S) (o : Nat) (p1 : Int32) (ob : Nat) : Prop := cs_k S o = 13 ∧ wp_X11_octet (fun r S1 => cs_k S1 ob = 21 ∧ vp_in 0 (cs_n S1 ob) ∧ post 0 (cs_ual S1 ob 0 r.toInt64)) (fun S1 => post 1 S1) G mc ms S o p1
set_option maxRecDepth 100000 in
set_option maxHeartbeats 4000000 in
theorem c_L_octet {l : Launch} {P : hw_G} {G : Nat → Nat} {S : cs_S} {sz mc ms : Nat} {o : Nat} {p1 : Int32} {ob : Nat} {post : Int32 → cs_S → Prop} (hlx : l.stackTraces = false) (h : wp_L_octet post G mc ms S o p1 ob) : Met l yL_octet [Cond.codeWith yL_octet cL_octet 4 (some .int) [(0, 9, 12, 13)]] (rm_L_octet mc ms) (cs_Pc P G S sz [.ref o, .int p1, .ref ob]) (cs_Qi P (cs_A S sz) post) mc ms (cs_A S sz) := by
  refine cs_metH (by decide) rfl (Nat.le_of_ble_eq_true rfl) ?_
  intro p e s m below meth c ls hC htab hO hT hl
  obtain ⟨hx, hb, hml, hown, hK, -, -⟩ := id hC
  replace hl : lv_has ls 4 [(0, .ref o), (1, .int p1), (2, .ref ob)] := hl
  obtain ⟨hko, h⟩ := h
  refine lv_aload_n hx hb dL_octet_0 rfl (lv_at hl 2 rfl) ?_
  refine lv_iconst (v := 0) hx hb dL_octet_1 (by decide) ?_
  refine lv_aload_n hx hb dL_octet_2 rfl (lv_at hl 0 rfl) ?_
  refine lv_iload_n hx hb dL_octet_3 rfl (lv_at hl 1 rfl) ?_
  refine cs_callix (cs_runVX hx hb hml hown hK hO hT 12 hko (by decide) rfl (c_X11_octet hlx h) rfl rfl klL_29 ki_X11_octet ks_X11_octet kn_X11 kc_X11_octet 1 ⟨rfl, by decide, by decide, by decide +kernel⟩ ⟨Nat.le_of_ble_eq_true rfl, Nat.le_of_ble_eq_true rfl⟩ rfl hl.1 rfl (hw_cat8 (Nat.le_of_ble_eq_true rfl)) ⟨by show 0 + mc ≤ mc; omega, by show 0 + ms ≤ ms; omega⟩ dL_octet_4) hT (fun ce q9 S1 H locs h_ hT_ h1 h2 h3 => ?_) (fun r S1 H locs h_ hT_ => ?_)
  · refine vx_catch (own := RL) (name := nx_E) (E := nx_E) hown [] ⟨0, 9, 12, 13⟩ [] (by rw [htab]; rfl) (fun z hz => by cases hz) (by decide) (by decide) (hK.word kxL_13 rfl) (va_Nw.use rfl (hO.2.2.2.2.2.2.2.2.1 _ nx_cast rfl)) h1 h2 h3 ?_
    refine lv_astore_n (lv' := [(3, _), (0, _), (1, _), (2, _)]) hx hb dL_octet_12 rfl hl (by decide) rfl (fun ls hl_ => ?_)
    refine lv_iconst (v := 1) hx hb dL_octet_13 (by decide) ?_
    exact cs_iret hC hT_ h_ dL_octet_14 (by show 0 + mc ≤ mc; omega) (by show 0 + ms ≤ ms; omega)
  · obtain ⟨hk, hi, h⟩ := h_
    refine lv_i2l (v := r.toInt64) hx hb dL_octet_7 rfl ?_
    refine cs_last hx hb hK hT_ hk hi dL_octet_8 (fun H locs hT_ => ?_)
    refine lv_goto (tgt := 15) hx hb dL_octet_9 (by decide) ?_
    refine lv_iconst (v := 0) hx hb dL_octet_15 (by decide) ?_
    exact cs_iret hC hT_ h dL_octet_16 (by show 0 + mc ≤ mc; omega) (by show 0 + ms ≤ ms; omega)
def lw_feed (Cm Sm : Nat) (xs : Nat → Int32) (G : Nat → Nat) (xo ob : Nat) (i : Nat) (K : cs_S → rf_S → Nat → Nat → Prop) (S : cs_S) (σ : rf_S) (u v : Nat) : Prop := wp_X11_feed (fun r S1 => wp_X12_feed (fun r2 σ1 => r = r2 ∧ K S1 σ1 u v) σ (xs (i + 1)) (xs (i + 2)) (xs (i + 3)) (xs (i + 4)) (xs (i + 5))) G S xo (xs (i + 1)) (xs (i + 2)) (xs (i + 3)) (xs (i + 4)) (xs (i + 5))
def lw_end (Cm Sm : Nat) (xs : Nat → Int32) (G : Nat → Nat) (xo ob : Nat) (i : Nat) (K : cs_S → rf_S → Nat → Nat → Prop) (S : cs_S) (σ : rf_S) (u v : Nat) : Prop := wp_X11_end (fun r S1 => wp_X12_end (fun r2 σ1 => r = r2 ∧ K S1 σ1 u v) σ (xs (i + 1))) G S xo (xs (i + 1))
def lw_rules (Cm Sm : Nat) (xs : Nat → Int32) (G : Nat → Nat) (xo ob : Nat) (i : Nat) (K : cs_S → rf_S → Nat → Nat → Prop) (S : cs_S) (σ : rf_S) (u v : Nat) : Prop := ∃ m n, u + m ≤ Cm ∧ v + n ≤ Sm ∧ wp_X11_rules (fun r S1 => wp_X12_rules (fun r2 σ1 => r = r2 ∧ K S1 σ1 (u + m) (v + n)) σ) G m n S xo
def lw_fault (Cm Sm : Nat) (xs : Nat → Int32) (G : Nat → Nat) (xo ob : Nat) (i : Nat) (K : cs_S → rf_S → Nat → Nat → Prop) (S : cs_S) (σ : rf_S) (u v : Nat) : Prop := wp_X11_fault (fun r S1 => wp_X12_fault (fun r2 σ1 => r = r2 ∧ K S1 σ1 u v) σ) G S xo
def lw_place (Cm Sm : Nat) (xs : Nat → Int32) (G : Nat → Nat) (xo ob : Nat) (i : Nat) (K : cs_S → rf_S → Nat → Nat → Prop) (S : cs_S) (σ : rf_S) (u v : Nat) : Prop := wp_X11_place (fun r S1 => wp_X12_place (fun r2 σ1 => r = r2 ∧ K S1 σ1 u v) σ) G S xo
def lw_take (Cm Sm : Nat) (xs : Nat → Int32) (G : Nat → Nat) (xo ob : Nat) (i : Nat) (K : cs_S → rf_S → Nat → Nat → Prop) (S : cs_S) (σ : rf_S) (u v : Nat) : Prop := ∃ m n, u + m ≤ Cm ∧ v + n ≤ Sm ∧ wp_X11_take (fun r S1 => wp_X12_take (fun r2 σ1 => r = r2 ∧ K S1 σ1 (u + m) (v + n)) σ) G m n S xo
def lw_pass (Cm Sm : Nat) (xs : Nat → Int32) (G : Nat → Nat) (xo ob : Nat) (i : Nat) (K : cs_S → rf_S → Nat → Nat → Prop) (S : cs_S) (σ : rf_S) (u v : Nat) : Prop := ∃ m n, u + m ≤ Cm ∧ v + n ≤ Sm ∧ wp_X11_pass (fun r S1 => wp_X12_pass (fun r2 σ1 => r = r2 ∧ K S1 σ1 (u + m) (v + n)) σ (xs (i + 1))) G m n S xo (xs (i + 1))
def lw_count (Cm Sm : Nat) (xs : Nat → Int32) (G : Nat → Nat) (xo ob : Nat) (i : Nat) (K : cs_S → rf_S → Nat → Nat → Prop) (S : cs_S) (σ : rf_S) (u v : Nat) : Prop := wp_X11_count (fun r S1 => wp_X12_count (fun r2 σ1 => r = r2 ∧ K S1 σ1 u v) σ (xs (i + 1))) G S xo (xs (i + 1))
def lw_alert (Cm Sm : Nat) (xs : Nat → Int32) (G : Nat → Nat) (xo ob : Nat) (i : Nat) (K : cs_S → rf_S → Nat → Nat → Prop) (S : cs_S) (σ : rf_S) (u v : Nat) : Prop := ∃ m n, u + m ≤ Cm ∧ v + n ≤ Sm ∧ wp_L_alert (fun k S1 => wp_X12_alert (fun b σ1 => wp_X12_thrown (fun t σ2 => t = k ∧ (k = 0 → cs_k S1 ob = 21 ∧ vp_in 0 (cs_n S1 ob) ∧ cs_al S1 ob 0 = b.toInt64) ∧ K S1 σ2 (u + m) (v + n)) σ1) σ (xs (i + 1)) (xs (i + 2))) G m n S xo (xs (i + 1)) (xs (i + 2)) ob
def lw_key (Cm Sm : Nat) (xs : Nat → Int32) (G : Nat → Nat) (xo ob : Nat) (i : Nat) (K : cs_S → rf_S → Nat → Nat → Prop) (S : cs_S) (σ : rf_S) (u v : Nat) : Prop := ∃ m n, u + m ≤ Cm ∧ v + n ≤ Sm ∧ wp_L_key (fun k S1 => wp_X12_key (fun b σ1 => wp_X12_thrown (fun t σ2 => t = k ∧ (k = 0 → cs_k S1 ob = 21 ∧ vp_in 0 (cs_n S1 ob) ∧ cs_al S1 ob 0 = b.toInt64) ∧ K S1 σ2 (u + m) (v + n)) σ1) σ (xs (i + 1)) (xs (i + 2)) (xs (i + 3))) G m n S xo (xs (i + 1)) (xs (i + 2)) (xs (i + 3)) ob
def lw_rule (Cm Sm : Nat) (xs : Nat → Int32) (G : Nat → Nat) (xo ob : Nat) (i : Nat) (K : cs_S → rf_S → Nat → Nat → Prop) (S : cs_S) (σ : rf_S) (u v : Nat) : Prop := ∃ m n, u + m ≤ Cm ∧ v + n ≤ Sm ∧ wp_L_rule (fun k S1 => wp_X12_rule_ (fun b σ1 => wp_X12_thrown (fun t σ2 => t = k ∧ (k = 0 → cs_k S1 ob = 21 ∧ vp_in 0 (cs_n S1 ob) ∧ cs_al S1 ob 0 = b.toInt64) ∧ K S1 σ2 (u + m) (v + n)) σ1) σ (xs (i + 1)) (xs (i + 2))) G m n S xo (xs (i + 1)) (xs (i + 2)) ob
def lw_event (Cm Sm : Nat) (xs : Nat → Int32) (G : Nat → Nat) (xo ob : Nat) (i : Nat) (K : cs_S → rf_S → Nat → Nat → Prop) (S : cs_S) (σ : rf_S) (u v : Nat) : Prop := ∃ m n, u + m ≤ Cm ∧ v + n ≤ Sm ∧ wp_L_event (fun k S1 => wp_X12_event (fun b σ1 => wp_X12_thrown (fun t σ2 => t = k ∧ (k = 0 → cs_k S1 ob = 21 ∧ vp_in 0 (cs_n S1 ob) ∧ cs_al S1 ob 0 = b.toInt64) ∧ K S1 σ2 (u + m) (v + n)) σ1) σ (xs (i + 1)) (xs (i + 2))) G m n S xo (xs (i + 1)) (xs (i + 2)) ob
def lw_pack (Cm Sm : Nat) (xs : Nat → Int32) (G : Nat → Nat) (xo ob : Nat) (i : Nat) (K : cs_S → rf_S → Nat → Nat → Prop) (S : cs_S) (σ : rf_S) (u v : Nat) : Prop := ∃ m n, u + m ≤ Cm ∧ v + n ≤ Sm ∧ wp_L_pack (fun k S1 => wp_X12_pack (fun b σ1 => wp_X12_thrown (fun t σ2 => t = k ∧ (k = 0 → cs_k S1 ob = 21 ∧ vp_in 0 (cs_n S1 ob) ∧ cs_al S1 ob 0 = b.toInt64) ∧ K S1 σ2 (u + m) (v + n)) σ1) σ (xs (i + 1))) G m n S xo (xs (i + 1)) ob
def lw_octet (Cm Sm : Nat) (xs : Nat → Int32) (G : Nat → Nat) (xo ob : Nat) (i : Nat) (K : cs_S → rf_S → Nat → Nat → Prop) (S : cs_S) (σ : rf_S) (u v : Nat) : Prop := ∃ m n, u + m ≤ Cm ∧ v + n ≤ Sm ∧ wp_L_octet (fun k S1 => wp_X12_octet (fun b σ1 => wp_X12_thrown (fun t σ2 => t = k ∧ (k = 0 → cs_k S1 ob = 21 ∧ vp_in 0 (cs_n S1 ob) ∧ cs_al S1 ob 0 = b.toInt64) ∧ K S1 σ2 (u + m) (v + n)) σ1) σ (xs (i + 1))) G m n S xo (xs (i + 1)) ob
def lw_turn (Cm Sm : Nat) (xs : Nat → Int32) (G : Nat → Nat) (xo ob : Nat) (i : Nat) (K : cs_S → rf_S → Nat → Nat → Prop) (S : cs_S) (σ : rf_S) (u v : Nat) : Prop := ((xs i &&& 15).toInt = 0 → lw_feed Cm Sm xs G xo ob i K S σ u v) ∧ ((xs i &&& 15).toInt = 1 → lw_end Cm Sm xs G xo ob i K S σ u v) ∧ ((xs i &&& 15).toInt = 2 → lw_rules Cm Sm xs G xo ob i K S σ u v) ∧ ((xs i &&& 15).toInt = 3 → lw_fault Cm Sm xs G xo ob i K S σ u v) ∧ ((xs i &&& 15).toInt = 4 → lw_place Cm Sm xs G xo ob i K S σ u v) ∧ ((xs i &&& 15).toInt = 5 → lw_take Cm Sm xs G xo ob i K S σ u v) ∧ ((xs i &&& 15).toInt = 6 → lw_pass Cm Sm xs G xo ob i K S σ u v) ∧ ((xs i &&& 15).toInt = 7 → lw_count Cm Sm xs G xo ob i K S σ u v) ∧ ((xs i &&& 15).toInt = 8 → lw_alert Cm Sm xs G xo ob i K S σ u v) ∧ ((xs i &&& 15).toInt = 9 → lw_key Cm Sm xs G xo ob i K S σ u v) ∧ ((xs i &&& 15).toInt = 10 → lw_rule Cm Sm xs G xo ob i K S σ u v) ∧ ((xs i &&& 15).toInt = 11 → lw_event Cm Sm xs G xo ob i K S σ u v) ∧ ((xs i &&& 15).toInt = 12 → lw_pack Cm Sm xs G xo ob i K S σ u v) ∧ ((xs i &&& 15).toInt = 13 → lw_octet Cm Sm xs G xo ob i K S σ u v) ∧ ((xs i &&& 15).toInt < 0 ∨ 13 < (xs i &&& 15).toInt → K S σ u v)
theorem lw_cmp0 (x : Int64) : lg_cmp x x = 0 := by simp [lg_cmp]
section LAWW
variable {p : Program} {l : Launch} {e : Env} {s : State} {m : MethodId} {below : List Frame} {meth : Method} {c : Code} {b L : Nat} {xs : Nat → Int32} {P : hw_G} {G : Nat → Nat} {mo : Nat} {ad : Nat → Nat} {xo ob : Nat} {args : Array Value} {Q : State → Prop} {S : cs_S} {σ : rf_S} {u v : Nat} {H : Heap} {locs : List Loc} {ls : Array Slot}
/-- what holds all through the law -/
def lw_C (P : hw_G) (G : Nat → Nat) (l : Launch) (p : Program) (s : State) (m : MethodId) (c : Code) (b L : Nat) (xs : Nat → Int32) : Prop := p.tables.exec = Jvm.exec ∧ c.code = cL_law ∧ c.maxLocals = 7 ∧ s.vm.findClass RL = some m.cls ∧ hw_K P s ∧ cs_O G (fun q => s.heap.size ≤ q) s s.heap ∧ va_X b L xs s s.heap ∧ b < s.heap.size ∧ l.stackTraces = false ∧ L ≤ 3072
theorem lw_ad (i j : Nat) : nI i + nI j = nI (i + j) := (Int32.ofNat_add i j).symm
set_option maxRecDepth 100000 in
set_option maxHeartbeats 4000000 in
theorem t_law_feed (hC : lw_C P G l p s m c b L xs) {i : Nat} (hi : i + 6 ≤ L) {K : cs_S → rf_S → Nat → Nat → Prop} (kk : ∀ (u v : Nat) (S : cs_S) (σ : rf_S) (H : Heap) (locs : List Loc) (ls : Array Slot), K S σ u v → u ≤ room_1.cells → v ≤ room_1.slots → cs_T P s (fun q => s.heap.size ≤ q) S H locs → lj_J P (fun q => s.heap.size ≤ q) mo ad σ S H → lv_has ls 7 [(0, .ref b), (1, .ref xo), (2, .ref mo), (3, .ref ob), (4, .int (nI i))] → W p l e room_1 s m args below meth c H locs u v Q (F0 m 708 ls []))
    (h : lw_feed room_1.cells room_1.slots xs G xo ob i K S σ u v) (hko : cs_k S xo = 13) (hu : u ≤ room_1.cells) (hv : v ≤ room_1.slots) (hT : cs_T P s (fun q => s.heap.size ≤ q) S H locs) (hJ : lj_J P (fun q => s.heap.size ≤ q) mo ad σ S H) (hl : lv_has ls 7 [(0, .ref b), (1, .ref xo), (2, .ref mo), (3, .ref ob), (4, .int (nI i))]) : W p l e room_1 s m args below meth c H locs u v Q (F0 m 112 ls []) := by
  obtain ⟨hx, hb, hml, hown, hK, hO, hX, hbl, hlx, hL⟩ := id hC
  have hbA : ¬ (fun q : Nat => s.heap.size ≤ q) b := Nat.not_le.mpr hbl
  unfold lw_feed at h
  refine lv_aload_n hx hb dL_law_112 rfl (lv_at hl 1 rfl) ?_
  refine lv_aload_n hx hb dL_law_113 rfl (lv_at hl 0 rfl) ?_
  refine lv_iload hx hb dL_law_114 (lv_at hl 4 rfl) ?_
  refine lv_iconst (v := nI 1) hx hb dL_law_116 (by decide) ?_
  refine lv_iadd hx hb dL_law_117 ?_
  rw [lw_ad]
  refine va_sld hx hb hX hbl hbA hT.1 (nI_in (by omega : i + 1 < L) (by omega)) dL_law_118 ?_
  rw [nI_clamp (by omega : i + 1 < 2 ^ 31)]
  refine lv_aload_n hx hb dL_law_119 rfl (lv_at hl 0 rfl) ?_
  refine lv_iload hx hb dL_law_120 (lv_at hl 4 rfl) ?_
  refine lv_iconst (v := nI 2) hx hb dL_law_122 (by decide) ?_
  refine lv_iadd hx hb dL_law_123 ?_
  rw [lw_ad]
  refine va_sld hx hb hX hbl hbA hT.1 (nI_in (by omega : i + 2 < L) (by omega)) dL_law_124 ?_
  rw [nI_clamp (by omega : i + 2 < 2 ^ 31)]
  refine lv_aload_n hx hb dL_law_125 rfl (lv_at hl 0 rfl) ?_
  refine lv_iload hx hb dL_law_126 (lv_at hl 4 rfl) ?_
  refine lv_iconst (v := nI 3) hx hb dL_law_128 (by decide) ?_
  refine lv_iadd hx hb dL_law_129 ?_
  rw [lw_ad]
  refine va_sld hx hb hX hbl hbA hT.1 (nI_in (by omega : i + 3 < L) (by omega)) dL_law_130 ?_
  rw [nI_clamp (by omega : i + 3 < 2 ^ 31)]
  refine lv_aload_n hx hb dL_law_131 rfl (lv_at hl 0 rfl) ?_
  refine lv_iload hx hb dL_law_132 (lv_at hl 4 rfl) ?_
  refine lv_iconst (v := nI 4) hx hb dL_law_134 (by decide) ?_
  refine lv_iadd hx hb dL_law_135 ?_
  rw [lw_ad]
  refine va_sld hx hb hX hbl hbA hT.1 (nI_in (by omega : i + 4 < L) (by omega)) dL_law_136 ?_
  rw [nI_clamp (by omega : i + 4 < 2 ^ 31)]
  refine lv_aload_n hx hb dL_law_137 rfl (lv_at hl 0 rfl) ?_
  refine lv_iload hx hb dL_law_138 (lv_at hl 4 rfl) ?_
  refine lv_iconst (v := nI 5) hx hb dL_law_140 (by decide) ?_
  refine lv_iadd hx hb dL_law_141 ?_
  rw [lw_ad]
  refine va_sld hx hb hX hbl hbA hT.1 (nI_in (by omega : i + 5 < L) (by omega)) dL_law_142 ?_
  rw [nI_clamp (by omega : i + 5 < 2 ^ 31)]
  refine lj_ci0 (cs_runV hx hb hml hown hK hO hT 12 hko (by decide) rfl (c_X11_feed h) rfl rfl klL_36 ki_X11_feed ks_X11_feed kn_X11 kc_X11_feed 5 ⟨rfl, by decide, by decide, by decide +kernel⟩ ⟨Nat.le_of_ble_eq_true rfl, Nat.le_of_ble_eq_true rfl⟩ rfl hl.1 rfl (hw_cat8 (Nat.le_of_ble_eq_true rfl)) ⟨hu, hv⟩ dL_law_143) hT hJ (fun r S1 H locs h_ hT_ hJ_ => ?_)
  replace h := h_
  replace hT := hT_
  replace hJ := hJ_
  refine lv_aload_n hx hb dL_law_146 rfl (lv_at hl 2 rfl) ?_
  refine lv_aload_n hx hb dL_law_147 rfl (lv_at hl 0 rfl) ?_
  refine lv_iload hx hb dL_law_148 (lv_at hl 4 rfl) ?_
  refine lv_iconst (v := nI 1) hx hb dL_law_150 (by decide) ?_
  refine lv_iadd hx hb dL_law_151 ?_
  rw [lw_ad]
  refine va_sld hx hb hX hbl hbA hT.1 (nI_in (by omega : i + 1 < L) (by omega)) dL_law_152 ?_
  rw [nI_clamp (by omega : i + 1 < 2 ^ 31)]
  refine lv_aload_n hx hb dL_law_153 rfl (lv_at hl 0 rfl) ?_
  refine lv_iload hx hb dL_law_154 (lv_at hl 4 rfl) ?_
  refine lv_iconst (v := nI 2) hx hb dL_law_156 (by decide) ?_
  refine lv_iadd hx hb dL_law_157 ?_
  rw [lw_ad]
  refine va_sld hx hb hX hbl hbA hT.1 (nI_in (by omega : i + 2 < L) (by omega)) dL_law_158 ?_
  rw [nI_clamp (by omega : i + 2 < 2 ^ 31)]
  refine lv_aload_n hx hb dL_law_159 rfl (lv_at hl 0 rfl) ?_
  refine lv_iload hx hb dL_law_160 (lv_at hl 4 rfl) ?_
  refine lv_iconst (v := nI 3) hx hb dL_law_162 (by decide) ?_
  refine lv_iadd hx hb dL_law_163 ?_
  rw [lw_ad]
  refine va_sld hx hb hX hbl hbA hT.1 (nI_in (by omega : i + 3 < L) (by omega)) dL_law_164 ?_
  rw [nI_clamp (by omega : i + 3 < 2 ^ 31)]
  refine lv_aload_n hx hb dL_law_165 rfl (lv_at hl 0 rfl) ?_
  refine lv_iload hx hb dL_law_166 (lv_at hl 4 rfl) ?_
  refine lv_iconst (v := nI 4) hx hb dL_law_168 (by decide) ?_
  refine lv_iadd hx hb dL_law_169 ?_
  rw [lw_ad]
  refine va_sld hx hb hX hbl hbA hT.1 (nI_in (by omega : i + 4 < L) (by omega)) dL_law_170 ?_
  rw [nI_clamp (by omega : i + 4 < 2 ^ 31)]
  refine lv_aload_n hx hb dL_law_171 rfl (lv_at hl 0 rfl) ?_
  refine lv_iload hx hb dL_law_172 (lv_at hl 4 rfl) ?_
  refine lv_iconst (v := nI 5) hx hb dL_law_174 (by decide) ?_
  refine lv_iadd hx hb dL_law_175 ?_
  rw [lw_ad]
  refine va_sld hx hb hX hbl hbA hT.1 (nI_in (by omega : i + 5 < L) (by omega)) dL_law_176 ?_
  rw [nI_clamp (by omega : i + 5 < 2 ^ 31)]
  refine lj_ri (lj_runR hx hb hml hown hK (hJ.T hT) (c_X12_feed h) rfl rfl klL_40 ki_X12_feed ks_X12_feed kn_X12 kc_X12_feed 5 ⟨rfl, by decide, by decide, by decide +kernel⟩ ⟨Nat.le_of_ble_eq_true rfl, Nat.le_of_ble_eq_true rfl⟩ rfl hl.1 rfl (hw_cat8 (Nat.le_of_ble_eq_true rfl)) ⟨hu, hv⟩ dL_law_177) hT hJ (fun r2 σ1 H locs h_ hT_ hJ_ => ?_)
  replace h := h_
  replace hT := hT_
  replace hJ := hJ_
  obtain ⟨he, h⟩ := h
  refine lv_icmp_eq (tgt := 708) hx hb dL_law_180 (by decide) (fun hc => ?_) (fun hc => absurd he hc)
  replace hl : lv_has ls 7 [(0, .ref b), (1, .ref xo), (2, .ref mo), (3, .ref ob), (4, .int (nI i))] := hl
  exact kk u v S1 σ1 H locs ls h hu hv hT hJ hl
set_option maxRecDepth 100000 in
set_option maxHeartbeats 4000000 in
theorem t_law_end (hC : lw_C P G l p s m c b L xs) {i : Nat} (hi : i + 6 ≤ L) {K : cs_S → rf_S → Nat → Nat → Prop} (kk : ∀ (u v : Nat) (S : cs_S) (σ : rf_S) (H : Heap) (locs : List Loc) (ls : Array Slot), K S σ u v → u ≤ room_1.cells → v ≤ room_1.slots → cs_T P s (fun q => s.heap.size ≤ q) S H locs → lj_J P (fun q => s.heap.size ≤ q) mo ad σ S H → lv_has ls 7 [(0, .ref b), (1, .ref xo), (2, .ref mo), (3, .ref ob), (4, .int (nI i))] → W p l e room_1 s m args below meth c H locs u v Q (F0 m 708 ls []))
    (h : lw_end room_1.cells room_1.slots xs G xo ob i K S σ u v) (hko : cs_k S xo = 13) (hu : u ≤ room_1.cells) (hv : v ≤ room_1.slots) (hT : cs_T P s (fun q => s.heap.size ≤ q) S H locs) (hJ : lj_J P (fun q => s.heap.size ≤ q) mo ad σ S H) (hl : lv_has ls 7 [(0, .ref b), (1, .ref xo), (2, .ref mo), (3, .ref ob), (4, .int (nI i))]) : W p l e room_1 s m args below meth c H locs u v Q (F0 m 185 ls []) := by
  obtain ⟨hx, hb, hml, hown, hK, hO, hX, hbl, hlx, hL⟩ := id hC
  have hbA : ¬ (fun q : Nat => s.heap.size ≤ q) b := Nat.not_le.mpr hbl
  unfold lw_end at h
  refine lv_aload_n hx hb dL_law_185 rfl (lv_at hl 1 rfl) ?_
  refine lv_aload_n hx hb dL_law_186 rfl (lv_at hl 0 rfl) ?_
  refine lv_iload hx hb dL_law_187 (lv_at hl 4 rfl) ?_
  refine lv_iconst (v := nI 1) hx hb dL_law_189 (by decide) ?_
  refine lv_iadd hx hb dL_law_190 ?_
  rw [lw_ad]
  refine va_sld hx hb hX hbl hbA hT.1 (nI_in (by omega : i + 1 < L) (by omega)) dL_law_191 ?_
  rw [nI_clamp (by omega : i + 1 < 2 ^ 31)]
  refine lj_ci0 (cs_runV hx hb hml hown hK hO hT 12 hko (by decide) rfl (c_X11_end h) rfl rfl klL_41 ki_X11_end ks_X11_end kn_X11 kc_X11_end 1 ⟨rfl, by decide, by decide, by decide +kernel⟩ ⟨Nat.le_of_ble_eq_true rfl, Nat.le_of_ble_eq_true rfl⟩ rfl hl.1 rfl (hw_cat8 (Nat.le_of_ble_eq_true rfl)) ⟨hu, hv⟩ dL_law_192) hT hJ (fun r S1 H locs h_ hT_ hJ_ => ?_)
  replace h := h_
  replace hT := hT_
  replace hJ := hJ_
  refine lv_aload_n hx hb dL_law_195 rfl (lv_at hl 2 rfl) ?_
  refine lv_aload_n hx hb dL_law_196 rfl (lv_at hl 0 rfl) ?_
  refine lv_iload hx hb dL_law_197 (lv_at hl 4 rfl) ?_
  refine lv_iconst (v := nI 1) hx hb dL_law_199 (by decide) ?_
  refine lv_iadd hx hb dL_law_200 ?_
  rw [lw_ad]
  refine va_sld hx hb hX hbl hbA hT.1 (nI_in (by omega : i + 1 < L) (by omega)) dL_law_201 ?_
  rw [nI_clamp (by omega : i + 1 < 2 ^ 31)]
  refine lj_ri (lj_runR hx hb hml hown hK (hJ.T hT) (c_X12_end h) rfl rfl klL_45 ki_X12_end ks_X12_end kn_X12 kc_X12_end 1 ⟨rfl, by decide, by decide, by decide +kernel⟩ ⟨Nat.le_of_ble_eq_true rfl, Nat.le_of_ble_eq_true rfl⟩ rfl hl.1 rfl (hw_cat8 (Nat.le_of_ble_eq_true rfl)) ⟨hu, hv⟩ dL_law_202) hT hJ (fun r2 σ1 H locs h_ hT_ hJ_ => ?_)
  replace h := h_
  replace hT := hT_
  replace hJ := hJ_
  obtain ⟨he, h⟩ := h
  refine lv_icmp_eq (tgt := 708) hx hb dL_law_205 (by decide) (fun hc => ?_) (fun hc => absurd he hc)
  replace hl : lv_has ls 7 [(0, .ref b), (1, .ref xo), (2, .ref mo), (3, .ref ob), (4, .int (nI i))] := hl
  exact kk u v S1 σ1 H locs ls h hu hv hT hJ hl
set_option maxRecDepth 100000 in
set_option maxHeartbeats 4000000 in
theorem t_law_rules (hC : lw_C P G l p s m c b L xs) {i : Nat} (hi : i + 6 ≤ L) {K : cs_S → rf_S → Nat → Nat → Prop} (kk : ∀ (u v : Nat) (S : cs_S) (σ : rf_S) (H : Heap) (locs : List Loc) (ls : Array Slot), K S σ u v → u ≤ room_1.cells → v ≤ room_1.slots → cs_T P s (fun q => s.heap.size ≤ q) S H locs → lj_J P (fun q => s.heap.size ≤ q) mo ad σ S H → lv_has ls 7 [(0, .ref b), (1, .ref xo), (2, .ref mo), (3, .ref ob), (4, .int (nI i))] → W p l e room_1 s m args below meth c H locs u v Q (F0 m 708 ls []))
    (h : lw_rules room_1.cells room_1.slots xs G xo ob i K S σ u v) (hko : cs_k S xo = 13) (hu : u ≤ room_1.cells) (hv : v ≤ room_1.slots) (hT : cs_T P s (fun q => s.heap.size ≤ q) S H locs) (hJ : lj_J P (fun q => s.heap.size ≤ q) mo ad σ S H) (hl : lv_has ls 7 [(0, .ref b), (1, .ref xo), (2, .ref mo), (3, .ref ob), (4, .int (nI i))]) : W p l e room_1 s m args below meth c H locs u v Q (F0 m 210 ls []) := by
  obtain ⟨hx, hb, hml, hown, hK, hO, hX, hbl, hlx, hL⟩ := id hC
  have hbA : ¬ (fun q : Nat => s.heap.size ≤ q) b := Nat.not_le.mpr hbl
  unfold lw_rules at h
  obtain ⟨m1, n1, hu1, hv1, h⟩ := h
  refine lv_aload_n hx hb dL_law_210 rfl (lv_at hl 1 rfl) ?_
  refine lj_ci (cs_runV hx hb hml hown hK hO hT 12 hko (by decide) rfl (c_X11_rules h) rfl rfl klL_46 ki_X11_rules ks_X11_rules kn_X11 kc_X11_rules 0 ⟨rfl, by decide, by decide, by decide +kernel⟩ ⟨Nat.le_of_ble_eq_true rfl, Nat.le_of_ble_eq_true rfl⟩ rfl hl.1 rfl (hw_cat8 (Nat.le_of_ble_eq_true rfl)) ⟨hu1, hv1⟩ dL_law_211) hT hJ (fun r S1 H locs h_ hT_ hJ_ => ?_)
  replace h := h_
  replace hT := hT_
  replace hJ := hJ_
  refine lv_aload_n hx hb dL_law_214 rfl (lv_at hl 2 rfl) ?_
  refine lj_ri (lj_runR hx hb hml hown hK (hJ.T hT) (c_X12_rules h) rfl rfl klL_50 ki_X12_rules ks_X12_rules kn_X12 kc_X12_rules 0 ⟨rfl, by decide, by decide, by decide +kernel⟩ ⟨Nat.le_of_ble_eq_true rfl, Nat.le_of_ble_eq_true rfl⟩ rfl hl.1 rfl (hw_cat8 (Nat.le_of_ble_eq_true rfl)) ⟨hu1, hv1⟩ dL_law_215) hT hJ (fun r2 σ1 H locs h_ hT_ hJ_ => ?_)
  replace h := h_
  replace hT := hT_
  replace hJ := hJ_
  obtain ⟨he, h⟩ := h
  refine lv_icmp_eq (tgt := 708) hx hb dL_law_218 (by decide) (fun hc => ?_) (fun hc => absurd he hc)
  replace hl : lv_has ls 7 [(0, .ref b), (1, .ref xo), (2, .ref mo), (3, .ref ob), (4, .int (nI i))] := hl
  exact kk (u + m1) (v + n1) S1 σ1 H locs ls h hu1 hv1 hT hJ hl
set_option maxRecDepth 100000 in
set_option maxHeartbeats 4000000 in
theorem t_law_fault (hC : lw_C P G l p s m c b L xs) {i : Nat} (hi : i + 6 ≤ L) {K : cs_S → rf_S → Nat → Nat → Prop} (kk : ∀ (u v : Nat) (S : cs_S) (σ : rf_S) (H : Heap) (locs : List Loc) (ls : Array Slot), K S σ u v → u ≤ room_1.cells → v ≤ room_1.slots → cs_T P s (fun q => s.heap.size ≤ q) S H locs → lj_J P (fun q => s.heap.size ≤ q) mo ad σ S H → lv_has ls 7 [(0, .ref b), (1, .ref xo), (2, .ref mo), (3, .ref ob), (4, .int (nI i))] → W p l e room_1 s m args below meth c H locs u v Q (F0 m 708 ls []))
    (h : lw_fault room_1.cells room_1.slots xs G xo ob i K S σ u v) (hko : cs_k S xo = 13) (hu : u ≤ room_1.cells) (hv : v ≤ room_1.slots) (hT : cs_T P s (fun q => s.heap.size ≤ q) S H locs) (hJ : lj_J P (fun q => s.heap.size ≤ q) mo ad σ S H) (hl : lv_has ls 7 [(0, .ref b), (1, .ref xo), (2, .ref mo), (3, .ref ob), (4, .int (nI i))]) : W p l e room_1 s m args below meth c H locs u v Q (F0 m 223 ls []) := by
  obtain ⟨hx, hb, hml, hown, hK, hO, hX, hbl, hlx, hL⟩ := id hC
  have hbA : ¬ (fun q : Nat => s.heap.size ≤ q) b := Nat.not_le.mpr hbl
  unfold lw_fault at h
  refine lv_aload_n hx hb dL_law_223 rfl (lv_at hl 1 rfl) ?_
  refine lj_ci0 (cs_runV hx hb hml hown hK hO hT 12 hko (by decide) rfl (c_X11_fault h) rfl rfl klL_51 ki_X11_fault ks_X11_fault kn_X11 kc_X11_fault 0 ⟨rfl, by decide, by decide, by decide +kernel⟩ ⟨Nat.le_of_ble_eq_true rfl, Nat.le_of_ble_eq_true rfl⟩ rfl hl.1 rfl (hw_cat8 (Nat.le_of_ble_eq_true rfl)) ⟨hu, hv⟩ dL_law_224) hT hJ (fun r S1 H locs h_ hT_ hJ_ => ?_)
  replace h := h_
  replace hT := hT_
  replace hJ := hJ_
  refine lv_aload_n hx hb dL_law_227 rfl (lv_at hl 2 rfl) ?_
  refine lj_ri (lj_runR hx hb hml hown hK (hJ.T hT) (c_X12_fault h) rfl rfl klL_54 ki_X12_fault ks_X12_fault kn_X12 kc_X12_fault 0 ⟨rfl, by decide, by decide, by decide +kernel⟩ ⟨Nat.le_of_ble_eq_true rfl, Nat.le_of_ble_eq_true rfl⟩ rfl hl.1 rfl (hw_cat8 (Nat.le_of_ble_eq_true rfl)) ⟨hu, hv⟩ dL_law_228) hT hJ (fun r2 σ1 H locs h_ hT_ hJ_ => ?_)
  replace h := h_
  replace hT := hT_
  replace hJ := hJ_
  obtain ⟨he, h⟩ := h
  refine lv_icmp_eq (tgt := 708) hx hb dL_law_231 (by decide) (fun hc => ?_) (fun hc => absurd he hc)
  replace hl : lv_has ls 7 [(0, .ref b), (1, .ref xo), (2, .ref mo), (3, .ref ob), (4, .int (nI i))] := hl
  exact kk u v S1 σ1 H locs ls h hu hv hT hJ hl
set_option maxRecDepth 100000 in
set_option maxHeartbeats 4000000 in
theorem t_law_place (hC : lw_C P G l p s m c b L xs) {i : Nat} (hi : i + 6 ≤ L) {K : cs_S → rf_S → Nat → Nat → Prop} (kk : ∀ (u v : Nat) (S : cs_S) (σ : rf_S) (H : Heap) (locs : List Loc) (ls : Array Slot), K S σ u v → u ≤ room_1.cells → v ≤ room_1.slots → cs_T P s (fun q => s.heap.size ≤ q) S H locs → lj_J P (fun q => s.heap.size ≤ q) mo ad σ S H → lv_has ls 7 [(0, .ref b), (1, .ref xo), (2, .ref mo), (3, .ref ob), (4, .int (nI i))] → W p l e room_1 s m args below meth c H locs u v Q (F0 m 708 ls []))
    (h : lw_place room_1.cells room_1.slots xs G xo ob i K S σ u v) (hko : cs_k S xo = 13) (hu : u ≤ room_1.cells) (hv : v ≤ room_1.slots) (hT : cs_T P s (fun q => s.heap.size ≤ q) S H locs) (hJ : lj_J P (fun q => s.heap.size ≤ q) mo ad σ S H) (hl : lv_has ls 7 [(0, .ref b), (1, .ref xo), (2, .ref mo), (3, .ref ob), (4, .int (nI i))]) : W p l e room_1 s m args below meth c H locs u v Q (F0 m 236 ls []) := by
  obtain ⟨hx, hb, hml, hown, hK, hO, hX, hbl, hlx, hL⟩ := id hC
  have hbA : ¬ (fun q : Nat => s.heap.size ≤ q) b := Nat.not_le.mpr hbl
  unfold lw_place at h
  refine lv_aload_n hx hb dL_law_236 rfl (lv_at hl 1 rfl) ?_
  refine lj_ci0 (cs_runV hx hb hml hown hK hO hT 12 hko (by decide) rfl (c_X11_place h) rfl rfl klL_55 ki_X11_place ks_X11_place kn_X11 kc_X11_place 0 ⟨rfl, by decide, by decide, by decide +kernel⟩ ⟨Nat.le_of_ble_eq_true rfl, Nat.le_of_ble_eq_true rfl⟩ rfl hl.1 rfl (hw_cat8 (Nat.le_of_ble_eq_true rfl)) ⟨hu, hv⟩ dL_law_237) hT hJ (fun r S1 H locs h_ hT_ hJ_ => ?_)
  replace h := h_
  replace hT := hT_
  replace hJ := hJ_
  refine lv_aload_n hx hb dL_law_240 rfl (lv_at hl 2 rfl) ?_
  refine lj_ri (lj_runR hx hb hml hown hK (hJ.T hT) (c_X12_place h) rfl rfl klL_58 ki_X12_place ks_X12_place kn_X12 kc_X12_place 0 ⟨rfl, by decide, by decide, by decide +kernel⟩ ⟨Nat.le_of_ble_eq_true rfl, Nat.le_of_ble_eq_true rfl⟩ rfl hl.1 rfl (hw_cat8 (Nat.le_of_ble_eq_true rfl)) ⟨hu, hv⟩ dL_law_241) hT hJ (fun r2 σ1 H locs h_ hT_ hJ_ => ?_)
  replace h := h_
  replace hT := hT_
  replace hJ := hJ_
  obtain ⟨he, h⟩ := h
  refine lv_icmp_eq (tgt := 708) hx hb dL_law_244 (by decide) (fun hc => ?_) (fun hc => absurd he hc)
  replace hl : lv_has ls 7 [(0, .ref b), (1, .ref xo), (2, .ref mo), (3, .ref ob), (4, .int (nI i))] := hl
  exact kk u v S1 σ1 H locs ls h hu hv hT hJ hl
set_option maxRecDepth 100000 in
set_option maxHeartbeats 4000000 in
theorem t_law_take (hC : lw_C P G l p s m c b L xs) {i : Nat} (hi : i + 6 ≤ L) {K : cs_S → rf_S → Nat → Nat → Prop} (kk : ∀ (u v : Nat) (S : cs_S) (σ : rf_S) (H : Heap) (locs : List Loc) (ls : Array Slot), K S σ u v → u ≤ room_1.cells → v ≤ room_1.slots → cs_T P s (fun q => s.heap.size ≤ q) S H locs → lj_J P (fun q => s.heap.size ≤ q) mo ad σ S H → lv_has ls 7 [(0, .ref b), (1, .ref xo), (2, .ref mo), (3, .ref ob), (4, .int (nI i))] → W p l e room_1 s m args below meth c H locs u v Q (F0 m 708 ls []))
    (h : lw_take room_1.cells room_1.slots xs G xo ob i K S σ u v) (hko : cs_k S xo = 13) (hu : u ≤ room_1.cells) (hv : v ≤ room_1.slots) (hT : cs_T P s (fun q => s.heap.size ≤ q) S H locs) (hJ : lj_J P (fun q => s.heap.size ≤ q) mo ad σ S H) (hl : lv_has ls 7 [(0, .ref b), (1, .ref xo), (2, .ref mo), (3, .ref ob), (4, .int (nI i))]) : W p l e room_1 s m args below meth c H locs u v Q (F0 m 249 ls []) := by
  obtain ⟨hx, hb, hml, hown, hK, hO, hX, hbl, hlx, hL⟩ := id hC
  have hbA : ¬ (fun q : Nat => s.heap.size ≤ q) b := Nat.not_le.mpr hbl
  unfold lw_take at h
  obtain ⟨m1, n1, hu1, hv1, h⟩ := h
  refine lv_aload_n hx hb dL_law_249 rfl (lv_at hl 1 rfl) ?_
  refine lj_ci (cs_runV hx hb hml hown hK hO hT 12 hko (by decide) rfl (c_X11_take h) rfl rfl klL_59 ki_X11_take ks_X11_take kn_X11 kc_X11_take 0 ⟨rfl, by decide, by decide, by decide +kernel⟩ ⟨Nat.le_of_ble_eq_true rfl, Nat.le_of_ble_eq_true rfl⟩ rfl hl.1 rfl (hw_cat8 (Nat.le_of_ble_eq_true rfl)) ⟨hu1, hv1⟩ dL_law_250) hT hJ (fun r S1 H locs h_ hT_ hJ_ => ?_)
  replace h := h_
  replace hT := hT_
  replace hJ := hJ_
  refine lv_aload_n hx hb dL_law_253 rfl (lv_at hl 2 rfl) ?_
  refine lj_ri (lj_runR hx hb hml hown hK (hJ.T hT) (c_X12_take h) rfl rfl klL_62 ki_X12_take ks_X12_take kn_X12 kc_X12_take 0 ⟨rfl, by decide, by decide, by decide +kernel⟩ ⟨Nat.le_of_ble_eq_true rfl, Nat.le_of_ble_eq_true rfl⟩ rfl hl.1 rfl (hw_cat8 (Nat.le_of_ble_eq_true rfl)) ⟨hu1, hv1⟩ dL_law_254) hT hJ (fun r2 σ1 H locs h_ hT_ hJ_ => ?_)
  replace h := h_
  replace hT := hT_
  replace hJ := hJ_
  obtain ⟨he, h⟩ := h
  refine lv_icmp_eq (tgt := 708) hx hb dL_law_257 (by decide) (fun hc => ?_) (fun hc => absurd he hc)
  replace hl : lv_has ls 7 [(0, .ref b), (1, .ref xo), (2, .ref mo), (3, .ref ob), (4, .int (nI i))] := hl
  exact kk (u + m1) (v + n1) S1 σ1 H locs ls h hu1 hv1 hT hJ hl
set_option maxRecDepth 100000 in
set_option maxHeartbeats 4000000 in
theorem t_law_pass (hC : lw_C P G l p s m c b L xs) {i : Nat} (hi : i + 6 ≤ L) {K : cs_S → rf_S → Nat → Nat → Prop} (kk : ∀ (u v : Nat) (S : cs_S) (σ : rf_S) (H : Heap) (locs : List Loc) (ls : Array Slot), K S σ u v → u ≤ room_1.cells → v ≤ room_1.slots → cs_T P s (fun q => s.heap.size ≤ q) S H locs → lj_J P (fun q => s.heap.size ≤ q) mo ad σ S H → lv_has ls 7 [(0, .ref b), (1, .ref xo), (2, .ref mo), (3, .ref ob), (4, .int (nI i))] → W p l e room_1 s m args below meth c H locs u v Q (F0 m 708 ls []))
    (h : lw_pass room_1.cells room_1.slots xs G xo ob i K S σ u v) (hko : cs_k S xo = 13) (hu : u ≤ room_1.cells) (hv : v ≤ room_1.slots) (hT : cs_T P s (fun q => s.heap.size ≤ q) S H locs) (hJ : lj_J P (fun q => s.heap.size ≤ q) mo ad σ S H) (hl : lv_has ls 7 [(0, .ref b), (1, .ref xo), (2, .ref mo), (3, .ref ob), (4, .int (nI i))]) : W p l e room_1 s m args below meth c H locs u v Q (F0 m 262 ls []) := by
  obtain ⟨hx, hb, hml, hown, hK, hO, hX, hbl, hlx, hL⟩ := id hC
  have hbA : ¬ (fun q : Nat => s.heap.size ≤ q) b := Nat.not_le.mpr hbl
  unfold lw_pass at h
  obtain ⟨m1, n1, hu1, hv1, h⟩ := h
  refine lv_aload_n hx hb dL_law_262 rfl (lv_at hl 1 rfl) ?_
  refine lv_aload_n hx hb dL_law_263 rfl (lv_at hl 0 rfl) ?_
  refine lv_iload hx hb dL_law_264 (lv_at hl 4 rfl) ?_
  refine lv_iconst (v := nI 1) hx hb dL_law_266 (by decide) ?_
  refine lv_iadd hx hb dL_law_267 ?_
  rw [lw_ad]
  refine va_sld hx hb hX hbl hbA hT.1 (nI_in (by omega : i + 1 < L) (by omega)) dL_law_268 ?_
  rw [nI_clamp (by omega : i + 1 < 2 ^ 31)]
  refine lj_ci (cs_runV hx hb hml hown hK hO hT 12 hko (by decide) rfl (c_X11_pass h) rfl rfl klL_63 ki_X11_pass ks_X11_pass kn_X11 kc_X11_pass 1 ⟨rfl, by decide, by decide, by decide +kernel⟩ ⟨Nat.le_of_ble_eq_true rfl, Nat.le_of_ble_eq_true rfl⟩ rfl hl.1 rfl (hw_cat8 (Nat.le_of_ble_eq_true rfl)) ⟨hu1, hv1⟩ dL_law_269) hT hJ (fun r S1 H locs h_ hT_ hJ_ => ?_)
  replace h := h_
  replace hT := hT_
  replace hJ := hJ_
  refine lv_aload_n hx hb dL_law_272 rfl (lv_at hl 2 rfl) ?_
  refine lv_aload_n hx hb dL_law_273 rfl (lv_at hl 0 rfl) ?_
  refine lv_iload hx hb dL_law_274 (lv_at hl 4 rfl) ?_
  refine lv_iconst (v := nI 1) hx hb dL_law_276 (by decide) ?_
  refine lv_iadd hx hb dL_law_277 ?_
  rw [lw_ad]
  refine va_sld hx hb hX hbl hbA hT.1 (nI_in (by omega : i + 1 < L) (by omega)) dL_law_278 ?_
  rw [nI_clamp (by omega : i + 1 < 2 ^ 31)]
  refine lj_ri (lj_runR hx hb hml hown hK (hJ.T hT) (c_X12_pass h) rfl rfl klL_66 ki_X12_pass ks_X12_pass kn_X12 kc_X12_pass 1 ⟨rfl, by decide, by decide, by decide +kernel⟩ ⟨Nat.le_of_ble_eq_true rfl, Nat.le_of_ble_eq_true rfl⟩ rfl hl.1 rfl (hw_cat8 (Nat.le_of_ble_eq_true rfl)) ⟨hu1, hv1⟩ dL_law_279) hT hJ (fun r2 σ1 H locs h_ hT_ hJ_ => ?_)
  replace h := h_
  replace hT := hT_
  replace hJ := hJ_
  obtain ⟨he, h⟩ := h
  refine lv_icmp_eq (tgt := 708) hx hb dL_law_282 (by decide) (fun hc => ?_) (fun hc => absurd he hc)
  replace hl : lv_has ls 7 [(0, .ref b), (1, .ref xo), (2, .ref mo), (3, .ref ob), (4, .int (nI i))] := hl
  exact kk (u + m1) (v + n1) S1 σ1 H locs ls h hu1 hv1 hT hJ hl
set_option maxRecDepth 100000 in
set_option maxHeartbeats 4000000 in
theorem t_law_count (hC : lw_C P G l p s m c b L xs) {i : Nat} (hi : i + 6 ≤ L) {K : cs_S → rf_S → Nat → Nat → Prop} (kk : ∀ (u v : Nat) (S : cs_S) (σ : rf_S) (H : Heap) (locs : List Loc) (ls : Array Slot), K S σ u v → u ≤ room_1.cells → v ≤ room_1.slots → cs_T P s (fun q => s.heap.size ≤ q) S H locs → lj_J P (fun q => s.heap.size ≤ q) mo ad σ S H → lv_has ls 7 [(0, .ref b), (1, .ref xo), (2, .ref mo), (3, .ref ob), (4, .int (nI i))] → W p l e room_1 s m args below meth c H locs u v Q (F0 m 708 ls []))
    (h : lw_count room_1.cells room_1.slots xs G xo ob i K S σ u v) (hko : cs_k S xo = 13) (hu : u ≤ room_1.cells) (hv : v ≤ room_1.slots) (hT : cs_T P s (fun q => s.heap.size ≤ q) S H locs) (hJ : lj_J P (fun q => s.heap.size ≤ q) mo ad σ S H) (hl : lv_has ls 7 [(0, .ref b), (1, .ref xo), (2, .ref mo), (3, .ref ob), (4, .int (nI i))]) : W p l e room_1 s m args below meth c H locs u v Q (F0 m 287 ls []) := by
  obtain ⟨hx, hb, hml, hown, hK, hO, hX, hbl, hlx, hL⟩ := id hC
  have hbA : ¬ (fun q : Nat => s.heap.size ≤ q) b := Nat.not_le.mpr hbl
  unfold lw_count at h
  refine lv_aload_n hx hb dL_law_287 rfl (lv_at hl 1 rfl) ?_
  refine lv_aload_n hx hb dL_law_288 rfl (lv_at hl 0 rfl) ?_
  refine lv_iload hx hb dL_law_289 (lv_at hl 4 rfl) ?_
  refine lv_iconst (v := nI 1) hx hb dL_law_291 (by decide) ?_
  refine lv_iadd hx hb dL_law_292 ?_
  rw [lw_ad]
  refine va_sld hx hb hX hbl hbA hT.1 (nI_in (by omega : i + 1 < L) (by omega)) dL_law_293 ?_
  rw [nI_clamp (by omega : i + 1 < 2 ^ 31)]
  refine lj_ci0 (cs_runV hx hb hml hown hK hO hT 12 hko (by decide) rfl (c_X11_count h) rfl rfl klL_67 ki_X11_count ks_X11_count kn_X11 kc_X11_count 1 ⟨rfl, by decide, by decide, by decide +kernel⟩ ⟨Nat.le_of_ble_eq_true rfl, Nat.le_of_ble_eq_true rfl⟩ rfl hl.1 rfl (hw_cat8 (Nat.le_of_ble_eq_true rfl)) ⟨hu, hv⟩ dL_law_294) hT hJ (fun r S1 H locs h_ hT_ hJ_ => ?_)
  replace h := h_
  replace hT := hT_
  replace hJ := hJ_
  refine lv_aload_n hx hb dL_law_297 rfl (lv_at hl 2 rfl) ?_
  refine lv_aload_n hx hb dL_law_298 rfl (lv_at hl 0 rfl) ?_
  refine lv_iload hx hb dL_law_299 (lv_at hl 4 rfl) ?_
  refine lv_iconst (v := nI 1) hx hb dL_law_301 (by decide) ?_
  refine lv_iadd hx hb dL_law_302 ?_
  rw [lw_ad]
  refine va_sld hx hb hX hbl hbA hT.1 (nI_in (by omega : i + 1 < L) (by omega)) dL_law_303 ?_
  rw [nI_clamp (by omega : i + 1 < 2 ^ 31)]
  refine lj_ri (lj_runR hx hb hml hown hK (hJ.T hT) (c_X12_count h) rfl rfl klL_70 ki_X12_count ks_X12_count kn_X12 kc_X12_count 1 ⟨rfl, by decide, by decide, by decide +kernel⟩ ⟨Nat.le_of_ble_eq_true rfl, Nat.le_of_ble_eq_true rfl⟩ rfl hl.1 rfl (hw_cat8 (Nat.le_of_ble_eq_true rfl)) ⟨hu, hv⟩ dL_law_304) hT hJ (fun r2 σ1 H locs h_ hT_ hJ_ => ?_)
  replace h := h_
  replace hT := hT_
  replace hJ := hJ_
  obtain ⟨he, h⟩ := h
  refine lv_icmp_eq (tgt := 708) hx hb dL_law_307 (by decide) (fun hc => ?_) (fun hc => absurd he hc)
  replace hl : lv_has ls 7 [(0, .ref b), (1, .ref xo), (2, .ref mo), (3, .ref ob), (4, .int (nI i))] := hl
  exact kk u v S1 σ1 H locs ls h hu hv hT hJ hl
set_option maxRecDepth 100000 in
set_option maxHeartbeats 4000000 in
theorem t_law_alert (hC : lw_C P G l p s m c b L xs) {i : Nat} (hi : i + 6 ≤ L) {K : cs_S → rf_S → Nat → Nat → Prop} (kk : ∀ (u v : Nat) (S : cs_S) (σ : rf_S) (H : Heap) (locs : List Loc) (ls : Array Slot), K S σ u v → u ≤ room_1.cells → v ≤ room_1.slots → cs_T P s (fun q => s.heap.size ≤ q) S H locs → lj_J P (fun q => s.heap.size ≤ q) mo ad σ S H → lv_has ls 7 [(0, .ref b), (1, .ref xo), (2, .ref mo), (3, .ref ob), (4, .int (nI i))] → W p l e room_1 s m args below meth c H locs u v Q (F0 m 708 ls []))
    (h : lw_alert room_1.cells room_1.slots xs G xo ob i K S σ u v) (hko : cs_k S xo = 13) (hu : u ≤ room_1.cells) (hv : v ≤ room_1.slots) (hT : cs_T P s (fun q => s.heap.size ≤ q) S H locs) (hJ : lj_J P (fun q => s.heap.size ≤ q) mo ad σ S H) (hl : lv_has ls 7 [(0, .ref b), (1, .ref xo), (2, .ref mo), (3, .ref ob), (4, .int (nI i))]) : W p l e room_1 s m args below meth c H locs u v Q (F0 m 312 ls []) := by
  obtain ⟨hx, hb, hml, hown, hK, hO, hX, hbl, hlx, hL⟩ := id hC
  have hbA : ¬ (fun q : Nat => s.heap.size ≤ q) b := Nat.not_le.mpr hbl
  unfold lw_alert at h
  obtain ⟨m1, n1, hu1, hv1, h⟩ := h
  refine lv_aload_n hx hb dL_law_312 rfl (lv_at hl 1 rfl) ?_
  refine lv_aload_n hx hb dL_law_313 rfl (lv_at hl 0 rfl) ?_
  refine lv_iload hx hb dL_law_314 (lv_at hl 4 rfl) ?_
  refine lv_iconst (v := nI 1) hx hb dL_law_316 (by decide) ?_
  refine lv_iadd hx hb dL_law_317 ?_
  rw [lw_ad]
  refine va_sld hx hb hX hbl hbA hT.1 (nI_in (by omega : i + 1 < L) (by omega)) dL_law_318 ?_
  rw [nI_clamp (by omega : i + 1 < 2 ^ 31)]
  refine lv_aload_n hx hb dL_law_319 rfl (lv_at hl 0 rfl) ?_
  refine lv_iload hx hb dL_law_320 (lv_at hl 4 rfl) ?_
  refine lv_iconst (v := nI 2) hx hb dL_law_322 (by decide) ?_
  refine lv_iadd hx hb dL_law_323 ?_
  rw [lw_ad]
  refine va_sld hx hb hX hbl hbA hT.1 (nI_in (by omega : i + 2 < L) (by omega)) dL_law_324 ?_
  rw [nI_clamp (by omega : i + 2 < 2 ^ 31)]
  refine lv_aload_n hx hb dL_law_325 rfl (lv_at hl 3 rfl) ?_
  refine lj_ci (cs_runSW hx hb hml hown hK hO hT (c_L_alert hlx h) rfl rfl klL_71 ki_L_alert kn_L kc_L_alert rfl 4 ⟨by decide, by decide, by decide +kernel⟩ ⟨Nat.le_of_ble_eq_true rfl, Nat.le_of_ble_eq_true rfl⟩ rfl hl.1 rfl (hw_cat8 (Nat.le_of_ble_eq_true rfl)) ⟨hu1, hv1⟩ dL_law_326) hT hJ (fun r S1 H locs h_ hT_ hJ_ => ?_)
  replace h := h_
  replace hT := hT_
  replace hJ := hJ_
  refine lv_istore (lv' := [(5, _), (0, _), (1, _), (2, _), (3, _), (4, _)]) hx hb dL_law_329 hl (by decide) rfl (fun ls hl_ => ?_)
  replace hl := lv_sub hl_ [1, 2, 3, 4, 5, 0] rfl
  refine lv_aload_n hx hb dL_law_331 rfl (lv_at hl 2 rfl) ?_
  refine lv_aload_n hx hb dL_law_332 rfl (lv_at hl 0 rfl) ?_
  refine lv_iload hx hb dL_law_333 (lv_at hl 4 rfl) ?_
  refine lv_iconst (v := nI 1) hx hb dL_law_335 (by decide) ?_
  refine lv_iadd hx hb dL_law_336 ?_
  rw [lw_ad]
  refine va_sld hx hb hX hbl hbA hT.1 (nI_in (by omega : i + 1 < L) (by omega)) dL_law_337 ?_
  rw [nI_clamp (by omega : i + 1 < 2 ^ 31)]
  refine lv_aload_n hx hb dL_law_338 rfl (lv_at hl 0 rfl) ?_
  refine lv_iload hx hb dL_law_339 (lv_at hl 4 rfl) ?_
  refine lv_iconst (v := nI 2) hx hb dL_law_341 (by decide) ?_
  refine lv_iadd hx hb dL_law_342 ?_
  rw [lw_ad]
  refine va_sld hx hb hX hbl hbA hT.1 (nI_in (by omega : i + 2 < L) (by omega)) dL_law_343 ?_
  rw [nI_clamp (by omega : i + 2 < 2 ^ 31)]
  refine lj_ri (lj_runR hx hb hml hown hK (hJ.T hT) (c_X12_alert h) rfl rfl klL_76 ki_X12_alert ks_X12_alert kn_X12 kc_X12_alert 2 ⟨rfl, by decide, by decide, by decide +kernel⟩ ⟨Nat.le_of_ble_eq_true rfl, Nat.le_of_ble_eq_true rfl⟩ rfl hl.1 rfl (hw_cat8 (Nat.le_of_ble_eq_true rfl)) ⟨hu1, hv1⟩ dL_law_344) hT hJ (fun r2 σ1 H locs h_ hT_ hJ_ => ?_)
  replace h := h_
  replace hT := hT_
  replace hJ := hJ_
  refine lv_istore (lv' := [(6, _), (0, _), (1, _), (2, _), (3, _), (4, _), (5, _)]) hx hb dL_law_347 hl (by decide) rfl (fun ls hl_ => ?_)
  replace hl := lv_sub hl_ [1, 2, 3, 4, 5, 6, 0] rfl
  refine lv_aload_n hx hb dL_law_349 rfl (lv_at hl 2 rfl) ?_
  refine lj_ri (lj_runR hx hb hml hown hK (hJ.T hT) (c_X12_thrown h) rfl rfl klL_77 ki_X12_thrown ks_X12_thrown kn_X12 kc_X12_thrown 0 ⟨rfl, by decide, by decide, by decide +kernel⟩ ⟨Nat.le_of_ble_eq_true rfl, Nat.le_of_ble_eq_true rfl⟩ rfl hl.1 rfl (hw_cat8 (Nat.le_of_ble_eq_true rfl)) ⟨hu1, hv1⟩ dL_law_350) hT hJ (fun t2 σ2 H locs h_ hT_ hJ_ => ?_)
  obtain ⟨he, hq, h⟩ := h_
  replace hT := hT_
  replace hJ := hJ_
  refine lv_iload hx hb dL_law_353 (lv_at hl 5 rfl) ?_
  refine lv_icmp_eq (tgt := 360) hx hb dL_law_355 (by decide) (fun hc => ?_) (fun hc => absurd he hc)
  refine lv_iload hx hb dL_law_360 (lv_at hl 5 rfl) ?_
  have fin : ∀ (H : Heap) (locs : List Loc), cs_T P s (fun q => s.heap.size ≤ q) S1 H locs → lj_J P (fun q => s.heap.size ≤ q) mo ad σ2 S1 H → W p l e room_1 s m args below meth c H locs (u + m1) (v + n1) Q (F0 m 377 ls []) := by
    intro H locs hT hJ
    refine lv_goto (tgt := 708) hx hb dL_law_377 (by decide) ?_
    exact kk (u + m1) (v + n1) S1 σ2 H locs ls h hu1 hv1 hT hJ (lv_sub hl [0, 1, 2, 3, 4] rfl)
  refine lv_if_ne (tgt := 377) hx hb dL_law_362 (by decide) (fun hc => fin _ _ hT hJ) (fun hc => ?_)
  have hr0 : r = 0 := hc
  obtain ⟨hk1, hk2, hk3⟩ := hq hr0
  refine lv_aload_n hx hb dL_law_365 rfl (lv_at hl 3 rfl) ?_
  refine lv_iconst (v := 0) hx hb dL_law_366 (by decide) ?_
  refine cs_lald hx hb hK hT hk1 hk2 dL_law_367 ?_
  refine lv_iload hx hb dL_law_368 (lv_at hl 6 rfl) ?_
  refine lv_i2l (v := r2.toInt64) hx hb dL_law_370 rfl ?_
  refine W.lcmp hx hb dL_law_371 ?_
  have hz : lg_cmp (cs_al S1 ob (0 : Int32).toNatClampNeg) r2.toInt64 = 0 := by rw [show (0 : Int32).toNatClampNeg = 0 from rfl, hk3]; exact lw_cmp0 _
  exact lv_if_eq (tgt := 377) hx hb dL_law_372 (by decide) (fun hc => fin _ _ hT hJ) (fun hc => absurd hz hc)
set_option maxRecDepth 100000 in
set_option maxHeartbeats 4000000 in
theorem t_law_key (hC : lw_C P G l p s m c b L xs) {i : Nat} (hi : i + 6 ≤ L) {K : cs_S → rf_S → Nat → Nat → Prop} (kk : ∀ (u v : Nat) (S : cs_S) (σ : rf_S) (H : Heap) (locs : List Loc) (ls : Array Slot), K S σ u v → u ≤ room_1.cells → v ≤ room_1.slots → cs_T P s (fun q => s.heap.size ≤ q) S H locs → lj_J P (fun q => s.heap.size ≤ q) mo ad σ S H → lv_has ls 7 [(0, .ref b), (1, .ref xo), (2, .ref mo), (3, .ref ob), (4, .int (nI i))] → W p l e room_1 s m args below meth c H locs u v Q (F0 m 708 ls []))
    (h : lw_key room_1.cells room_1.slots xs G xo ob i K S σ u v) (hko : cs_k S xo = 13) (hu : u ≤ room_1.cells) (hv : v ≤ room_1.slots) (hT : cs_T P s (fun q => s.heap.size ≤ q) S H locs) (hJ : lj_J P (fun q => s.heap.size ≤ q) mo ad σ S H) (hl : lv_has ls 7 [(0, .ref b), (1, .ref xo), (2, .ref mo), (3, .ref ob), (4, .int (nI i))]) : W p l e room_1 s m args below meth c H locs u v Q (F0 m 380 ls []) := by
  obtain ⟨hx, hb, hml, hown, hK, hO, hX, hbl, hlx, hL⟩ := id hC
  have hbA : ¬ (fun q : Nat => s.heap.size ≤ q) b := Nat.not_le.mpr hbl
  unfold lw_key at h
  obtain ⟨m1, n1, hu1, hv1, h⟩ := h
  refine lv_aload_n hx hb dL_law_380 rfl (lv_at hl 1 rfl) ?_
  refine lv_aload_n hx hb dL_law_381 rfl (lv_at hl 0 rfl) ?_
  refine lv_iload hx hb dL_law_382 (lv_at hl 4 rfl) ?_
  refine lv_iconst (v := nI 1) hx hb dL_law_384 (by decide) ?_
  refine lv_iadd hx hb dL_law_385 ?_
  rw [lw_ad]
  refine va_sld hx hb hX hbl hbA hT.1 (nI_in (by omega : i + 1 < L) (by omega)) dL_law_386 ?_
  rw [nI_clamp (by omega : i + 1 < 2 ^ 31)]
  refine lv_aload_n hx hb dL_law_387 rfl (lv_at hl 0 rfl) ?_
  refine lv_iload hx hb dL_law_388 (lv_at hl 4 rfl) ?_
  refine lv_iconst (v := nI 2) hx hb dL_law_390 (by decide) ?_
  refine lv_iadd hx hb dL_law_391 ?_
  rw [lw_ad]
  refine va_sld hx hb hX hbl hbA hT.1 (nI_in (by omega : i + 2 < L) (by omega)) dL_law_392 ?_
  rw [nI_clamp (by omega : i + 2 < 2 ^ 31)]
  refine lv_aload_n hx hb dL_law_393 rfl (lv_at hl 0 rfl) ?_
  refine lv_iload hx hb dL_law_394 (lv_at hl 4 rfl) ?_
  refine lv_iconst (v := nI 3) hx hb dL_law_396 (by decide) ?_
  refine lv_iadd hx hb dL_law_397 ?_
  rw [lw_ad]
  refine va_sld hx hb hX hbl hbA hT.1 (nI_in (by omega : i + 3 < L) (by omega)) dL_law_398 ?_
  rw [nI_clamp (by omega : i + 3 < 2 ^ 31)]
  refine lv_aload_n hx hb dL_law_399 rfl (lv_at hl 3 rfl) ?_
  refine lj_ci (cs_runSW hx hb hml hown hK hO hT (c_L_key hlx h) rfl rfl klL_80 ki_L_key kn_L kc_L_key rfl 5 ⟨by decide, by decide, by decide +kernel⟩ ⟨Nat.le_of_ble_eq_true rfl, Nat.le_of_ble_eq_true rfl⟩ rfl hl.1 rfl (hw_cat8 (Nat.le_of_ble_eq_true rfl)) ⟨hu1, hv1⟩ dL_law_400) hT hJ (fun r S1 H locs h_ hT_ hJ_ => ?_)
  replace h := h_
  replace hT := hT_
  replace hJ := hJ_
  refine lv_istore (lv' := [(5, _), (0, _), (1, _), (2, _), (3, _), (4, _)]) hx hb dL_law_403 hl (by decide) rfl (fun ls hl_ => ?_)
  replace hl := lv_sub hl_ [1, 2, 3, 4, 5, 0] rfl
  refine lv_aload_n hx hb dL_law_405 rfl (lv_at hl 2 rfl) ?_
  refine lv_aload_n hx hb dL_law_406 rfl (lv_at hl 0 rfl) ?_
  refine lv_iload hx hb dL_law_407 (lv_at hl 4 rfl) ?_
  refine lv_iconst (v := nI 1) hx hb dL_law_409 (by decide) ?_
  refine lv_iadd hx hb dL_law_410 ?_
  rw [lw_ad]
  refine va_sld hx hb hX hbl hbA hT.1 (nI_in (by omega : i + 1 < L) (by omega)) dL_law_411 ?_
  rw [nI_clamp (by omega : i + 1 < 2 ^ 31)]
  refine lv_aload_n hx hb dL_law_412 rfl (lv_at hl 0 rfl) ?_
  refine lv_iload hx hb dL_law_413 (lv_at hl 4 rfl) ?_
  refine lv_iconst (v := nI 2) hx hb dL_law_415 (by decide) ?_
  refine lv_iadd hx hb dL_law_416 ?_
  rw [lw_ad]
  refine va_sld hx hb hX hbl hbA hT.1 (nI_in (by omega : i + 2 < L) (by omega)) dL_law_417 ?_
  rw [nI_clamp (by omega : i + 2 < 2 ^ 31)]
  refine lv_aload_n hx hb dL_law_418 rfl (lv_at hl 0 rfl) ?_
  refine lv_iload hx hb dL_law_419 (lv_at hl 4 rfl) ?_
  refine lv_iconst (v := nI 3) hx hb dL_law_421 (by decide) ?_
  refine lv_iadd hx hb dL_law_422 ?_
  rw [lw_ad]
  refine va_sld hx hb hX hbl hbA hT.1 (nI_in (by omega : i + 3 < L) (by omega)) dL_law_423 ?_
  rw [nI_clamp (by omega : i + 3 < 2 ^ 31)]
  refine lj_ri (lj_runR hx hb hml hown hK (hJ.T hT) (c_X12_key h) rfl rfl klL_83 ki_X12_key ks_X12_key kn_X12 kc_X12_key 3 ⟨rfl, by decide, by decide, by decide +kernel⟩ ⟨Nat.le_of_ble_eq_true rfl, Nat.le_of_ble_eq_true rfl⟩ rfl hl.1 rfl (hw_cat8 (Nat.le_of_ble_eq_true rfl)) ⟨hu1, hv1⟩ dL_law_424) hT hJ (fun r2 σ1 H locs h_ hT_ hJ_ => ?_)
  replace h := h_
  replace hT := hT_
  replace hJ := hJ_
  refine lv_istore (lv' := [(6, _), (0, _), (1, _), (2, _), (3, _), (4, _), (5, _)]) hx hb dL_law_427 hl (by decide) rfl (fun ls hl_ => ?_)
  replace hl := lv_sub hl_ [1, 2, 3, 4, 5, 6, 0] rfl
  refine lv_aload_n hx hb dL_law_429 rfl (lv_at hl 2 rfl) ?_
  refine lj_ri (lj_runR hx hb hml hown hK (hJ.T hT) (c_X12_thrown h) rfl rfl klL_77 ki_X12_thrown ks_X12_thrown kn_X12 kc_X12_thrown 0 ⟨rfl, by decide, by decide, by decide +kernel⟩ ⟨Nat.le_of_ble_eq_true rfl, Nat.le_of_ble_eq_true rfl⟩ rfl hl.1 rfl (hw_cat8 (Nat.le_of_ble_eq_true rfl)) ⟨hu1, hv1⟩ dL_law_430) hT hJ (fun t2 σ2 H locs h_ hT_ hJ_ => ?_)
  obtain ⟨he, hq, h⟩ := h_
  replace hT := hT_
  replace hJ := hJ_
  refine lv_iload hx hb dL_law_433 (lv_at hl 5 rfl) ?_
  refine lv_icmp_eq (tgt := 440) hx hb dL_law_435 (by decide) (fun hc => ?_) (fun hc => absurd he hc)
  refine lv_iload hx hb dL_law_440 (lv_at hl 5 rfl) ?_
  have fin : ∀ (H : Heap) (locs : List Loc), cs_T P s (fun q => s.heap.size ≤ q) S1 H locs → lj_J P (fun q => s.heap.size ≤ q) mo ad σ2 S1 H → W p l e room_1 s m args below meth c H locs (u + m1) (v + n1) Q (F0 m 457 ls []) := by
    intro H locs hT hJ
    refine lv_goto (tgt := 708) hx hb dL_law_457 (by decide) ?_
    exact kk (u + m1) (v + n1) S1 σ2 H locs ls h hu1 hv1 hT hJ (lv_sub hl [0, 1, 2, 3, 4] rfl)
  refine lv_if_ne (tgt := 457) hx hb dL_law_442 (by decide) (fun hc => fin _ _ hT hJ) (fun hc => ?_)
  have hr0 : r = 0 := hc
  obtain ⟨hk1, hk2, hk3⟩ := hq hr0
  refine lv_aload_n hx hb dL_law_445 rfl (lv_at hl 3 rfl) ?_
  refine lv_iconst (v := 0) hx hb dL_law_446 (by decide) ?_
  refine cs_lald hx hb hK hT hk1 hk2 dL_law_447 ?_
  refine lv_iload hx hb dL_law_448 (lv_at hl 6 rfl) ?_
  refine lv_i2l (v := r2.toInt64) hx hb dL_law_450 rfl ?_
  refine W.lcmp hx hb dL_law_451 ?_
  have hz : lg_cmp (cs_al S1 ob (0 : Int32).toNatClampNeg) r2.toInt64 = 0 := by rw [show (0 : Int32).toNatClampNeg = 0 from rfl, hk3]; exact lw_cmp0 _
  exact lv_if_eq (tgt := 457) hx hb dL_law_452 (by decide) (fun hc => fin _ _ hT hJ) (fun hc => absurd hz hc)
set_option maxRecDepth 100000 in
set_option maxHeartbeats 4000000 in
theorem t_law_rule (hC : lw_C P G l p s m c b L xs) {i : Nat} (hi : i + 6 ≤ L) {K : cs_S → rf_S → Nat → Nat → Prop} (kk : ∀ (u v : Nat) (S : cs_S) (σ : rf_S) (H : Heap) (locs : List Loc) (ls : Array Slot), K S σ u v → u ≤ room_1.cells → v ≤ room_1.slots → cs_T P s (fun q => s.heap.size ≤ q) S H locs → lj_J P (fun q => s.heap.size ≤ q) mo ad σ S H → lv_has ls 7 [(0, .ref b), (1, .ref xo), (2, .ref mo), (3, .ref ob), (4, .int (nI i))] → W p l e room_1 s m args below meth c H locs u v Q (F0 m 708 ls []))
    (h : lw_rule room_1.cells room_1.slots xs G xo ob i K S σ u v) (hko : cs_k S xo = 13) (hu : u ≤ room_1.cells) (hv : v ≤ room_1.slots) (hT : cs_T P s (fun q => s.heap.size ≤ q) S H locs) (hJ : lj_J P (fun q => s.heap.size ≤ q) mo ad σ S H) (hl : lv_has ls 7 [(0, .ref b), (1, .ref xo), (2, .ref mo), (3, .ref ob), (4, .int (nI i))]) : W p l e room_1 s m args below meth c H locs u v Q (F0 m 460 ls []) := by
  obtain ⟨hx, hb, hml, hown, hK, hO, hX, hbl, hlx, hL⟩ := id hC
  have hbA : ¬ (fun q : Nat => s.heap.size ≤ q) b := Nat.not_le.mpr hbl
  unfold lw_rule at h
  obtain ⟨m1, n1, hu1, hv1, h⟩ := h
  refine lv_aload_n hx hb dL_law_460 rfl (lv_at hl 1 rfl) ?_
  refine lv_aload_n hx hb dL_law_461 rfl (lv_at hl 0 rfl) ?_
  refine lv_iload hx hb dL_law_462 (lv_at hl 4 rfl) ?_
  refine lv_iconst (v := nI 1) hx hb dL_law_464 (by decide) ?_
  refine lv_iadd hx hb dL_law_465 ?_
  rw [lw_ad]
  refine va_sld hx hb hX hbl hbA hT.1 (nI_in (by omega : i + 1 < L) (by omega)) dL_law_466 ?_
  rw [nI_clamp (by omega : i + 1 < 2 ^ 31)]
  refine lv_aload_n hx hb dL_law_467 rfl (lv_at hl 0 rfl) ?_
  refine lv_iload hx hb dL_law_468 (lv_at hl 4 rfl) ?_
  refine lv_iconst (v := nI 2) hx hb dL_law_470 (by decide) ?_
  refine lv_iadd hx hb dL_law_471 ?_
  rw [lw_ad]
  refine va_sld hx hb hX hbl hbA hT.1 (nI_in (by omega : i + 2 < L) (by omega)) dL_law_472 ?_
  rw [nI_clamp (by omega : i + 2 < 2 ^ 31)]
  refine lv_aload_n hx hb dL_law_473 rfl (lv_at hl 3 rfl) ?_
  refine lj_ci (cs_runSW hx hb hml hown hK hO hT (c_L_rule hlx h) rfl rfl klL_84 ki_L_rule kn_L kc_L_rule rfl 4 ⟨by decide, by decide, by decide +kernel⟩ ⟨Nat.le_of_ble_eq_true rfl, Nat.le_of_ble_eq_true rfl⟩ rfl hl.1 rfl (hw_cat8 (Nat.le_of_ble_eq_true rfl)) ⟨hu1, hv1⟩ dL_law_474) hT hJ (fun r S1 H locs h_ hT_ hJ_ => ?_)
  replace h := h_
  replace hT := hT_
  replace hJ := hJ_
  refine lv_istore (lv' := [(5, _), (0, _), (1, _), (2, _), (3, _), (4, _)]) hx hb dL_law_477 hl (by decide) rfl (fun ls hl_ => ?_)
  replace hl := lv_sub hl_ [1, 2, 3, 4, 5, 0] rfl
  refine lv_aload_n hx hb dL_law_479 rfl (lv_at hl 2 rfl) ?_
  refine lv_aload_n hx hb dL_law_480 rfl (lv_at hl 0 rfl) ?_
  refine lv_iload hx hb dL_law_481 (lv_at hl 4 rfl) ?_
  refine lv_iconst (v := nI 1) hx hb dL_law_483 (by decide) ?_
  refine lv_iadd hx hb dL_law_484 ?_
  rw [lw_ad]
  refine va_sld hx hb hX hbl hbA hT.1 (nI_in (by omega : i + 1 < L) (by omega)) dL_law_485 ?_
  rw [nI_clamp (by omega : i + 1 < 2 ^ 31)]
  refine lv_aload_n hx hb dL_law_486 rfl (lv_at hl 0 rfl) ?_
  refine lv_iload hx hb dL_law_487 (lv_at hl 4 rfl) ?_
  refine lv_iconst (v := nI 2) hx hb dL_law_489 (by decide) ?_
  refine lv_iadd hx hb dL_law_490 ?_
  rw [lw_ad]
  refine va_sld hx hb hX hbl hbA hT.1 (nI_in (by omega : i + 2 < L) (by omega)) dL_law_491 ?_
  rw [nI_clamp (by omega : i + 2 < 2 ^ 31)]
  refine lj_ri (lj_runR hx hb hml hown hK (hJ.T hT) (c_X12_rule_ h) rfl rfl klL_86 ki_X12_rule_ ks_X12_rule_ kn_X12 kc_X12_rule_ 2 ⟨rfl, by decide, by decide, by decide +kernel⟩ ⟨Nat.le_of_ble_eq_true rfl, Nat.le_of_ble_eq_true rfl⟩ rfl hl.1 rfl (hw_cat8 (Nat.le_of_ble_eq_true rfl)) ⟨hu1, hv1⟩ dL_law_492) hT hJ (fun r2 σ1 H locs h_ hT_ hJ_ => ?_)
  replace h := h_
  replace hT := hT_
  replace hJ := hJ_
  refine lv_istore (lv' := [(6, _), (0, _), (1, _), (2, _), (3, _), (4, _), (5, _)]) hx hb dL_law_495 hl (by decide) rfl (fun ls hl_ => ?_)
  replace hl := lv_sub hl_ [1, 2, 3, 4, 5, 6, 0] rfl
  refine lv_aload_n hx hb dL_law_497 rfl (lv_at hl 2 rfl) ?_
  refine lj_ri (lj_runR hx hb hml hown hK (hJ.T hT) (c_X12_thrown h) rfl rfl klL_77 ki_X12_thrown ks_X12_thrown kn_X12 kc_X12_thrown 0 ⟨rfl, by decide, by decide, by decide +kernel⟩ ⟨Nat.le_of_ble_eq_true rfl, Nat.le_of_ble_eq_true rfl⟩ rfl hl.1 rfl (hw_cat8 (Nat.le_of_ble_eq_true rfl)) ⟨hu1, hv1⟩ dL_law_498) hT hJ (fun t2 σ2 H locs h_ hT_ hJ_ => ?_)
  obtain ⟨he, hq, h⟩ := h_
  replace hT := hT_
  replace hJ := hJ_
  refine lv_iload hx hb dL_law_501 (lv_at hl 5 rfl) ?_
  refine lv_icmp_eq (tgt := 508) hx hb dL_law_503 (by decide) (fun hc => ?_) (fun hc => absurd he hc)
  refine lv_iload hx hb dL_law_508 (lv_at hl 5 rfl) ?_
  have fin : ∀ (H : Heap) (locs : List Loc), cs_T P s (fun q => s.heap.size ≤ q) S1 H locs → lj_J P (fun q => s.heap.size ≤ q) mo ad σ2 S1 H → W p l e room_1 s m args below meth c H locs (u + m1) (v + n1) Q (F0 m 525 ls []) := by
    intro H locs hT hJ
    refine lv_goto (tgt := 708) hx hb dL_law_525 (by decide) ?_
    exact kk (u + m1) (v + n1) S1 σ2 H locs ls h hu1 hv1 hT hJ (lv_sub hl [0, 1, 2, 3, 4] rfl)
  refine lv_if_ne (tgt := 525) hx hb dL_law_510 (by decide) (fun hc => fin _ _ hT hJ) (fun hc => ?_)
  have hr0 : r = 0 := hc
  obtain ⟨hk1, hk2, hk3⟩ := hq hr0
  refine lv_aload_n hx hb dL_law_513 rfl (lv_at hl 3 rfl) ?_
  refine lv_iconst (v := 0) hx hb dL_law_514 (by decide) ?_
  refine cs_lald hx hb hK hT hk1 hk2 dL_law_515 ?_
  refine lv_iload hx hb dL_law_516 (lv_at hl 6 rfl) ?_
  refine lv_i2l (v := r2.toInt64) hx hb dL_law_518 rfl ?_
  refine W.lcmp hx hb dL_law_519 ?_
  have hz : lg_cmp (cs_al S1 ob (0 : Int32).toNatClampNeg) r2.toInt64 = 0 := by rw [show (0 : Int32).toNatClampNeg = 0 from rfl, hk3]; exact lw_cmp0 _
  exact lv_if_eq (tgt := 525) hx hb dL_law_520 (by decide) (fun hc => fin _ _ hT hJ) (fun hc => absurd hz hc)
set_option maxRecDepth 100000 in
set_option maxHeartbeats 4000000 in
theorem t_law_event (hC : lw_C P G l p s m c b L xs) {i : Nat} (hi : i + 6 ≤ L) {K : cs_S → rf_S → Nat → Nat → Prop} (kk : ∀ (u v : Nat) (S : cs_S) (σ : rf_S) (H : Heap) (locs : List Loc) (ls : Array Slot), K S σ u v → u ≤ room_1.cells → v ≤ room_1.slots → cs_T P s (fun q => s.heap.size ≤ q) S H locs → lj_J P (fun q => s.heap.size ≤ q) mo ad σ S H → lv_has ls 7 [(0, .ref b), (1, .ref xo), (2, .ref mo), (3, .ref ob), (4, .int (nI i))] → W p l e room_1 s m args below meth c H locs u v Q (F0 m 708 ls []))
    (h : lw_event room_1.cells room_1.slots xs G xo ob i K S σ u v) (hko : cs_k S xo = 13) (hu : u ≤ room_1.cells) (hv : v ≤ room_1.slots) (hT : cs_T P s (fun q => s.heap.size ≤ q) S H locs) (hJ : lj_J P (fun q => s.heap.size ≤ q) mo ad σ S H) (hl : lv_has ls 7 [(0, .ref b), (1, .ref xo), (2, .ref mo), (3, .ref ob), (4, .int (nI i))]) : W p l e room_1 s m args below meth c H locs u v Q (F0 m 528 ls []) := by
  obtain ⟨hx, hb, hml, hown, hK, hO, hX, hbl, hlx, hL⟩ := id hC
  have hbA : ¬ (fun q : Nat => s.heap.size ≤ q) b := Nat.not_le.mpr hbl
  unfold lw_event at h
  obtain ⟨m1, n1, hu1, hv1, h⟩ := h
  refine lv_aload_n hx hb dL_law_528 rfl (lv_at hl 1 rfl) ?_
  refine lv_aload_n hx hb dL_law_529 rfl (lv_at hl 0 rfl) ?_
  refine lv_iload hx hb dL_law_530 (lv_at hl 4 rfl) ?_
  refine lv_iconst (v := nI 1) hx hb dL_law_532 (by decide) ?_
  refine lv_iadd hx hb dL_law_533 ?_
  rw [lw_ad]
  refine va_sld hx hb hX hbl hbA hT.1 (nI_in (by omega : i + 1 < L) (by omega)) dL_law_534 ?_
  rw [nI_clamp (by omega : i + 1 < 2 ^ 31)]
  refine lv_aload_n hx hb dL_law_535 rfl (lv_at hl 0 rfl) ?_
  refine lv_iload hx hb dL_law_536 (lv_at hl 4 rfl) ?_
  refine lv_iconst (v := nI 2) hx hb dL_law_538 (by decide) ?_
  refine lv_iadd hx hb dL_law_539 ?_
  rw [lw_ad]
  refine va_sld hx hb hX hbl hbA hT.1 (nI_in (by omega : i + 2 < L) (by omega)) dL_law_540 ?_
  rw [nI_clamp (by omega : i + 2 < 2 ^ 31)]
  refine lv_aload_n hx hb dL_law_541 rfl (lv_at hl 3 rfl) ?_
  refine lj_ci (cs_runSW hx hb hml hown hK hO hT (c_L_event hlx h) rfl rfl klL_87 ki_L_event kn_L kc_L_event rfl 4 ⟨by decide, by decide, by decide +kernel⟩ ⟨Nat.le_of_ble_eq_true rfl, Nat.le_of_ble_eq_true rfl⟩ rfl hl.1 rfl (hw_cat8 (Nat.le_of_ble_eq_true rfl)) ⟨hu1, hv1⟩ dL_law_542) hT hJ (fun r S1 H locs h_ hT_ hJ_ => ?_)
  replace h := h_
  replace hT := hT_
  replace hJ := hJ_
  refine lv_istore (lv' := [(5, _), (0, _), (1, _), (2, _), (3, _), (4, _)]) hx hb dL_law_545 hl (by decide) rfl (fun ls hl_ => ?_)
  replace hl := lv_sub hl_ [1, 2, 3, 4, 5, 0] rfl
  refine lv_aload_n hx hb dL_law_547 rfl (lv_at hl 2 rfl) ?_
  refine lv_aload_n hx hb dL_law_548 rfl (lv_at hl 0 rfl) ?_
  refine lv_iload hx hb dL_law_549 (lv_at hl 4 rfl) ?_
  refine lv_iconst (v := nI 1) hx hb dL_law_551 (by decide) ?_
  refine lv_iadd hx hb dL_law_552 ?_
  rw [lw_ad]
  refine va_sld hx hb hX hbl hbA hT.1 (nI_in (by omega : i + 1 < L) (by omega)) dL_law_553 ?_
  rw [nI_clamp (by omega : i + 1 < 2 ^ 31)]
  refine lv_aload_n hx hb dL_law_554 rfl (lv_at hl 0 rfl) ?_
  refine lv_iload hx hb dL_law_555 (lv_at hl 4 rfl) ?_
  refine lv_iconst (v := nI 2) hx hb dL_law_557 (by decide) ?_
  refine lv_iadd hx hb dL_law_558 ?_
  rw [lw_ad]
  refine va_sld hx hb hX hbl hbA hT.1 (nI_in (by omega : i + 2 < L) (by omega)) dL_law_559 ?_
  rw [nI_clamp (by omega : i + 2 < 2 ^ 31)]
  refine lj_ri (lj_runR hx hb hml hown hK (hJ.T hT) (c_X12_event h) rfl rfl klL_89 ki_X12_event ks_X12_event kn_X12 kc_X12_event 2 ⟨rfl, by decide, by decide, by decide +kernel⟩ ⟨Nat.le_of_ble_eq_true rfl, Nat.le_of_ble_eq_true rfl⟩ rfl hl.1 rfl (hw_cat8 (Nat.le_of_ble_eq_true rfl)) ⟨hu1, hv1⟩ dL_law_560) hT hJ (fun r2 σ1 H locs h_ hT_ hJ_ => ?_)
  replace h := h_
  replace hT := hT_
  replace hJ := hJ_
  refine lv_istore (lv' := [(6, _), (0, _), (1, _), (2, _), (3, _), (4, _), (5, _)]) hx hb dL_law_563 hl (by decide) rfl (fun ls hl_ => ?_)
  replace hl := lv_sub hl_ [1, 2, 3, 4, 5, 6, 0] rfl
  refine lv_aload_n hx hb dL_law_565 rfl (lv_at hl 2 rfl) ?_
  refine lj_ri (lj_runR hx hb hml hown hK (hJ.T hT) (c_X12_thrown h) rfl rfl klL_77 ki_X12_thrown ks_X12_thrown kn_X12 kc_X12_thrown 0 ⟨rfl, by decide, by decide, by decide +kernel⟩ ⟨Nat.le_of_ble_eq_true rfl, Nat.le_of_ble_eq_true rfl⟩ rfl hl.1 rfl (hw_cat8 (Nat.le_of_ble_eq_true rfl)) ⟨hu1, hv1⟩ dL_law_566) hT hJ (fun t2 σ2 H locs h_ hT_ hJ_ => ?_)
  obtain ⟨he, hq, h⟩ := h_
  replace hT := hT_
  replace hJ := hJ_
  refine lv_iload hx hb dL_law_569 (lv_at hl 5 rfl) ?_
  refine lv_icmp_eq (tgt := 576) hx hb dL_law_571 (by decide) (fun hc => ?_) (fun hc => absurd he hc)
  refine lv_iload hx hb dL_law_576 (lv_at hl 5 rfl) ?_
  have fin : ∀ (H : Heap) (locs : List Loc), cs_T P s (fun q => s.heap.size ≤ q) S1 H locs → lj_J P (fun q => s.heap.size ≤ q) mo ad σ2 S1 H → W p l e room_1 s m args below meth c H locs (u + m1) (v + n1) Q (F0 m 593 ls []) := by
    intro H locs hT hJ
    refine lv_goto (tgt := 708) hx hb dL_law_593 (by decide) ?_
    exact kk (u + m1) (v + n1) S1 σ2 H locs ls h hu1 hv1 hT hJ (lv_sub hl [0, 1, 2, 3, 4] rfl)
  refine lv_if_ne (tgt := 593) hx hb dL_law_578 (by decide) (fun hc => fin _ _ hT hJ) (fun hc => ?_)
  have hr0 : r = 0 := hc
  obtain ⟨hk1, hk2, hk3⟩ := hq hr0
  refine lv_aload_n hx hb dL_law_581 rfl (lv_at hl 3 rfl) ?_
  refine lv_iconst (v := 0) hx hb dL_law_582 (by decide) ?_
  refine cs_lald hx hb hK hT hk1 hk2 dL_law_583 ?_
  refine lv_iload hx hb dL_law_584 (lv_at hl 6 rfl) ?_
  refine lv_i2l (v := r2.toInt64) hx hb dL_law_586 rfl ?_
  refine W.lcmp hx hb dL_law_587 ?_
  have hz : lg_cmp (cs_al S1 ob (0 : Int32).toNatClampNeg) r2.toInt64 = 0 := by rw [show (0 : Int32).toNatClampNeg = 0 from rfl, hk3]; exact lw_cmp0 _
  exact lv_if_eq (tgt := 593) hx hb dL_law_588 (by decide) (fun hc => fin _ _ hT hJ) (fun hc => absurd hz hc)
set_option maxRecDepth 100000 in
set_option maxHeartbeats 4000000 in
theorem t_law_pack (hC : lw_C P G l p s m c b L xs) {i : Nat} (hi : i + 6 ≤ L) {K : cs_S → rf_S → Nat → Nat → Prop} (kk : ∀ (u v : Nat) (S : cs_S) (σ : rf_S) (H : Heap) (locs : List Loc) (ls : Array Slot), K S σ u v → u ≤ room_1.cells → v ≤ room_1.slots → cs_T P s (fun q => s.heap.size ≤ q) S H locs → lj_J P (fun q => s.heap.size ≤ q) mo ad σ S H → lv_has ls 7 [(0, .ref b), (1, .ref xo), (2, .ref mo), (3, .ref ob), (4, .int (nI i))] → W p l e room_1 s m args below meth c H locs u v Q (F0 m 708 ls []))
    (h : lw_pack room_1.cells room_1.slots xs G xo ob i K S σ u v) (hko : cs_k S xo = 13) (hu : u ≤ room_1.cells) (hv : v ≤ room_1.slots) (hT : cs_T P s (fun q => s.heap.size ≤ q) S H locs) (hJ : lj_J P (fun q => s.heap.size ≤ q) mo ad σ S H) (hl : lv_has ls 7 [(0, .ref b), (1, .ref xo), (2, .ref mo), (3, .ref ob), (4, .int (nI i))]) : W p l e room_1 s m args below meth c H locs u v Q (F0 m 596 ls []) := by
  obtain ⟨hx, hb, hml, hown, hK, hO, hX, hbl, hlx, hL⟩ := id hC
  have hbA : ¬ (fun q : Nat => s.heap.size ≤ q) b := Nat.not_le.mpr hbl
  unfold lw_pack at h
  obtain ⟨m1, n1, hu1, hv1, h⟩ := h
  refine lv_aload_n hx hb dL_law_596 rfl (lv_at hl 1 rfl) ?_
  refine lv_aload_n hx hb dL_law_597 rfl (lv_at hl 0 rfl) ?_
  refine lv_iload hx hb dL_law_598 (lv_at hl 4 rfl) ?_
  refine lv_iconst (v := nI 1) hx hb dL_law_600 (by decide) ?_
  refine lv_iadd hx hb dL_law_601 ?_
  rw [lw_ad]
  refine va_sld hx hb hX hbl hbA hT.1 (nI_in (by omega : i + 1 < L) (by omega)) dL_law_602 ?_
  rw [nI_clamp (by omega : i + 1 < 2 ^ 31)]
  refine lv_aload_n hx hb dL_law_603 rfl (lv_at hl 3 rfl) ?_
  refine lj_ci (cs_runSW hx hb hml hown hK hO hT (c_L_pack hlx h) rfl rfl klL_90 ki_L_pack kn_L kc_L_pack rfl 3 ⟨by decide, by decide, by decide +kernel⟩ ⟨Nat.le_of_ble_eq_true rfl, Nat.le_of_ble_eq_true rfl⟩ rfl hl.1 rfl (hw_cat8 (Nat.le_of_ble_eq_true rfl)) ⟨hu1, hv1⟩ dL_law_604) hT hJ (fun r S1 H locs h_ hT_ hJ_ => ?_)
  replace h := h_
  replace hT := hT_
  replace hJ := hJ_
  refine lv_istore (lv' := [(5, _), (0, _), (1, _), (2, _), (3, _), (4, _)]) hx hb dL_law_607 hl (by decide) rfl (fun ls hl_ => ?_)
  replace hl := lv_sub hl_ [1, 2, 3, 4, 5, 0] rfl
  refine lv_aload_n hx hb dL_law_609 rfl (lv_at hl 2 rfl) ?_
  refine lv_aload_n hx hb dL_law_610 rfl (lv_at hl 0 rfl) ?_
  refine lv_iload hx hb dL_law_611 (lv_at hl 4 rfl) ?_
  refine lv_iconst (v := nI 1) hx hb dL_law_613 (by decide) ?_
  refine lv_iadd hx hb dL_law_614 ?_
  rw [lw_ad]
  refine va_sld hx hb hX hbl hbA hT.1 (nI_in (by omega : i + 1 < L) (by omega)) dL_law_615 ?_
  rw [nI_clamp (by omega : i + 1 < 2 ^ 31)]
  refine lj_ri (lj_runR hx hb hml hown hK (hJ.T hT) (c_X12_pack h) rfl rfl klL_93 ki_X12_pack ks_X12_pack kn_X12 kc_X12_pack 1 ⟨rfl, by decide, by decide, by decide +kernel⟩ ⟨Nat.le_of_ble_eq_true rfl, Nat.le_of_ble_eq_true rfl⟩ rfl hl.1 rfl (hw_cat8 (Nat.le_of_ble_eq_true rfl)) ⟨hu1, hv1⟩ dL_law_616) hT hJ (fun r2 σ1 H locs h_ hT_ hJ_ => ?_)
  replace h := h_
  replace hT := hT_
  replace hJ := hJ_
  refine lv_istore (lv' := [(6, _), (0, _), (1, _), (2, _), (3, _), (4, _), (5, _)]) hx hb dL_law_619 hl (by decide) rfl (fun ls hl_ => ?_)
  replace hl := lv_sub hl_ [1, 2, 3, 4, 5, 6, 0] rfl
  refine lv_aload_n hx hb dL_law_621 rfl (lv_at hl 2 rfl) ?_
  refine lj_ri (lj_runR hx hb hml hown hK (hJ.T hT) (c_X12_thrown h) rfl rfl klL_77 ki_X12_thrown ks_X12_thrown kn_X12 kc_X12_thrown 0 ⟨rfl, by decide, by decide, by decide +kernel⟩ ⟨Nat.le_of_ble_eq_true rfl, Nat.le_of_ble_eq_true rfl⟩ rfl hl.1 rfl (hw_cat8 (Nat.le_of_ble_eq_true rfl)) ⟨hu1, hv1⟩ dL_law_622) hT hJ (fun t2 σ2 H locs h_ hT_ hJ_ => ?_)
  obtain ⟨he, hq, h⟩ := h_
  replace hT := hT_
  replace hJ := hJ_
  refine lv_iload hx hb dL_law_625 (lv_at hl 5 rfl) ?_
  refine lv_icmp_eq (tgt := 632) hx hb dL_law_627 (by decide) (fun hc => ?_) (fun hc => absurd he hc)
  refine lv_iload hx hb dL_law_632 (lv_at hl 5 rfl) ?_
  have fin : ∀ (H : Heap) (locs : List Loc), cs_T P s (fun q => s.heap.size ≤ q) S1 H locs → lj_J P (fun q => s.heap.size ≤ q) mo ad σ2 S1 H → W p l e room_1 s m args below meth c H locs (u + m1) (v + n1) Q (F0 m 649 ls []) := by
    intro H locs hT hJ
    refine lv_goto (tgt := 708) hx hb dL_law_649 (by decide) ?_
    exact kk (u + m1) (v + n1) S1 σ2 H locs ls h hu1 hv1 hT hJ (lv_sub hl [0, 1, 2, 3, 4] rfl)
  refine lv_if_ne (tgt := 649) hx hb dL_law_634 (by decide) (fun hc => fin _ _ hT hJ) (fun hc => ?_)
  have hr0 : r = 0 := hc
  obtain ⟨hk1, hk2, hk3⟩ := hq hr0
  refine lv_aload_n hx hb dL_law_637 rfl (lv_at hl 3 rfl) ?_
  refine lv_iconst (v := 0) hx hb dL_law_638 (by decide) ?_
  refine cs_lald hx hb hK hT hk1 hk2 dL_law_639 ?_
  refine lv_iload hx hb dL_law_640 (lv_at hl 6 rfl) ?_
  refine lv_i2l (v := r2.toInt64) hx hb dL_law_642 rfl ?_
  refine W.lcmp hx hb dL_law_643 ?_
  have hz : lg_cmp (cs_al S1 ob (0 : Int32).toNatClampNeg) r2.toInt64 = 0 := by rw [show (0 : Int32).toNatClampNeg = 0 from rfl, hk3]; exact lw_cmp0 _
  exact lv_if_eq (tgt := 649) hx hb dL_law_644 (by decide) (fun hc => fin _ _ hT hJ) (fun hc => absurd hz hc)
set_option maxRecDepth 100000 in
set_option maxHeartbeats 4000000 in
theorem t_law_octet (hC : lw_C P G l p s m c b L xs) {i : Nat} (hi : i + 6 ≤ L) {K : cs_S → rf_S → Nat → Nat → Prop} (kk : ∀ (u v : Nat) (S : cs_S) (σ : rf_S) (H : Heap) (locs : List Loc) (ls : Array Slot), K S σ u v → u ≤ room_1.cells → v ≤ room_1.slots → cs_T P s (fun q => s.heap.size ≤ q) S H locs → lj_J P (fun q => s.heap.size ≤ q) mo ad σ S H → lv_has ls 7 [(0, .ref b), (1, .ref xo), (2, .ref mo), (3, .ref ob), (4, .int (nI i))] → W p l e room_1 s m args below meth c H locs u v Q (F0 m 708 ls []))
    (h : lw_octet room_1.cells room_1.slots xs G xo ob i K S σ u v) (hko : cs_k S xo = 13) (hu : u ≤ room_1.cells) (hv : v ≤ room_1.slots) (hT : cs_T P s (fun q => s.heap.size ≤ q) S H locs) (hJ : lj_J P (fun q => s.heap.size ≤ q) mo ad σ S H) (hl : lv_has ls 7 [(0, .ref b), (1, .ref xo), (2, .ref mo), (3, .ref ob), (4, .int (nI i))]) : W p l e room_1 s m args below meth c H locs u v Q (F0 m 652 ls []) := by
  obtain ⟨hx, hb, hml, hown, hK, hO, hX, hbl, hlx, hL⟩ := id hC
  have hbA : ¬ (fun q : Nat => s.heap.size ≤ q) b := Nat.not_le.mpr hbl
  unfold lw_octet at h
  obtain ⟨m1, n1, hu1, hv1, h⟩ := h
  refine lv_aload_n hx hb dL_law_652 rfl (lv_at hl 1 rfl) ?_
  refine lv_aload_n hx hb dL_law_653 rfl (lv_at hl 0 rfl) ?_
  refine lv_iload hx hb dL_law_654 (lv_at hl 4 rfl) ?_
  refine lv_iconst (v := nI 1) hx hb dL_law_656 (by decide) ?_
  refine lv_iadd hx hb dL_law_657 ?_
  rw [lw_ad]
  refine va_sld hx hb hX hbl hbA hT.1 (nI_in (by omega : i + 1 < L) (by omega)) dL_law_658 ?_
  rw [nI_clamp (by omega : i + 1 < 2 ^ 31)]
  refine lv_aload_n hx hb dL_law_659 rfl (lv_at hl 3 rfl) ?_
  refine lj_ci (cs_runSW hx hb hml hown hK hO hT (c_L_octet hlx h) rfl rfl klL_94 ki_L_octet kn_L kc_L_octet rfl 3 ⟨by decide, by decide, by decide +kernel⟩ ⟨Nat.le_of_ble_eq_true rfl, Nat.le_of_ble_eq_true rfl⟩ rfl hl.1 rfl (hw_cat8 (Nat.le_of_ble_eq_true rfl)) ⟨hu1, hv1⟩ dL_law_660) hT hJ (fun r S1 H locs h_ hT_ hJ_ => ?_)
  replace h := h_
  replace hT := hT_
  replace hJ := hJ_
  refine lv_istore (lv' := [(5, _), (0, _), (1, _), (2, _), (3, _), (4, _)]) hx hb dL_law_663 hl (by decide) rfl (fun ls hl_ => ?_)
  replace hl := lv_sub hl_ [1, 2, 3, 4, 5, 0] rfl
  refine lv_aload_n hx hb dL_law_665 rfl (lv_at hl 2 rfl) ?_
  refine lv_aload_n hx hb dL_law_666 rfl (lv_at hl 0 rfl) ?_
  refine lv_iload hx hb dL_law_667 (lv_at hl 4 rfl) ?_
  refine lv_iconst (v := nI 1) hx hb dL_law_669 (by decide) ?_
  refine lv_iadd hx hb dL_law_670 ?_
  rw [lw_ad]
  refine va_sld hx hb hX hbl hbA hT.1 (nI_in (by omega : i + 1 < L) (by omega)) dL_law_671 ?_
  rw [nI_clamp (by omega : i + 1 < 2 ^ 31)]
  refine lj_ri (lj_runR hx hb hml hown hK (hJ.T hT) (c_X12_octet h) rfl rfl klL_96 ki_X12_octet ks_X12_octet kn_X12 kc_X12_octet 1 ⟨rfl, by decide, by decide, by decide +kernel⟩ ⟨Nat.le_of_ble_eq_true rfl, Nat.le_of_ble_eq_true rfl⟩ rfl hl.1 rfl (hw_cat8 (Nat.le_of_ble_eq_true rfl)) ⟨hu1, hv1⟩ dL_law_672) hT hJ (fun r2 σ1 H locs h_ hT_ hJ_ => ?_)
  replace h := h_
  replace hT := hT_
  replace hJ := hJ_
  refine lv_istore (lv' := [(6, _), (0, _), (1, _), (2, _), (3, _), (4, _), (5, _)]) hx hb dL_law_675 hl (by decide) rfl (fun ls hl_ => ?_)
  replace hl := lv_sub hl_ [1, 2, 3, 4, 5, 6, 0] rfl
  refine lv_aload_n hx hb dL_law_677 rfl (lv_at hl 2 rfl) ?_
  refine lj_ri (lj_runR hx hb hml hown hK (hJ.T hT) (c_X12_thrown h) rfl rfl klL_77 ki_X12_thrown ks_X12_thrown kn_X12 kc_X12_thrown 0 ⟨rfl, by decide, by decide, by decide +kernel⟩ ⟨Nat.le_of_ble_eq_true rfl, Nat.le_of_ble_eq_true rfl⟩ rfl hl.1 rfl (hw_cat8 (Nat.le_of_ble_eq_true rfl)) ⟨hu1, hv1⟩ dL_law_678) hT hJ (fun t2 σ2 H locs h_ hT_ hJ_ => ?_)
  obtain ⟨he, hq, h⟩ := h_
  replace hT := hT_
  replace hJ := hJ_
  refine lv_iload hx hb dL_law_681 (lv_at hl 5 rfl) ?_
  refine lv_icmp_eq (tgt := 688) hx hb dL_law_683 (by decide) (fun hc => ?_) (fun hc => absurd he hc)
  refine lv_iload hx hb dL_law_688 (lv_at hl 5 rfl) ?_
  have fin : ∀ (H : Heap) (locs : List Loc), cs_T P s (fun q => s.heap.size ≤ q) S1 H locs → lj_J P (fun q => s.heap.size ≤ q) mo ad σ2 S1 H → W p l e room_1 s m args below meth c H locs (u + m1) (v + n1) Q (F0 m 705 ls []) := by
    intro H locs hT hJ
    refine lv_goto (tgt := 708) hx hb dL_law_705 (by decide) ?_
    exact kk (u + m1) (v + n1) S1 σ2 H locs ls h hu1 hv1 hT hJ (lv_sub hl [0, 1, 2, 3, 4] rfl)
  refine lv_if_ne (tgt := 705) hx hb dL_law_690 (by decide) (fun hc => fin _ _ hT hJ) (fun hc => ?_)
  have hr0 : r = 0 := hc
  obtain ⟨hk1, hk2, hk3⟩ := hq hr0
  refine lv_aload_n hx hb dL_law_693 rfl (lv_at hl 3 rfl) ?_
  refine lv_iconst (v := 0) hx hb dL_law_694 (by decide) ?_
  refine cs_lald hx hb hK hT hk1 hk2 dL_law_695 ?_
  refine lv_iload hx hb dL_law_696 (lv_at hl 6 rfl) ?_
  refine lv_i2l (v := r2.toInt64) hx hb dL_law_698 rfl ?_
  refine W.lcmp hx hb dL_law_699 ?_
  have hz : lg_cmp (cs_al S1 ob (0 : Int32).toNatClampNeg) r2.toInt64 = 0 := by rw [show (0 : Int32).toNatClampNeg = 0 from rfl, hk3]; exact lw_cmp0 _
  exact lv_if_eq (tgt := 705) hx hb dL_law_700 (by decide) (fun hc => fin _ _ hT hJ) (fun hc => absurd hz hc)
end LAWW
