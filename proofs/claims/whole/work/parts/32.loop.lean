/-! ===== the law's loop, and its body from the entry on ===== -/
def lw_run (Cm Sm L : Nat) (xs : Nat → Int32) (G : Nat → Nat) (xo ob : Nat) : Nat → Nat → cs_S → rf_S → Nat → Nat → Prop
  | 0, i, _, _, _, _ => ¬ i + 6 ≤ L
  | n + 1, i, S, σ, u, v => i + 6 ≤ L → cs_k S xo = 13 ∧ lw_turn Cm Sm xs G xo ob i (fun S1 σ1 u1 v1 => lw_run Cm Sm L xs G xo ob n (i + 6) S1 σ1 u1 v1) S σ u v
theorem lw_le {L i : Nat} (hL : L ≤ 3072) (hi : i ≤ 6000) : (nI L - 6 < nI i) ↔ ¬ i + 6 ≤ L := by
  have h1 : (nI L).toInt = (L : Int) := nI_toInt (by omega)
  have h2 : (nI i).toInt = (i : Int) := nI_toInt (by omega)
  have h3 : (nI L - 6).toInt = (L : Int) - 6 := by
    rw [Int32.toInt_sub, h1]
    show ((L : Int) - 6).bmod (2 ^ 32) = _
    rw [Int.bmod_def]
    split <;> omega
  rw [Int32.lt_iff_toInt_lt, h2, h3]
  omega
section LAWL
variable {p : Program} {l : Launch} {e : Env} {s : State} {m : MethodId} {below : List Frame} {meth : Method} {c : Code} {b L : Nat} {xs : Nat → Int32} {P : hw_G} {G : Nat → Nat} {mo : Nat} {ad : Nat → Nat} {xo ob : Nat}
set_option maxHeartbeats 4000000 in
theorem t_law_23 (hC : lw_C P G l p s m c b L xs) (hr : meth.sig.returnType = ret) (hlk : meth.locks = false) :
    ∀ (n i : Nat), i ≤ 6000 → ∀ (S : cs_S) (σ : rf_S) (u v : Nat) (H : Heap) (locs : List Loc) (ls : Array Slot), lw_run room_1.cells room_1.slots L xs G xo ob n i S σ u v → u ≤ room_1.cells → v ≤ room_1.slots → cs_T P s (fun q => s.heap.size ≤ q) S H locs → lj_J P (fun q => s.heap.size ≤ q) mo ad σ S H → lv_has ls 7 [(0, .ref b), (1, .ref xo), (2, .ref mo), (3, .ref ob), (4, .int (nI i))] →
      W p l e room_1 s m #[Value.ref b] below meth c H locs u v (lw_Z below #[Value.ref b] s) (F0 m 23 ls []) := by
  obtain ⟨hx, hb, hml, hown, hK, hO, hX, hbl, hlx, hL⟩ := id hC
  have hbA : ¬ (fun q : Nat => s.heap.size ≤ q) b := Nat.not_le.mpr hbl
  have fin : ∀ (i : Nat) (u v : Nat) (H : Heap) (locs : List Loc) (ls : Array Slot), i ≤ 6000 → ¬ i + 6 ≤ L → u ≤ room_1.cells → v ≤ room_1.slots → va_S (fun q => s.heap.size ≤ q) s.heap H locs → lv_has ls 7 [(0, .ref b), (4, .int (nI i))] → W p l e room_1 s m #[Value.ref b] below meth c H locs u v (lw_Z below #[Value.ref b] s) (F0 m 23 ls []) := by
    intro i u v H locs ls hi6 hi hu hv hS hl
    refine lv_iload hx hb dL_law_23 (lv_at hl 1 rfl) ?_
    refine lv_aload_n hx hb dL_law_25 rfl (lv_at hl 0 rfl) ?_
    refine va_slen hx hb hX hbl hbA hS dL_law_26 ?_
    refine lv_bipush (v := 6) hx hb dL_law_27 (by decide) ?_
    refine lv_isub hx hb dL_law_29 ?_
    refine lv_icmp_gt (tgt := 714) hx hb dL_law_30 (by decide) (fun hc => ?_) (fun hc => absurd ((lw_le hL hi6).mpr hi) hc)
    refine lv_iconst (v := 1) hx hb dL_law_714 (by decide) ?_
    exact va_forget hS.2.2 (W.widen hu hv (lw_ret hx hb hr hlk dL_law_715))
  intro n
  induction n with
  | zero =>
    intro i hi6 S σ u v H locs ls h hu hv hT hJ hl
    exact fin i u v H locs ls hi6 h hu hv hT.1 (lv_sub hl [0, 4] rfl)
  | succ n ih =>
    intro i hi6 S σ u v H locs ls h hu hv hT hJ hl
    by_cases hi : i + 6 ≤ L
    · obtain ⟨hko, h⟩ := h hi
      refine lv_iload hx hb dL_law_23 (lv_at hl 4 rfl) ?_
      refine lv_aload_n hx hb dL_law_25 rfl (lv_at hl 0 rfl) ?_
      refine va_slen hx hb hX hbl hbA hT.1 dL_law_26 ?_
      refine lv_bipush (v := 6) hx hb dL_law_27 (by decide) ?_
      refine lv_isub hx hb dL_law_29 ?_
      refine lv_icmp_gt (tgt := 714) hx hb dL_law_30 (by decide) (fun hc => absurd hi ((lw_le hL hi6).mp hc)) (fun hc => ?_)
      refine lv_aload_n hx hb dL_law_33 rfl (lv_at hl 0 rfl) ?_
      refine lv_iload hx hb dL_law_34 (lv_at hl 4 rfl) ?_
      refine va_sld hx hb hX hbl hbA hT.1 (nI_in (by omega : i < L) (by omega)) dL_law_36 ?_
      rw [nI_clamp (by omega : i < 2 ^ 31)]
      refine lv_bipush (v := 15) hx hb dL_law_37 (by decide) ?_
      refine lv_iand hx hb dL_law_39 ?_
      have kk : ∀ (u v : Nat) (S : cs_S) (σ : rf_S) (H : Heap) (locs : List Loc) (ls : Array Slot), lw_run room_1.cells room_1.slots L xs G xo ob n (i + 6) S σ u v → u ≤ room_1.cells → v ≤ room_1.slots → cs_T P s (fun q => s.heap.size ≤ q) S H locs → lj_J P (fun q => s.heap.size ≤ q) mo ad σ S H → lv_has ls 7 [(0, .ref b), (1, .ref xo), (2, .ref mo), (3, .ref ob), (4, .int (nI i))] → W p l e room_1 s m #[Value.ref b] below meth c H locs u v (lw_Z below #[Value.ref b] s) (F0 m 708 ls []) := by
        intro u v S σ H locs ls h hu hv hT hJ hl
        refine lv_iinc (v := nI i + nI 6) (lv' := [(4, _), (0, _), (1, _), (2, _), (3, _)]) hx hb dL_law_708 hl (k := 4) rfl rfl (by decide) rfl (fun ls hl_ => ?_)
        refine lv_goto (tgt := 23) hx hb dL_law_711 (by decide) ?_
        refine ih (i + 6) (by omega) S σ u v H locs ls h hu hv hT hJ ?_
        rw [← lw_ad]
        exact lv_sub hl_ [1, 2, 3, 4, 0] rfl
      obtain ⟨h0, h1, h2, h3, h4, h5, h6, h7, h8, h9, h10, h11, h12, h13, h14⟩ := h
      by_cases hz : (xs i &&& 15).toInt < 0 ∨ 13 < (xs i &&& 15).toInt
      · refine lv_tableOut (tgt := 708) hx hb dL_law_40 hz (by decide) ?_
        exact kk u v S σ H locs ls (h14 hz) hu hv hT hJ hl
      · have hz : (xs i &&& 15).toInt = 0 ∨ (xs i &&& 15).toInt = 1 ∨ (xs i &&& 15).toInt = 2 ∨ (xs i &&& 15).toInt = 3 ∨ (xs i &&& 15).toInt = 4 ∨ (xs i &&& 15).toInt = 5 ∨ (xs i &&& 15).toInt = 6 ∨ (xs i &&& 15).toInt = 7 ∨ (xs i &&& 15).toInt = 8 ∨ (xs i &&& 15).toInt = 9 ∨ (xs i &&& 15).toInt = 10 ∨ (xs i &&& 15).toInt = 11 ∨ (xs i &&& 15).toInt = 12 ∨ (xs i &&& 15).toInt = 13 := by omega
        rcases hz with hz | hz | hz | hz | hz | hz | hz | hz | hz | hz | hz | hz | hz | hz
        · exact hw_tab (tgt := 112) hx hb hz dL_law_40 (by decide) (by decide) (off := 72) rfl (by decide) (t_law_feed hC hi kk (h0 hz) hko hu hv hT hJ hl)
        · exact hw_tab (tgt := 185) hx hb hz dL_law_40 (by decide) (by decide) (off := 145) rfl (by decide) (t_law_end hC hi kk (h1 hz) hko hu hv hT hJ hl)
        · exact hw_tab (tgt := 210) hx hb hz dL_law_40 (by decide) (by decide) (off := 170) rfl (by decide) (t_law_rules hC hi kk (h2 hz) hko hu hv hT hJ hl)
        · exact hw_tab (tgt := 223) hx hb hz dL_law_40 (by decide) (by decide) (off := 183) rfl (by decide) (t_law_fault hC hi kk (h3 hz) hko hu hv hT hJ hl)
        · exact hw_tab (tgt := 236) hx hb hz dL_law_40 (by decide) (by decide) (off := 196) rfl (by decide) (t_law_place hC hi kk (h4 hz) hko hu hv hT hJ hl)
        · exact hw_tab (tgt := 249) hx hb hz dL_law_40 (by decide) (by decide) (off := 209) rfl (by decide) (t_law_take hC hi kk (h5 hz) hko hu hv hT hJ hl)
        · exact hw_tab (tgt := 262) hx hb hz dL_law_40 (by decide) (by decide) (off := 222) rfl (by decide) (t_law_pass hC hi kk (h6 hz) hko hu hv hT hJ hl)
        · exact hw_tab (tgt := 287) hx hb hz dL_law_40 (by decide) (by decide) (off := 247) rfl (by decide) (t_law_count hC hi kk (h7 hz) hko hu hv hT hJ hl)
        · exact hw_tab (tgt := 312) hx hb hz dL_law_40 (by decide) (by decide) (off := 272) rfl (by decide) (t_law_alert hC hi kk (h8 hz) hko hu hv hT hJ hl)
        · exact hw_tab (tgt := 380) hx hb hz dL_law_40 (by decide) (by decide) (off := 340) rfl (by decide) (t_law_key hC hi kk (h9 hz) hko hu hv hT hJ hl)
        · exact hw_tab (tgt := 460) hx hb hz dL_law_40 (by decide) (by decide) (off := 420) rfl (by decide) (t_law_rule hC hi kk (h10 hz) hko hu hv hT hJ hl)
        · exact hw_tab (tgt := 528) hx hb hz dL_law_40 (by decide) (by decide) (off := 488) rfl (by decide) (t_law_event hC hi kk (h11 hz) hko hu hv hT hJ hl)
        · exact hw_tab (tgt := 596) hx hb hz dL_law_40 (by decide) (by decide) (off := 556) rfl (by decide) (t_law_pack hC hi kk (h12 hz) hko hu hv hT hJ hl)
        · exact hw_tab (tgt := 652) hx hb hz dL_law_40 (by decide) (by decide) (off := 612) rfl (by decide) (t_law_octet hC hi kk (h13 hz) hko hu hv hT hJ hl)
    · exact fin i u v H locs ls hi6 hi hu hv hT.1 (lv_sub hl [0, 4] rfl)
end LAWL
/-- what is left of the law when the machine is gone -/
def lw_all (Cm Sm L : Nat) (xs : Nat → Int32) : Prop := ∀ (G : Nat → Nat) (xo : Nat), G 0 ≠ G 1 → cs_k (cs_00 G) xo = 0 → ∃ mc ms, 1 + mc + 1 + 51 + 1 ≤ Cm ∧ 7 + ms + 86 + 788530 + 1 ≤ Sm ∧
  wp_X11_init (fun S1 => wp_X12_emptyLog (fun σ => ∀ ob, cs_k S1 ob = 0 → ∃ n, lw_run Cm Sm L xs G xo ob n 0 (cs_newA S1 ob 21 1) σ (1 + mc + 1 + 51 + 1) (7 + ms + 86 + 788530 + 1)) rf_i0) G mc ms (cs_new (cs_00 G) xo 12) xo
set_option maxHeartbeats 8000000 in
set_option maxRecDepth 100000 in
theorem lw_body {p : Program} {e : Env} {s : State} {m : MethodId} {below : List Frame} {meth : Method} {c : Code} (l : Launch) (hlx : l.stackTraces = false) {b L : Nat} {xs : Nat → Int32} (hL : L ≤ 3072) (hpure : lw_all room_1.cells room_1.slots L xs) (C0 : lw_At p s m meth c b L xs) : W p l e room_1 s m #[Value.ref b] below meth c s.heap [] 0 0 (lw_Z below #[Value.ref b] s) (entryFrame m ([Value.ref b] : List Value).toArray 7) := by
  obtain ⟨hx, hb, hr, hml, hown, hts, hX, hbl, hlocks, hgv⟩ := id C0
  obtain ⟨P, G, hK, hO, hG01, hin0⟩ := hs_O hts hgv
  have hC : lw_C P G l p s m c b L xs := ⟨hx, hb, hml, hown, hK, hO, hX, hbl, hlx, hL⟩
  have hT : cs_T P s (fun q => s.heap.size ≤ q) (cs_00 G) s.heap [] := by
    refine ⟨va_S.rf, hin0, fun a e9 h9 hw => ?_, fun q h => h⟩
    exfalso
    have hk := cs_00k (G := G) (a := a)
    by_cases h1 : a = G 1
    · rw [if_pos h1] at hk
      rw [cs_M_arr hk (by decide)] at h9
      cases h9
      have hn0 : cs_n (cs_00 G) a = 0 := by simp [cs_n, cs_00, cs_newA, va_up, h1]
      simp [hw_w, hn0] at hw
    · by_cases h2 : a = G 0
      · rw [if_neg h1, if_pos h2] at hk
        rw [cs_M_arr hk (by decide)] at h9
        cases h9
        have hn0 : cs_n (cs_00 G) a = 0 := by simp [cs_n, cs_00, cs_newA, va_up, h1, h2]
        simp [hw_w, hn0] at hw
      · rw [if_neg h1, if_neg h2] at hk
        simp [cs_M, hk] at h9
  have hl := lv_entry ([.ref b]) (n := 7) (Nat.le_of_ble_eq_true rfl)
  rw [lg_entry_eq]
  generalize (lg_sl ([.ref b]) ++ List.replicate (7 - (lg_sl ([.ref b])).length) Slot.unset).toArray = ls at hl ⊢
  have hl : lv_has ls 7 [(0, .ref b)] := hl
  -- the class's object
  refine cs_newo hx hb hK hT hown 12 (by decide) rfl tyX11_ok cs_df12 kxL_8 hs_jX11 kn_X11 (Nat.le_of_ble_eq_true rfl) (Nat.le_of_ble_eq_true rfl) dL_law_0 (fun xo H hq hT => ?_)
  obtain ⟨mc, ms, hm1, hm2, h⟩ := hpure G xo hG01 hq
  have hrc : room_1.cells = room_1.cells := rfl
  refine lv_dup hx hb dL_law_3 rfl ?_
  refine cs_callv (cs_runI hx hb hml hown hK hO hT (c_X11_init h) rfl rfl klL_32 ki_X11_init kn_X11 kc_X11_init rfl 0 ⟨by decide, by decide, by decide +kernel⟩ ⟨Nat.le_of_ble_eq_true rfl, Nat.le_of_ble_eq_true rfl⟩ rfl hl.1 rfl (hw_cat8 (Nat.le_of_ble_eq_true rfl)) ⟨by omega, by omega⟩ dL_law_4) hT (fun S1 H locs h hT => ?_)
  refine lv_astore_n (lv' := [(1, _), (0, _)]) hx hb dL_law_7 rfl hl (by decide) rfl (fun ls hl => ?_)
  -- the reference's object
  obtain ⟨hKn, -, -⟩ := hK.2.1 13 _ rf_c13
  refine W.newcK hx hb hown (hK.word kxL_33 rfl) (hK.word hs_jX12 rfl) (hK.word kn_X12 rfl) rfl dL_law_8 (by omega) (by omega) hKn.2.1 rfl fun H1 kC hkC e1 z1 o1 => ?_
  have hob := u_born tyX12 (hK.lays (args := #[Value.ref b]) rf_c13) (fun _ h => h) hKn hkC e1 tyX12_ok
  have hnew : s.heap.size ≤ H.size := hT.1.1
  have hmo : cs_M S1 H.size = none := hT.fresh
  have hS1 : va_S (fun q => s.heap.size ≤ q) s.heap H1 locs := ⟨Nat.le_trans hT.1.1 (by omega), fun x h1 h2 => (o1 x (Nat.lt_of_lt_of_le h1 hT.1.1)).trans (hT.1.2.1 x h1 h2), hT.1.2.2⟩
  have hT1 : cs_T P s (fun q => s.heap.size ≤ q) S1 H1 locs := ⟨hS1, fun a e9 h9 => (hT.2.1 a e9 h9).kept (o1 a (hT.2.1 a e9 h9).lt), hT.2.2⟩
  refine lv_dup hx hb dL_law_11 rfl ?_
  have hOr : ∀ U : State, U.heap = H1 → s.WarmedH U.vm → rfi_Pc P G H.size H1.size #[Value.ref H.size] U := by
    intro U hU hW
    refine ⟨rfl, by rw [hU], by rw [hU]; exact hob, hK.warm hW, ?_⟩
    rw [hU]
    refine hO.to hS1.2.1 hW (fun q hq => ?_)
    rcases hq with rfl | hq
    · exact hnew
    · exact Nat.le_trans hS1.1 hq
  have hbd : FrameBlind (rfi_Pc P G H.size H1.size) := fun a U g mk h => ⟨h.1, h.2.1, h.2.2.1, hw_K.same (s := U) rfl h.2.2.2.1, cs_O.to (s := U) h.2.2.2.2 (fun _ _ _ => rfl) (State.WarmedH.refl U) (fun _ h => h)⟩
  have hw1 : ∀ w ∈ [Cond.code yX12_init cX12_init 7 none], w.before #[Value.ref b] s = true := fun w hw => by rw [List.mem_singleton.mp hw]; exact hK.word kc_X12_init rfl
  have hw2 : GoodIn [Cond.code yX12_init cX12_init 7 none] [Cond.code yX12_init cX12_init 7 none] := fun w hw => ⟨hw, by rw [List.mem_singleton.mp hw]; exact good_of_word rfl⟩
  refine va_callv (va_runI (As := []) (rest := [.ref H.size]) ⟨hx, hb, hml, hown, hw1⟩ (c_X12_init (post := fun u => ∀ ob, cs_k S1 ob = 0 → ∃ n, lw_run room_1.cells room_1.slots L xs G xo ob n 0 (cs_newA S1 ob 21 1) u.2 (1 + mc + 1 + 51 + 1) (7 + ms + 86 + 788530 + 1)) (fun ad => h)) (cwI 0 hw1 hw2 rfl rfl rfl (hK.word kn_X12 rfl) (hK.word klL_35 rfl) (hK.word ki_X12_init rfl) rfl ⟨by decide, by decide, by decide +kernel⟩ ⟨Nat.le_of_ble_eq_true rfl, Nat.le_of_ble_eq_true rfl⟩) ⟨hbd, hOr⟩ rfl rfl hl.1 rfl (lv_room (hw_cat8 (Nat.le_of_ble_eq_true rfl))) dL_law_12 ⟨by omega, by omega⟩) hS1 (fun q _ hq => ?_) (fun q hq => ?_) (fun u t H2 locs2 ht hal hp hB hz hk hS2 => ?_)
  · rcases hq with rfl | hq
    · exact hnew
    · exact Nat.le_trans hS1.1 hq
  · rcases hq with rfl | hq
    · exact hnew
    · exact Nat.le_trans hS1.1 hq
  obtain ⟨ad, σ⟩ := u
  have hkeep : ∀ a e9, cs_M S1 a = some e9 → H2[a]? = H1[a]? := by
    intro a e9 h9
    refine hk a (hT1.2.1 a e9 h9).lt (fun hq => ?_)
    rcases hq with rfl | hq
    · rw [hmo] at h9; cases h9
    · exact absurd (hT1.2.1 a e9 h9).lt (Nat.not_lt.mpr hq)
  have hT2 : cs_T P s (fun q => s.heap.size ≤ q) S1 H2 locs2 := ⟨hS2, fun a e9 h9 => (hT1.2.1 a e9 h9).kept (hkeep a e9 h9), hT1.2.2⟩
  have hJ2 : lj_J P (fun q => s.heap.size ≤ q) H.size ad σ S1 H2 := by
    refine ⟨by rw [← ht]; exact hB.1, hB.2.1, fun q hq => ?_, fun q hq => ?_⟩
    · rcases hB.2.2.1 q hq with rfl | h9
      · exact hnew
      · exact Nat.le_trans hS1.1 h9
    · rcases hB.2.2.1 q hq with rfl | h9
      · exact hmo
      · cases h8 : cs_M S1 q with
        | none => rfl
        | some e9 => exact absurd (hT1.2.1 q e9 h8).lt (Nat.not_lt.mpr h9)
  refine lv_astore_n (lv' := [(2, _), (1, _), (0, _)]) hx hb dL_law_15 rfl hl (by decide) rfl (fun ls hl => ?_)
  -- the row for answers
  refine lv_iconst (v := 1) hx hb dL_law_16 (by decide) ?_
  refine va_newaK (atype := .long) hx hb (hK.word (w := Cond.arrayClass .long) ka_long rfl) rfl dL_law_17 rfl (by decide) (N := 1) rfl (by decide) (by show _ ≤ room_1.cells; omega) (by show _ ≤ room_1.slots; omega) rfl fun H3 cA e3 z3 o3 hAr hNm => ?_
  have hcA : cA = P.2.1 .long := Option.some.inj (hNm.symm.trans (hK.2.2.1 .long (by decide)).2)
  subst hcA
  have hq3 : cs_k S1 H2.size = 0 := cs_M_none hT2.fresh
  obtain ⟨n, hrun⟩ := hp H2.size hq3
  have eM : hw_up (cs_M S1) H2.size (.inr (.long, 1, fun _ => defaultValue .long)) = cs_M (cs_newA S1 H2.size 21 1) := cs_M_newA (k := 21) (n := 1) (v := .long 0) (by decide) rfl
  have hT3 : cs_T P s (fun q => s.heap.size ≤ q) (cs_newA S1 H2.size 21 1) H3 locs2 := by
    have h9 := hT2.new (hw_at.arr e3) z3 o3
    unfold cs_T
    rw [← eM]
    exact h9
  have hJ3 : lj_J P (fun q => s.heap.size ≤ q) H.size ad σ (cs_newA S1 H2.size 21 1) H3 := by
    refine ⟨hJ2.1.kept (fun q hq => o3 q (hJ2.1.lt hq)), hJ2.2.1, hJ2.2.2.1, fun q hq => ?_⟩
    rw [← eM, hw_up_ne (Nat.ne_of_lt (hJ2.1.lt hq))]
    exact hJ2.2.2.2 q hq
  refine lv_astore_n (lv' := [(3, _), (2, _), (1, _), (0, _)]) hx hb dL_law_19 rfl hl (by decide) rfl (fun ls hl => ?_)
  refine lv_iconst (v := 0) hx hb dL_law_20 (by decide) ?_
  refine lv_istore (lv' := [(4, _), (3, _), (2, _), (1, _), (0, _)]) hx hb dL_law_21 hl (by decide) rfl (fun ls hl => ?_)
  have e1 : 0 + 1 + mc + 1 + 51 + 1 = 1 + mc + 1 + 51 + 1 := by omega
  have e2 : 0 + 7 + ms + 86 + 788530 + 1 = 7 + ms + 86 + 788530 + 1 := by omega
  have goal := t_law_23 (e := e) (below := below) (mo := H.size) (ad := ad) (xo := xo) (ob := H2.size) hC hr hlocks n 0 (by decide) _ σ _ _ H3 locs2 ls hrun hm1 hm2 hT3 hJ3 (lv_sub hl [4, 3, 2, 1, 0] rfl)
  rw [← e1, ← e2] at goal
  exact goal
