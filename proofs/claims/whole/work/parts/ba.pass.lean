/-! ===== pass, as a call of the law ===== -/
section PSC
variable {G : Nat → Nat} {PX : Nat → Prop} {xo ob tp sc kd pl am rv rc pk wt z y te : Nat} {S S' : cs_S} {σ σ' : rf_S} {Bc Bs : Int}
/-- the log looks at none of the first numbers -/
theorem LG.lo (h : LG G PX wt S σ te Bc Bs) (hi : ∀ kk, 8 ≤ kk → σ'.1 kk = σ.1 kk) (hr : σ'.2 = σ.2) : LG G PX wt S σ' te Bc Bs := by
  obtain ⟨bk, nr, x, k, n, w, q, L, dp, tr, ud, ut, nv, ne, na, nl, now, pr, lr, le, tm, ev, ra, rr, lt, tl, S0, hS, hB, hD, hW, h20, hBc, hBs, hRQ⟩ := h
  have hE0 : eB σ σ' ne nv te := ⟨fun kk hk => hi kk (by omega), fun _ _ _ _ _ _ _ _ => by rw [hr], fun _ _ _ _ _ => by rw [hr]⟩
  have hV0 : eV σ σ' := ⟨fun _ _ => by rw [hr], by rw [hr]⟩
  exact ⟨bk, nr, x, k, n, w, q, L, dp, tr, ud, ut, nv, ne, na, nl, now, pr, lr, le, tm, ev, ra, rr, lt, tl, S0, hS.on hV0 (hi 32 (by omega)) (hi 33 (by omega)), hB.ev hV0, hD.eb2 hE0 (hi 19 (by omega)) (hi 21 (by omega)) (hi 26 (by omega)) (fun _ => by rw [hr]), hW.eb2 hS hD hE0 (hi 22 (by omega)) (hi 23 (by omega)), (hi 20 (by omega)).trans h20, by rw [CB.rows hr]; exact hBc, by rw [CB.rows hr]; exact hBs, hRQ.er (eR.rw hr)⟩
theorem LG.le {Bc' Bs' : Int} (h : LG G PX wt S σ te Bc Bs) (h1 : Bc ≤ Bc') (h2 : Bs ≤ Bs') : LG G PX wt S σ te Bc' Bs' := by
  obtain ⟨bk, nr, x, k, n, w, q, L, dp, tr, ud, ut, nv, ne, na, nl, now, pr, lr, le, tm, ev, ra, rr, lt, tl, S0, hS, hB, hD, hW, h20, hBc, hBs, hRQ⟩ := h
  exact ⟨bk, nr, x, k, n, w, q, L, dp, tr, ud, ut, nv, ne, na, nl, now, pr, lr, le, tm, ev, ra, rr, lt, tl, S0, hS, hB, hD, hW, h20, by omega, by omega, hRQ⟩
theorem pass_call (hC : cf_C G S xo tp sc kd pl am rv rc pk wt) (ht : jX_t S σ xo tp z) (hp : jX_p S σ xo rc pk y) (ho : jX_o S ob am rv) (hL : LG G (PXs G xo ob tp sc kd pl am rv rc pk) wt S σ te Bc Bs) (p1 : Int32) :
    ∃ (m n : Nat) (Bc' Bs' : Int), (m : Int) + Bc' ≤ Bc ∧ (n : Int) + Bs' ≤ Bs ∧ (0 ≤ Bc' ∧ 0 ≤ Bs') ∧ ∀ (Cm Sm : Nat) (xs : Nat → Int32) (i : Nat) (K : cs_S → rf_S → Nat → Nat → Prop) (u v : Nat), xs (i + 1) = p1 → u + m ≤ Cm → v + n ≤ Sm →
      (∀ S1 σ1, cf_C G S1 xo tp sc kd pl am rv rc pk wt → jX_t S1 σ1 xo tp z → jX_p S1 σ1 xo rc pk y → jX_o S1 ob am rv → cs_al S1 ob 0 = cs_al S ob 0 → LG G (PXs G xo ob tp sc kd pl am rv rc pk) wt S1 σ1 te Bc' Bs' → K S1 σ1 (u + m) (v + n)) → lw_pass Cm Sm xs G xo ob i K S σ u v := by
  have hL0 : LG G (PXs G xo ob tp sc kd pl am rv rc pk) wt S (rf_ui σ 0 0) te Bc Bs := hL.lo (fun kk hk => by rw [r1ui, if_neg (by omega)]) rfl
  obtain ⟨a1, a2, a3, a4, a5⟩ := hC.1
  obtain ⟨t1, t2, t3, t4⟩ := id ht
  obtain ⟨p1', p2, p3, p4, p5, p6⟩ := id hp
  have hL1 := hL0
  obtain ⟨bk, nr, x, k, n, w, q, L, dp, tr, ud, ut, nv, ne, na, nl, now, pr, lr, le, tm, ev, ra, rr, lt, tl, S0, hS, hB, hD, hW, h20, hBc, hBs, hRQ⟩ := hL1
  have hWc := hW
  obtain ⟨_, _, _, _, _, hSH, -, -, hFR0⟩ := hWc
  have kw := hSH.1.1
  have i1108 : cs_i S 1108 wt = nI now := hSH.2.1.2.2.2.2.1
  have d5 := hD.1.2.2.2.2
  have i21 : σ.1 21 = nI now := hD.1.2.2.2.1
  have tX0 : jX_t S (rf_ui σ 0 0) xo tp z := ⟨t1, t2, t3, t4⟩
  have pX0 : jX_p S (rf_ui σ 0 0) xo rc pk y := ⟨p1', p2, p3, p4, p5, p6⟩
  -- nothing passes
  have no : (p1 < nI now ∨ ¬ p1 ≤ 2000000000) → _ := fun hno => (show ∃ (m n : Nat) (Bc' Bs' : Int), (m : Int) + Bc' ≤ Bc ∧ (n : Int) + Bs' ≤ Bs ∧ (0 ≤ Bc' ∧ 0 ≤ Bs') ∧ ∀ (Cm Sm : Nat) (xs : Nat → Int32) (i : Nat) (K : cs_S → rf_S → Nat → Nat → Prop) (u v : Nat), xs (i + 1) = p1 → u + m ≤ Cm → v + n ≤ Sm →
      (∀ S1 σ1, cf_C G S1 xo tp sc kd pl am rv rc pk wt → jX_t S1 σ1 xo tp z → jX_p S1 σ1 xo rc pk y → jX_o S1 ob am rv → cs_al S1 ob 0 = cs_al S ob 0 → LG G (PXs G xo ob tp sc kd pl am rv rc pk) wt S1 σ1 te Bc' Bs' → K S1 σ1 (u + m) (v + n)) → lw_pass Cm Sm xs G xo ob i K S σ u v from by
    refine ⟨0, 0, Bc, Bs, by omega, by omega, hL.nn, fun Cm Sm xs i K u v hxs hu hv hK => ⟨0, 0, hu, hv, a1, fun r10 e10 => ⟨wt, e10.trans a5, kw, ?_⟩⟩⟩
    rw [hxs, i1108]
    have hk : wp_X12_pass (fun r2 σ1 => (0 : Int32) = r2 ∧ K S σ1 (u + 0) (v + 0)) σ p1 := by
      refine ⟨fun _ => ⟨rfl, hK S _ hC tX0 pX0 ho rfl hL0⟩, fun h1 => ⟨fun h2 => ?_, fun _ => ⟨rfl, hK S _ hC tX0 pX0 ho rfl hL0⟩⟩⟩
      rw [i21] at h1
      rcases hno with h | h
      · exact absurd h h1
      · exact absurd h2 h
    refine ⟨fun _ => ⟨Nat.le_refl _, Nat.le_refl _, hk⟩, fun h1 => ⟨fun h2 => ?_, fun _ => ⟨Nat.le_refl _, Nat.le_refl _, hk⟩⟩⟩
    rcases hno with h | h
    · exact absurd h h1
    · exact absurd h2 h)
  by_cases h1 : p1 < nI now
  · exact no (Or.inl h1)
  by_cases h2 : p1 ≤ 2000000000
  · -- it passes
    obtain ⟨t, et, hnt, ht2⟩ : ∃ t, p1 = nI t ∧ now ≤ t ∧ t ≤ 2000000000 := by
      have b1 := Int32.le_iff_toInt_le.mp (Int32.not_lt.mp h1)
      have b2 := Int32.le_iff_toInt_le.mp h2
      rw [nI_toInt (by omega)] at b1
      have b3 : (2000000000 : Int32).toInt = 2000000000 := by decide
      rw [b3] at b2
      refine ⟨p1.toInt.toNat, nI_at (by omega) (by omega), by omega, by omega⟩
    have h1' := h1
    rw [et] at h1' h2
    obtain ⟨σ1, nv1, ne1, na1, nl1, pr1, lr1, le1, tm1, c, s, b1, b2, b3, b4, b5, b6, b7, b8, b9⟩ := BC (t := t) ht2 48000 (rf_ui σ 0 0) nv ne na nl now pr lr le tm (by have := (ovc_le (σ := rf_ui σ 0 0) (nl := nl)).1; omega) hnt hS hB hD
    have f1 := b1.1
    refine ⟨c, s, CB 1 5 1 3 2 gP σ1 nr na1 0 0 nl1 n pr1 lr1 le1, CB 6 43 6 13 15 gT σ1 nr na1 0 0 nl1 n pr1 lr1 le1, by omega, by omega, ⟨CB.nn, CB.nn⟩, fun Cm Sm xs i K u v hxs hu hv hK => ⟨c, s, hu, hv, a1, fun r10 e10 => ⟨wt, e10.trans a5, kw, ?_⟩⟩⟩
    rw [hxs, i1108, et]
    refine ⟨fun h => absurd h h1', fun _ => ⟨fun _ r13 e13 => ⟨wt, e13.trans a5, kw, c, s, by omega, by omega, 48001, ?_⟩, fun h => absurd h2 h⟩⟩
    have hl : ∀ a, PXs G xo ob tp sc kd pl am rv rc pk a → cs_k S a ≠ 0 ∧ cs_k S a ≠ 5 := fun a ha => by
      have e1 := hC.2.2.2.2.1.1
      have := (hFR0.2 a ha).1
      have := (hFR0.2 a ha).2.1.1
      refine ⟨by omega, ?_⟩
      obtain ⟨⟨q1, -⟩, ⟨q2, -⟩, ⟨q3, -⟩, ⟨q4, -, q5, -, q6, -, q7, -⟩, ⟨q8, -, q9, -⟩, ⟨-, q10, -⟩, -⟩ := id hC
      have q11 := ho.1
      rcases ha with rfl | rfl | rfl | rfl | rfl | rfl | rfl | rfl | rfl | rfl | rfl <;> omega
    have hW0 := hW.out (P1 := PXs G xo ob tp sc kd pl am rv rc pk) (E := fun _ _ _ => False) fX.rfl (fun _ _ _ y => y.elim) (fun a ha => Or.inl ha)
    refine b9 _ S G S _ c s 0 0 wt rr lt tl 0 ra ev hW0 (by omega) (by omega) (by omega) (fun S1 ev1 hW1 => ?_)
    have hWd := hW1
    obtain ⟨_, _, _, _, _, hSH1, -, -, hFR1⟩ := hWd
    have hO : oF (PXs G xo ob tp sc kd pl am rv rc pk) 0 S S1 := hFR1.of (fun a ha => ha) (fun a ha => (hl a ha).2)
    have hO' : ∀ a, PXs G xo ob tp sc kd pl am rv rc pk a → ∀ f, cs_i S1 f a = cs_i S f a := fun a ha f => ((hFR1.2 a ha).2.1.2.2.1 f (fun h => absurd h (hl a ha).2)).1
    have px : PXs G xo ob tp sc kd pl am rv rc pk xo := Or.inl rfl
    have ptp : PXs G xo ob tp sc kd pl am rv rc pk tp := Or.inr (Or.inl rfl)
    have prc : PXs G xo ob tp sc kd pl am rv rc pk rc := Or.inr (Or.inr (Or.inr (Or.inr (Or.inr (Or.inr (Or.inr (Or.inl rfl)))))))
    have ppk : PXs G xo ob tp sc kd pl am rv rc pk pk := Or.inr (Or.inr (Or.inr (Or.inr (Or.inr (Or.inr (Or.inr (Or.inr (Or.inl rfl))))))))
    have pob : PXs G xo ob tp sc kd pl am rv rc pk ob := Or.inr (Or.inr (Or.inr (Or.inr (Or.inr (Or.inr (Or.inr (Or.inr (Or.inr (Or.inl rfl)))))))))
    refine ⟨fun h => ?_, fun _ => ⟨fun _ => ⟨48002, b8 _ ⟨rfl, hK S1 σ1 (hC.of (ob := ob) hSH1.1.1 (fun a ha => ⟨fun f _ => (hO a ha).2.2.2.2.1 f, (hO a ha).2.2.2.2.2.2.1⟩) hFR1.1) ⟨(hO' xo px 1201).trans t1, t2, ?_, fun j hj => ?_⟩ ⟨?_, ?_, (hO' rc prc 703).trans p3, p4, ?_, fun j hj => ?_⟩ ⟨?_, ?_, ho.2.2⟩ ((hO ob pob).2.2.2.2.2.2.1 0) ⟨bk, nr, x, k, n, w, q, L, dp, tr, ud, ut, nv1, ne1, na1, nl1, t, pr1, lr1, le1, tm1, ev1, ra, rr, lt, tl, S, b2, b3, b4, hW1, ?_, Int.le_refl _, Int.le_refl _, hRQ.er b1.er⟩⟩⟩, fun h => absurd h2 h⟩⟩
    · rw [i21] at h; exact absurd h h1'
    · exact (f1 2 (by decide) (by decide) (by decide) (by decide) (by omega)).trans t3
    · rw [(hO tp ptp).2.2.2.2.2.1 j, b1.2.2.1 1 j (by decide) (by decide) (by omega) (by omega) (by omega)]
      exact t4 j hj
    · rw [hO' xo px, f1 5 (by decide) (by decide) (by decide) (by decide) (by omega)]; exact p1'
    · rw [hO' xo px, f1 7 (by decide) (by decide) (by decide) (by decide) (by omega)]; exact p2
    · exact (f1 85 (by decide) (by decide) (by decide) (by decide) (by omega)).trans p5
    · rw [(hO pk ppk).2.2.2.2.2.1 j, b1.2.2.1 84 j (by decide) (by decide) (by omega) (by omega) (by omega)]
      exact p6 j hj
    · exact (hO ob pob).1.trans ho.1
    · exact (hO ob pob).2.1.trans ho.2.1
    · exact (f1 20 (by decide) (by decide) (by decide) (by decide) (by omega)).trans h20
  · exact no (Or.inr h2)
end PSC
