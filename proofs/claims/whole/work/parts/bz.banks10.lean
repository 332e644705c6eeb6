/-! ===== the log, in its bank ===== -/
section BNA
variable {G : Nat → Nat} {PX P0 : Nat → Prop} {S S0 : cs_S} {σ σ' : rf_S} {bk c nr wt te : Nat} {x k n w q L : Nat → Nat} {dp : Nat → Nat → Nat} {tr : (r c : Nat) → cT (dp r c)} {ud : Nat → Nat} {ut : (r : Nat) → Option (cT (ud r))} {nv ne na nl now ns : Nat} {pr lr le tm : Nat → Nat} {Bc Bs : Int}
theorem eL.row (hE : eL σ σ' bk c) {k : Nat} (hk : (8 ≤ k ∧ k < 35) ∨ (63 ≤ k ∧ k < 84)) : σ'.2.2.1 k = σ.2.2.1 k := funext fun j => hE.2.1 k j hk
theorem eL.lrow (hE : eL σ σ' bk c) {k : Nat} (h1 : 8 ≤ k) (h2 : k < 35) : σ'.2.2.2 k = σ.2.2.2 k := funext fun j => hE.2.2 k j h1 h2
theorem jD_bk (hE : eL σ σ' bk c) (hnr : nr ≤ 12) (hn : ∀ r, r < nr → n r ≤ 3) (hi : ∀ k, 62 ≤ k ∧ k < 84 → σ'.1 k = σ.1 k) (h : jD σ nr bk nl na ns n pr lr le) : jD σ' nr bk nl na ns n pr lr le := by
  have row : ∀ k, 63 ≤ k ∧ k < 84 → σ'.2.2.1 k = σ.2.2.1 k := fun k hk => hE.row (Or.inr hk)
  obtain ⟨h1, h2, h3, h4, h5, h6⟩ := h
  have ew : ∀ r, wct σ' r nl = wct σ r nl := fun r => by unfold wct; rw [row 69 (by omega), row 71 (by omega)]
  have ef : fct σ' nr = fct σ nr := by unfold fct; rw [row 67 (by omega)]
  refine ⟨fun r hr => ?_, ⟨by rw [hi 72 (by omega)]; exact h2.1, h2.2.1, fun j hj => ?_⟩, by rw [hi 78 (by omega)]; exact h3, by rw [ef]; exact h4, by rw [hi 83 (by omega)]; exact h5, by rw [ef]; exact h6⟩
  · obtain ⟨a1, a2, a4, a5, F, a6, a7, a8⟩ := h1 r hr
    exact ⟨a1, kI_bk hE (by omega) (hn r hr) a2, by rw [row 63 (by omega)]; exact a4, by rw [row 63 (by omega), row 64 (by omega)]; exact a5, F, by rw [row 67 (by omega)]; exact a6, by rw [ew]; exact a7, by rw [row 65 (by omega), row 66 (by omega)]; exact a8⟩
  · rw [row 69 (by omega), row 70 (by omega), row 71 (by omega), row 63 (by omega)]
    exact h2.2.2 j hj
theorem RD_bk (hE : eL σ σ' bk c) (hnr : nr ≤ 12) (hn : ∀ r, r < nr → n r ≤ 3) (hi : ∀ k, (8 ≤ k ∧ k < 32) ∨ (62 ≤ k ∧ k < 84) → σ'.1 k = σ.1 k) (h : RD σ bk nr x n w te nv ne na ns nl now pr lr le tm) : RD σ' bk nr x n w te nv ne na ns nl now pr lr le tm := by
  obtain ⟨⟨d1, d2, d3, d4, d5⟩, d6, d7, ⟨d8a, d8, d8b, d8c, d8d⟩, d9, d10, d11, d12, d13, d14⟩ := h
  have row : ∀ k, (8 ≤ k ∧ k < 35) ∨ (63 ≤ k ∧ k < 84) → σ'.2.2.1 k = σ.2.2.1 k := fun k hk => hE.row hk
  have vc : vC σ' = vC σ := funext fun f => vC_bk hE f
  have ff : fF σ' = fF σ := funext fun v => by unfold fF; rw [row 24 (by omega)]
  have mn : mN σ' = mN σ := funext fun o => by unfold mN; rw [row 9 (by omega)]
  have vw : vW σ' = vW σ := funext fun t => funext fun f => by unfold vW; rw [row 14 (by omega), row 15 (by omega), row 16 (by omega)]
  have ew : eW σ' = eW σ := funext fun t => funext fun o => funext fun m => by unfold eW; rw [row 9 (by omega), vw]
  refine ⟨⟨(hi 19 (by omega)).trans d1, d2, d3, (hi 21 (by omega)).trans d4, d5⟩, ?_, d7, ⟨?_, ?_, ?_, d8c, ?_⟩, ?_, jD_bk hE hnr hn (fun k hk => hi k (Or.inr hk)) d10, d11, ?_, ?_, d14⟩
  · rw [ew, row 8 (by omega), row 10 (by omega)]; exact d6
  · unfold nT at d8a ⊢
    rw [vc, ff, vw, row 25 (by omega), row 24 (by omega), hi 26 (by omega)]; exact d8a
  · unfold wqI at d8 ⊢
    rw [mn, row 17 (by omega), vc]; exact d8
  · rw [mn, row 17 (by omega), vc, ff]; exact d8b
  · rw [ff]; exact d8d
  · rw [row 68 (by omega)]; exact d9
  · rw [row 65 (by omega), row 66 (by omega)]
    intro r f hr hf hk
    rw [KfO_bk hE] at hk
    exact d12 r f hr hf hk
  · rw [row 71 (by omega)]; exact d13
theorem evR_bk (hE : eL σ σ' bk c) {q e m : Nat} (h : evR S σ te q e m) : evR S σ' te q e m := by
  have row : ∀ k, (8 ≤ k ∧ k < 35) ∨ (63 ≤ k ∧ k < 84) → σ'.2.2.1 k = σ.2.2.1 k := fun k hk => hE.row hk
  unfold evR flR vlR at h ⊢
  rw [hE.lrow (k := 11) (by omega) (by omega), hE.lrow (k := 12) (by omega) (by omega), hE.lrow (k := 13) (by omega) (by omega), row 9 (by omega), row 14 (by omega), row 15 (by omega), row 16 (by omega), row 18 (by omega)]
  exact h
theorem CW_bk {wa rr lt tl : Nat} {ra ev : Nat → Nat} (h : CW P0 S0 G S σ wa rr lt tl bk nr ra x k n w q L dp tr ud ut te ne na 0 0 nl now pr lr le tm ev) (h0 : RS0 σ bk nr x k n w q L dp tr ud ut) (hK : RK σ bk nr k c) (hE : eL σ σ' bk c) (hi : ∀ k, (8 ≤ k ∧ k < 32) ∨ (62 ≤ k ∧ k < 84) → σ'.1 k = σ.1 k) : CW P0 S0 G S σ' wa rr lt tl bk nr ra x k n w q L dp tr ud ut te ne na 0 0 nl now pr lr le tm ev := by
  obtain ⟨ko, Ow, al, ed, wl, hSH, hCR, hdis, hFR⟩ := h
  have row : ∀ k, (8 ≤ k ∧ k < 35) ∨ (63 ≤ k ∧ k < 84) → σ'.2.2.1 k = σ.2.2.1 k := fun k hk => hE.row hk
  refine ⟨ko, Ow, al, ed, wl, ?_, fun r hr => CR_bk h0 hK hE hr (hCR r hr), hdis, hFR⟩
  obtain ⟨h1, ⟨i1, i2, i3, i4, i5, i6⟩, h11, h12, ⟨h13, h14⟩, h15, h16, h17, h18, h19, h20, h21⟩ := hSH
  have ewl : wl = [] := List.length_eq_zero_iff.mp h17
  subst ewl
  refine ⟨h1, ⟨i1, by rw [hi 23 (by omega)]; exact i2, i3, by rw [hi 79 (by omega)]; exact i4, i5, by rw [hi 22 (by omega)]; exact i6⟩, fun o ho => ?_, h12, ⟨h13, fun i hi => ?_⟩, h15, h16, rfl, fun i y re z1 _ => by simp at z1, h19, h20, h21⟩
  · obtain ⟨⟨m', g1⟩, g2, g3, g4, g5⟩ := h11 o ho
    exact ⟨⟨m', evR_bk hE g1⟩, g2, g3, by rw [row 10 (by omega)]; exact g4, g5⟩
  · have h := h14 i hi
    unfold AL KfO at h ⊢
    rw [row 73 (by omega), row 74 (by omega), row 75 (by omega), row 76 (by omega), row 77 (by omega), row 63 (by omega)]
    exact h
theorem CB_bk (hE : eL σ σ' bk c) {p0 p1 t mk kc : Nat} {gf : Nat → Nat} : CB p0 p1 t mk kc gf σ' nr na 0 0 nl n pr lr le = CB p0 p1 t mk kc gf σ nr na 0 0 nl n pr lr le := by
  have row : ∀ k, (8 ≤ k ∧ k < 35) ∨ (63 ≤ k ∧ k < 84) → σ'.2.2.1 k = σ.2.2.1 k := fun k hk => hE.row hk
  unfold CB KfO lcB scB pcB mN
  rw [row 63 (by omega), row 71 (by omega), row 10 (by omega), row 9 (by omega), row 82 (by omega), row 81 (by omega)]
theorem RK_bk (hK : RK σ bk nr k c) (h0 : RS0 σ bk nr x k n w q L dp tr ud ut) (hE : eJ σ σ' bk c) : RK σ' bk nr k c := by
  obtain ⟨k1, k2, k3, k4⟩ := hK
  obtain ⟨e1, e2, e3, e4, e5⟩ := hE
  have hnr := h0.2.2.2.1
  refine ⟨k1, fun m hm => ?_, fun m hm => ?_, fun r hr => ⟨fun j m hj hm he => ?_, fun m hm he => ?_⟩⟩
  · rw [e1.1 47 m (by decide) (by decide) hm, e1.1 48 m (by decide) (by decide) hm, e1.1 49 m (by decide) (by decide) hm]; exact k2 m hm
  · rw [e1.1 51 m (by decide) (by decide) hm, e1.1 47 m (by decide) (by decide) hm, e1.1 48 m (by decide) (by decide) hm, e1.1 50 m (by decide) (by decide) hm]; exact k3 m hm
  · have hk5 := (h0.2.2.2.2 r hr).1.2.2.2.2.2.2.2.2.2.1.2.2.1
    rw [e3 _ (by omega) (by omega)] at he
    exact (k4 r hr).1 j m hj hm he
  · rw [e2 42 _ (by omega) (by omega) (by omega) (by omega) (by omega)] at he
    exact (k4 r hr).2 m hm he
theorem eL.mono {c' : Nat} (h : eL σ σ' bk c') (hc : c ≤ c') : eL σ σ' bk c := by
  obtain ⟨⟨⟨e1, e2, e3⟩, e4⟩, e5⟩ := h
  exact ⟨⟨⟨fun k m h1 h2 hm => e1 k m h1 h2 ⟨hm.1, by have := hm.2; omega⟩, fun m hm => e2 m ⟨hm.1, by have := hm.2; omega⟩, e3⟩, e4⟩, e5⟩
/-- the log survives what goes on in the other bank -/
theorem LG.bnk (h : LG G PX wt S σ te Bc Bs) (hE : ∀ b, b ≤ 1 → σ.1 32 = nI b → eL σ σ' b 1100) (hi : ∀ k, (8 ≤ k ∧ k < 34) ∨ (62 ≤ k ∧ k < 84) → σ'.1 k = σ.1 k) (h59 : σ'.2.2.2 59 = σ.2.2.2 59) : LG G PX wt S σ' te Bc Bs := by
  obtain ⟨bk, nr, x, k, n, w, q, L, dp, tr, ud, ut, nv, ne, na, nl, now, pr, lr, le, tm, ev, ra, rr, lt, tl, S0, hS, hB, hD, hW, h20, hBc, hBs, ⟨c, hK⟩, hq⟩ := h
  have hE := (hE bk hS.2.1 hS.1).mono hK.1
  have hn : ∀ r, r < nr → n r ≤ 3 := fun r hr => (hS.2.2.2.2 r hr).1.2.2.2.1
  have hi2 : ∀ k, (8 ≤ k ∧ k < 32) ∨ (62 ≤ k ∧ k < 84) → σ'.1 k = σ.1 k := fun k hk => hi k (by omega)
  exact ⟨bk, nr, x, k, n, w, q, L, dp, tr, ud, ut, nv, ne, na, nl, now, pr, lr, le, tm, ev, ra, rr, lt, tl, S0, RS0_bk hS hK hE.1 (hi 32 (by omega)) (hi 33 (by omega)), RB_bk hE hS.2.2.2.1 hn hB, RD_bk hE hS.2.2.2.1 hn hi2 hD, CW_bk hW hS hK hE hi2, (hi 20 (by omega)).trans h20, by rw [CB_bk hE]; exact hBc, by rw [CB_bk hE]; exact hBs, ⟨c, RK_bk hK hS hE.1⟩, by rw [h59]; exact hq⟩
end BNA
