/-! ===== one made event comes, whole ===== -/
section MKS
variable {σ : rf_S} {bk nr te nv ne na ns ks nl now : Nat} {x k n w q L : Nat → Nat} {dp : Nat → Nat → Nat} {tr : (r c : Nat) → cT (dp r c)} {ud : Nat → Nat} {ut : (r : Nat) → Option (cT (ud r))} {pr lr le tm : Nat → Nat}
theorem MK (hS : RS0 σ bk nr x k n w q L dp tr ud ut) (hB : RB σ bk nr n) (hD : RD σ bk nr x n w te nv ne na ns nl now pr lr le tm) (hQ : SQ σ nr pr ks ns) (hks : ks < ns) (hmk : σ.2.2.1 10 (σ.2.2.1 82 ks).toNatClampNeg = -1) (hne : ne < 4000) :
    ∃ (σ1 : rf_S) (nv1 na1 ns1 nl1 : Nat) (pr1 lr1 le1 : Nat → Nat) (c s : Nat), lF σ σ1 ∧ RS0 σ1 bk nr x k n w q L dp tr ud ut ∧ RB σ1 bk nr n ∧ RD σ1 bk nr x n w te nv1 (ne + 1) na1 ns1 nl1 now pr1 lr1 le1 (prU tm ne now) ∧ ns ≤ ns1 ∧ SQ σ1 nr pr1 (ks + 1) ns1 ∧ (∀ kk, kk < ns → σ1.2.2.1 81 kk = σ.2.2.1 81 kk ∧ σ1.2.2.1 82 kk = σ.2.2.1 82 kk) ∧ (∀ kk, ns ≤ kk → kk < ns1 → ¬ σ1.2.2.1 10 (σ1.2.2.1 82 kk).toNatClampNeg = -1) ∧ (∀ o, o < ne → σ1.2.2.1 10 o = σ.2.2.1 10 o) ∧ (nl ≤ nl1 ∧ ∀ j, j < nl → σ1.2.2.1 71 j = 1 ∨ σ1.2.2.1 71 j = σ.2.2.1 71 j) ∧
      (c : Int) + CB 1 5 1 3 2 gP σ1 nr na1 ns1 (ks + 1) nl1 n pr1 lr1 le1 ≤ CB 1 5 1 3 2 gP σ nr na ns ks nl n pr lr le ∧
      (s : Int) + CB 6 43 6 13 15 gT σ1 nr na1 ns1 (ks + 1) nl1 n pr1 lr1 le1 ≤ CB 6 43 6 13 15 gT σ nr na ns ks nl n pr lr le ∧
      (∀ Q : rf_S → Prop, Q σ1 → wp_X12_makes Q σ (σ.2.2.1 81 ks) (σ.2.2.1 82 ks)) ∧
      ∀ (P0 : Nat → Prop) (S0 : cs_S) (G : Nat → Nat) (S : cs_S) (post : cs_S → Prop) (mc ms wa rr lt tl : Nat) (ra ev : Nat → Nat), CW P0 S0 G S σ wa rr lt tl bk nr ra x k n w q L dp tr ud ut te ne na ns ks nl now pr lr le tm ev → c ≤ mc → s ≤ ms → (∀ S' ev', CW P0 S0 G S' σ1 wa rr lt tl bk nr ra x k n w q L dp tr ud ut te (ne + 1) na1 ns1 (ks + 1) nl1 now pr1 lr1 le1 (prU tm ne now) ev' → post S') → ∃ q0, cs_r S 1110 wa = some q0 ∧ cs_k S q0 = 5 ∧ ∀ S29, S29 = cs_ui (cs_ur (cs_ur S 1110 wa (cs_r S 406 q0)) 406 q0 none) 1105 wa (cs_i S 1105 wa + 1) → wp_X10_come post G mc ms S29 wa (some q0) := by
  obtain ⟨r, e, f, q1, q2, q3, q4, q5, q6⟩ := hQ ks (Nat.le_refl _) hks
  obtain ⟨s1, s2, s3, s4, s5⟩ := id hS
  obtain ⟨bnl, bna, bns, bpr, blk⟩ := hD.bnd s4
  obtain ⟨⟨d1, d2, d3, d4, d5⟩, d6, d7, d8, d9, d10, d11, d12, d13, d14⟩ := id hD
  have hpr := d11 r q1
  have he : e < ne := by omega
  have ce : (σ.2.2.1 82 ks).toNatClampNeg = e := by rw [q3, nI_clamp (by omega)]
  have cr : (σ.2.2.1 81 ks).toNatClampNeg = r := by rw [q2, nI_clamp (by omega)]
  rw [ce] at hmk
  have hkh : kH σ (12 * bk + r) (n r) e := by
    rcases (d10.1 r q1).2.1.1 e (by omega) with z | ⟨f', -, -, -, g4, -⟩
    · rw [q6] at z; exact absurd z (nI_m f (by omega))
    · exact g4
  obtain ⟨σ0, nv1, π, hs, hE, h19, h23, ints, hD1, hS1, hB1, ⟨p10, p9, p11, p12, pf⟩, hlf, hmake⟩ := rmk hS hB hD hne q1 he hkh
  have row : ∀ kk, 63 ≤ kk ∧ kk ≤ 83 → σ0.2.2.1 kk = σ.2.2.1 kk := fun kk hk => funext fun j => hE.2.1 kk j (by omega) (by omega) (by omega) (by omega) (by omega) (by omega)
  obtain ⟨σ1, na1, ns1, nl1, pr1, lr1, le1, c, s, i1, i2, i3, i4, i5, i6, i7, i8, i9, i9a, i9b, i9c, i9d, i10, i11⟩ := LK (ne := ne + 1) (e := ne) (ks := ks + 1) (tm := prU tm ne now) (now := now) rfl prU_r (nr - (r + 1)) (r + 1) σ0 na ns nl pr lr le (by omega) hS1 hD1 (fun r' _ hr' => d11 r' hr') (by omega)
  have hst : ∀ j, ks + 1 ≤ j → j < ns → (σ.2.2.1 82 j).toNatClampNeg < ne := fun j z1 z2 => by
    obtain ⟨r', e', f', g1, g2, g3, g4, g5, g6⟩ := hQ j (by omega) z2
    have := d11 r' g1
    rw [g3, nI_clamp (by omega)]
    omega
  have hlk : ∀ j, j < nl → le j < ne := fun j hj => by
    obtain ⟨b1, b2⟩ := blk j hj
    have := d11 (lr j) b1
    omega
  have hm0 : mN σ0 ne = n r := by unfold mN; rw [p9, nI_clamp (by have := (s5 r q1).1.2.2.2.1; omega)]
  have cost : ∀ {p0 p1 t mk kc : Nat} {gf : Nat → Nat} {c : Nat}, p0 ≤ p1 → (c : Int) + CB p0 p1 t mk kc gf σ1 nr na1 ns1 (ks + 1) nl1 n pr1 lr1 le1 ≤ CB p0 p1 t mk kc gf σ0 nr na ns (ks + 1) nl n pr lr le + sS (fun _ => True) (fun r' => (alB p0 p1 t mk σ0 ne r' : Int)) (r + 1) (nr - (r + 1)) → (c : Int) + CB p0 p1 t mk kc gf σ1 nr na1 ns1 (ks + 1) nl1 n pr1 lr1 le1 ≤ CB p0 p1 t mk kc gf σ nr na ns ks nl n pr lr le := fun {p0 p1 t mk kc gf c} hp01 h => by
    rw [CB.eb hE hlk hst] at h
    rw [CB.pop hks, ce, cr, if_pos hmk]
    have h2 := al_made (p0 := p0) (p1 := p1) (t := t) (mk := mk) (σ := σ0) (e := ne) (r := r) (d := nr - (r + 1)) (nr := nr) (by rw [p10]; exact nI_m r (by omega)) (by omega) s4
    have h3 : pcB p0 p1 σ0 ne ≤ pcB p0 p1 σ e := by
      unfold pcB
      rw [hm0]
      by_cases z : 0 < n r
      · obtain ⟨i, hi⟩ := hkh 0 z
        obtain ⟨⟨m, g⟩, -⟩ := d6 e he
        have l := (fO_lt g.2.2.1 g.2.1 hi).1
        have : mN σ e = m := by unfold mN; rw [g.2.2.1, nI_clamp (by have := g.2.1; omega)]
        rw [if_pos z, if_pos (by omega)]
        exact Nat.le_refl _
      · rw [if_neg z]
        split <;> omega
    have h4 : (pcB p0 p1 σ0 ne + t) * (11 - r) ≤ scB p0 p1 t σ r e := Nat.mul_le_mul_right _ (by omega)
    omega
  have hq0 : SQ σ0 nr pr (ks + 1) ns := fun kk z1 z2 => by
    obtain ⟨r', e', f', g1, g2, g3, g4, g5, g6⟩ := hQ kk (by omega) z2
    exact ⟨r', e', f', g1, by rw [row 81 (by omega)]; exact g2, by rw [row 82 (by omega)]; exact g3, g4, g5, by rw [row 63 (by omega)]; exact g6⟩
  refine ⟨σ1, nv1, na1, ns1, nl1, pr1, lr1, le1, c, s, hlf.trans i1.lf', i2, hB1.ev i1.ev, i3, i4, i9b hq0, fun kk hk => ?_, fun kk z1 z2 => ?_, fun o ho => ?_, ⟨i9d.1, fun j hj => by rw [← row 71 (by omega)]; exact i9d.2 j hj⟩, cost (by omega) i7, cost (by omega) i8, fun Q hQ' => ?_, fun P0 S0 G S post mc ms wa rr lt tl ra ev hW hc hms hpost => ?_⟩
  · rw [(i9 kk hk).1, (i9 kk hk).2, row 81 (by omega), row 82 (by omega)]
    exact ⟨rfl, rfl⟩
  · rw [i9a kk z1 z2, nI_clamp (by omega), i1.1 10 (by omega), p10]
    exact nI_m r (by omega)
  · rw [i1.1 10 (by omega)]
    exact hE.2.1 10 o (by omega) (by omega) (by omega) (by omega) (by omega) (by omega)
  · rw [q2, q3]
    exact hmake Q ⟨_, i10 Q hQ'⟩
  -- the class
  obtain ⟨ko, Ow, al, ed, wl, hSH, hCR, hdis, hFR⟩ := hW
  obtain ⟨⟨h1, h2, h3, h4, h5, h6, h7, h8, h9, h10⟩, ⟨j1, j2, j3, j4, j5, j6⟩, h11, h12, ⟨h13, h14⟩, h15, h16, h17, h18, h19, h20, h21⟩ := id hSH
  have est : stL σ ks (ns - ks) = (r, e) :: stL σ (ks + 1) (ns - (ks + 1)) := by
    rw [show ns - ks = (ns - (ks + 1)) + 1 from by omega, stL, ce, cr, if_pos hmk]
  rw [est] at h17 h18
  cases wl with
  | nil => exact absurd h17 (by simp)
  | cons q0 wl' =>
    have hWV : WV S σ te bk nr now n Ow q0 r e := h18 0 q0 (r, e) rfl rfl
    have k5 : cs_k S q0 = 5 := hWV.1
    obtain ⟨c1, c2⟩ := h16
    refine ⟨q0, c1, k5, fun S29 e29 => ?_⟩
    have nwq : wa ≠ q0 := fun z => by rw [z, k5] at h1; cases h1
    have nlw : lt ≠ wa := fun z => by rw [z, h1] at h7; cases h7
    have i29 : ∀ f a, cs_i S29 f a = if f = 1105 ∧ a = wa then cs_i S 1105 wa + 1 else cs_i S f a := fun f a => by rw [e29, iui, iur, iur]
    have r29 : ∀ f a, cs_r S29 f a = if f = 406 ∧ a = q0 then none else if f = 1110 ∧ a = wa then cs_r S 406 q0 else cs_r S f a := fun f a => by rw [e29, rui, rur, rur]
    have k29 : ∀ a, cs_k S29 a = cs_k S a := fun a => by rw [e29]; rfl
    have g29 : fX (fun s f a => (a = q0 ∧ (f = 405 ∨ f = 406)) ∨ (s = 5 ∧ a = lt ∧ f = ne % 64) ∨ (a = wa ∧ (f = 1104 ∨ f = 1105 ∨ f = 1109 ∨ f = 1110 ∨ f = 1111))) S S29 := by
      rw [e29]
      exact ((fX.rfl.ur (Or.inl (Or.inr (Or.inr ⟨rfl, by omega⟩)))).ur (Or.inl (Or.inl ⟨rfl, by omega⟩))).ui (Or.inl (Or.inr (Or.inr ⟨rfl, by omega⟩)))
    refine come_pre (lt := lt) (ne := ne) (mkv := nI r) (by rw [k29]; exact h1) (by rw [k29]; exact k5) (by rw [r29, if_neg (fun z => absurd z.1 (by decide)), if_neg (fun z => absurd z.1 (by decide))]; exact h6) (by rw [k29]; exact h7) (by rw [e29]; exact h8) (by rw [i29, if_neg (fun z => absurd z.1 (by decide))]; exact j1) hne (by rw [i29, if_neg (fun z => absurd z.1 (by decide))]; exact hWV.2.2.2.1) (fun S' g f405 flt f1104 => ?_)
    have hF := g29.tr g (fun s f a _ z => by
      rcases z with ⟨-, rfl, rfl⟩ | ⟨rfl, rfl, rfl⟩ | ⟨-, rfl, rfl⟩
      · exact Or.inl ⟨rfl, by omega⟩
      · exact Or.inr (Or.inl ⟨rfl, rfl, rfl⟩)
      · exact Or.inr (Or.inr ⟨rfl, by omega⟩))
    obtain ⟨-, -, w3, -, w5, -⟩ := g wa (by rw [k29]; omega)
    have wr : ∀ f, cs_r S' f wa = cs_r S29 f wa := fun f => w5 f (fun z => by
      rcases z with ⟨z, -⟩ | ⟨z, -⟩ | ⟨z, -⟩ <;> exact absurd z (by decide))
    have w1105 : cs_i S' 1105 wa = σ0.1 23 := by
      rw [w3 1105 (fun z => by
        rcases z with ⟨-, z, -⟩ | ⟨z, -⟩ | ⟨-, -, z⟩
        · exact nwq z
        · exact absurd z (by decide)
        · exact absurd z (by decide)), i29, if_pos ⟨rfl, rfl⟩, j2, h23]
    have w1109 : cs_i S' 1109 wa = σ0.1 22 := by
      rw [w3 1109 (fun z => by
        rcases z with ⟨-, z, -⟩ | ⟨z, -⟩ | ⟨-, -, z⟩
        · exact nwq z
        · exact absurd z (by decide)
        · exact absurd z (by decide)), i29, if_neg (fun z => absurd z.1 (by decide)), j6, ints 22 (by decide) (by decide) (by decide)]
    have w1110 : cs_r S' 1110 wa = cs_r S 406 q0 := by rw [wr, r29, if_neg (fun z => absurd z.1 (by decide)), if_pos ⟨rfl, rfl⟩]
    have w1111 : cs_r S' 1111 wa = cs_r S 1111 wa := by rw [wr, r29, if_neg (fun z => absurd z.1 (by decide)), if_neg (fun z => absurd z.1 (by decide))]
    have hq5 : ¬ q0 ∈ wl' := fun z => by
      obtain ⟨i, hi, hz⟩ := List.getElem_of_mem z
      have := h19 0 (i + 1) q0 rfl (by rw [List.getElem?_cons_succ, List.getElem?_eq_getElem hi, hz])
      omega
    have hlen : wl'.length = (stL σ (ks + 1) (ns - (ks + 1))).length := by
      have := h17
      simp only [List.length_cons] at this
      omega
    have hq2 : ∀ (i y : Nat) (re : Nat × Nat), wl'[i]? = some y → (stL σ (ks + 1) (ns - (ks + 1)))[i]? = some re → WV S σ te bk nr now n Ow y re.1 re.2 := fun i y re z1 z2 => h18 (i + 1) y re (by rw [List.getElem?_cons_succ]; exact z1) (by rw [List.getElem?_cons_succ]; exact z2)
    have hch : chn S' 406 wl' (cs_r S' 1110 wa) := by
      rw [w1110]
      refine chn.fx _ _ c2 (fun a ha => ?_)
      have naq : a ≠ q0 := fun z => hq5 (by rw [← z]; exact ha)
      obtain ⟨i, hi, rfl⟩ := List.getElem_of_mem ha
      have hl : i < (stL σ (ks + 1) (ns - (ks + 1))).length := by rw [← hlen]; exact hi
      have ka := (hq2 i wl'[i] _ (List.getElem?_eq_getElem hi) (List.getElem?_eq_getElem hl)).1
      refine (hF _ (by omega)).2.2.2.2.1 406 (fun z => ?_)
      rcases z with ⟨z, -⟩ | ⟨z, -⟩ | ⟨z, -⟩
      · exact naq z
      · exact absurd z (by decide)
      · rw [z, h1] at ka; cases ka
    have hhl : ∀ y, wl'.getLast? = some y → cs_r S' 1111 wa = some y := fun y hy => by
      rw [w1111]
      refine h20 y ?_
      rw [List.getLast?_cons, hy]
      rfl
    obtain ⟨⟨m, hem⟩, -⟩ := d6 e he
    have hqv := hWV.evr (σ' := σ0) (ne := ne) (π' := π) hem d3 (by have := (s5 r q1).1.2.2.2.1; omega) (hB r q1) hs p9 p11 p12 (fun j hj => hE.2.1 18 j (by omega) (by omega) (by omega) (by omega) (by omega) (by omega)) pf al_w
    have hqr : ∀ vs r', cs_r S 404 q0 = some vs → r' < nr → ¬ Ow r' vs := fun vs r' hv hr' => by
      obtain ⟨-, -, -, -, -, nm, vs', π', -, -, -, b1, -, -, b2, -⟩ := hWV
      rw [hv] at b1
      cases b1
      exact b2 r' hr'
    have hSH' := hSH.more (ks' := ks + 1) (wl' := wl') (q := q0) hE (Nat.le_refl _) (fun o ho => (d6 o ho).1) hst hlen hq2 (fun i j y z1 z2 => by
      have := h19 (i + 1) (j + 1) y (by rw [List.getElem?_cons_succ]; exact z1) (by rw [List.getElem?_cons_succ]; exact z2)
      omega) (fun o ho z => h21 o ho (List.mem_cons_of_mem _ z)) hq5 (fun o ho z => h21 o ho (by rw [z]; exact List.mem_cons_self)) k5 hqv hWV.2.1 (by rw [p10]; exact hWV.2.2.2.1) hqr hF f405 flt f1104 w1105 w1109 (ints 79 (by decide) (by decide) (by decide)) hch hhl
    have hW' : CW P0 S0 G S' σ0 wa rr lt tl bk nr ra x k n w q L dp tr ud ut te (ne + 1) na ns (ks + 1) nl now pr lr le (prU tm ne now) (prU ev ne q0) := ⟨ko, Ow, al, ed, wl', hSH', fun r' hr' => CR.more hS hD hE h1 h7 h15 k5 hF hr' (hCR r' hr'), hdis, (hFR.wl (wl' := wl') (ne' := ne + 1) (ev' := prU ev ne q0) (fun a _ _ z1 z2 => ⟨fun o ho => by
      by_cases c : o = ne
      · rw [c, prU_r]; exact fun z => z2 (by rw [← z]; exact List.mem_cons_self)
      · rw [prU_o c]; exact z1 o (by omega), fun z => z2 (List.mem_cons_of_mem _ z)⟩)).fx hF (fun s f a z => Or.inr (by
      rcases z with ⟨rfl, z⟩ | ⟨-, rfl, -⟩ | ⟨rfl, -⟩ <;> omega)) (fun _ _ _ _ z => z)⟩
    have h99 := i11 P0 S0 G S' post mc ms 0 0 wa rr lt tl ra (prU ev ne q0) hW' (by omega) (by omega) (fun S'' hW'' => hpost S'' _ hW'')
    rw [prU_r] at h99
    rw [nI_1]
    exact ⟨_, h99⟩
end MKS
