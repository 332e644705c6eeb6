/-! ===== a record arrives ===== -/
theorem sS_T {f : Nat → Int} (d : Nat) : sS (fun _ => True) f 0 (d + 1) = sS (fun _ => True) f 0 d + f d := by
  rw [sS, one_y (P := True) trivial, Nat.zero_add]
  simp only [Int.natCast_one, Int.one_mul]
theorem al_rec {σ : rf_S} {p0 p1 t mk e nr : Nat} (hnr : nr ≤ 12) (hm : σ.2.2.1 10 e = -1) : sS (fun _ => True) (fun r' => (alB p0 p1 t mk σ e r' : Int)) 0 nr ≤ ((12 * (pcB p0 p1 σ e + t + mk) + 66 * (pcB p0 p1 σ e + t) : Nat) : Int) := by
  have e1 : (fun r' => (alB p0 p1 t mk σ e r' : Int)) = fun r' => (((pcB p0 p1 σ e + t + mk) + (pcB p0 p1 σ e + t) * (11 - r') : Nat) : Int) := funext fun r' => by
    unfold alB lcB
    rw [if_pos hm]
    omega
  rw [e1]
  generalize pcB p0 p1 σ e + t + mk = A
  generalize pcB p0 p1 σ e + t = B
  have ext : ∀ d, nr + d ≤ 12 → sS (fun _ => True) (fun r' => ((A + B * (11 - r') : Nat) : Int)) 0 nr ≤ sS (fun _ => True) (fun r' => ((A + B * (11 - r') : Nat) : Int)) 0 (nr + d) := by
    intro d
    induction d with
    | zero => intro _; exact Int.le_refl _
    | succ d ih =>
      intro h
      have := ih (by omega)
      rw [← Nat.add_assoc, sS_T]
      omega
  have h1 := ext (12 - nr) (by omega)
  rw [show nr + (12 - nr) = 12 from by omega] at h1
  refine Int.le_trans h1 ?_
  rw [sS_T, sS_T, sS_T, sS_T, sS_T, sS_T, sS_T, sS_T, sS_T, sS_T, sS_T, sS_T, sS]
  simp only [Nat.sub_zero, Nat.reduceSub]
  omega
section ARS
variable {P0 : Nat → Prop} {S0 : cs_S} {G : Nat → Nat} {S : cs_S} {σ σ' : rf_S} {wa rr lt tl bk nr te te' nv ne na ns ks nl now m : Nat} {ra x k n w q L : Nat → Nat} {dp : Nat → Nat → Nat} {tr : (r c : Nat) → cT (dp r c)} {ud : Nat → Nat} {ut : (r : Nat) → Option (cT (ud r))} {pr lr le tm ev : Nat → Nat}
theorem CW.nw0 (hW : CW P0 S0 G S σ wa rr lt tl bk nr ra x k n w q L dp tr ud ut te ne na 0 0 nl now pr lr le tm ev) (hn : nwF σ σ') (hp : ∀ r, r < nr → pr r ≤ 4000) (hlk : ∀ j, j < nl → le j < pr (lr j)) : CW P0 S0 G S σ' wa rr lt tl bk nr ra x k n w q L dp tr ud ut te ne na 0 0 nl now pr lr le tm ev := by
  obtain ⟨ko, Ow, al, ed, wl, hSH, hCR, hdis, hFR⟩ := hW
  have hE := hn.vv
  have r3 : σ'.2.2.1 = σ.2.2.1 := by rw [hn.1]
  exact ⟨ko, Ow, al, ed, wl, hSH.on hE (hn.2 22 (by decide) (by decide)) (hn.2 23 (by decide) (by decide)) (hn.2 79 (by decide) (by decide)) (fun _ _ => Nat.le_refl _) (fun _ _ _ _ => by rw [r3]) (fun _ _ _ _ _ => by rw [r3]) (fun j hj => absurd hj (by omega)) (fun _ _ _ _ z => z) (fun _ _ _ _ => rfl), fun r hr => (hCR r hr).on hE (fun _ _ => ⟨by rw [r3], by rw [r3]⟩) (fun _ _ => ⟨by rw [r3], by rw [r3]⟩) (by rw [r3]) (hp r hr) (Nat.le_refl _) (fun j z1 z2 => absurd z1 (by omega)) (fun j _ => ⟨rfl, rfl, fun _ => by rw [r3]⟩) (fun j hj hjr => by have := hlk j hj; rw [hjr] at this; exact this), hdis, hFR⟩
theorem evR.sp {q0 : Nat} (h : evR S σ te' q0 4000 m) (h9 : σ'.2.2.1 9 ne = nI m) (h11 : σ'.2.2.2 11 ne = σ.2.2.2 11 4000) (h12 : σ'.2.2.2 12 ne = σ.2.2.2 12 4000) (h18 : ∀ j, j < te' → σ'.2.2.1 18 j = σ.2.2.1 18 j) (hf : ∀ j, j < m → σ'.2.2.2 13 (8 * ne + j) = σ.2.2.2 13 (32000 + j) ∧ σ'.2.2.1 14 (8 * ne + j) = σ.2.2.1 14 (32000 + j) ∧ σ'.2.2.1 15 (8 * ne + j) = σ.2.2.1 15 (32000 + j) ∧ σ'.2.2.1 16 (8 * ne + j) = σ.2.2.1 16 (32000 + j)) : evR S σ' te' q0 ne m := by
  obtain ⟨g1, ⟨n0, g2, g3⟩, g4, g5, nm, vs, g6, g7, g8, g9, g10, g11, g12⟩ := h
  refine ⟨g1, ⟨n0, g2, by rw [h11, h12]; exact g3⟩, g4, h9, nm, vs, g6, g7, g8, g9, g10, g11, fun j hj => ?_⟩
  obtain ⟨⟨a, l, b1, b2, b3⟩, ⟨va, c1, c2⟩, c3⟩ := g12 j hj
  obtain ⟨f1, f2, f3, f4⟩ := hf j hj
  exact ⟨⟨a, l, b1, b2, by rw [f1]; exact b3⟩, ⟨va, c1, c2.on (fun y hy => ⟨rfl, rfl, rfl, rfl, rfl, rfl, fun _ _ => rfl⟩) f2 f3 f4 h18 (Nat.le_refl _)⟩, c3⟩
theorem AR (hS : RS0 σ bk nr x k n w q L dp tr ud ut) (hB : RB σ bk nr n) (hD : RD σ bk nr x n w te nv ne na 0 nl now pr lr le tm) (hne : ne < 4000) (hsp : eW σ te' 4000 m) (hte : te ≤ te') (hte' : te' ≤ 24000) (h31 : σ.1 31 = nI now) :
    ∃ (σ1 : rf_S) (nv1 ne1 na1 nl1 : Nat) (pr1 lr1 le1 tm1 : Nat → Nat) (c s : Nat), tF σ σ1 ∧ RS0 σ1 bk nr x k n w q L dp tr ud ut ∧ RB σ1 bk nr n ∧ RD σ1 bk nr x n w te' nv1 ne1 na1 0 nl1 now pr1 lr1 le1 tm1 ∧ σ1.1 22 = nI now ∧
      (c : Int) + CB 1 5 1 3 2 gP σ1 nr na1 0 0 nl1 n pr1 lr1 le1 ≤ CB 1 5 1 3 2 gP σ nr na 0 0 nl n pr lr le + ((58 * (6 + 4 * m) - 19 : Nat) : Int) ∧
      (s : Int) + CB 6 43 6 13 15 gT σ1 nr na1 0 0 nl1 n pr1 lr1 le1 ≤ CB 6 43 6 13 15 gT σ nr na 0 0 nl n pr lr le + ((600 * (6 + 4 * m) - 247 : Nat) : Int) ∧
      (∀ (Q : Int32 → rf_S → Prop) (k35 : rf_S → Int32 → Prop) (x1 : Int32), k35 σ1 (x1 + 1) → ∃ n9, w_X12_take_186 Q k35 n9 (rf_ua (rf_ub (rf_ub (rf_ua (rf_ua (rf_ui (rf_ui σ 19 ((σ.1 19) + 1)) 22 (σ.1 31)) 8 (σ.1 19).toNatClampNeg (σ.1 31)) 10 (σ.1 19).toNatClampNeg ((-1))) 11 (σ.1 19).toNatClampNeg (σ.2.2.2 11 (4000 : Int32).toNatClampNeg)) 12 (σ.1 19).toNatClampNeg (σ.2.2.2 12 (4000 : Int32).toNatClampNeg)) 9 (σ.1 19).toNatClampNeg (σ.2.2.1 9 (4000 : Int32).toNatClampNeg)) x1 (σ.1 19) 0) ∧
      ∀ (P0 : Nat → Prop) (S0 : cs_S) (G : Nat → Nat) (S : cs_S) (post : Int32 → cs_S → Prop) (mc ms wa rr lt tl q0 : Nat) (ra ev : Nat → Nat), CW P0 S0 G S σ wa rr lt tl bk nr ra x k n w q L dp tr ud ut te ne na 0 0 nl now pr lr le tm ev → P0 q0 → evR S σ te' q0 4000 m → cs_i S 400 q0 = nI now → cs_i S 402 q0 = -1 → (∀ vs, cs_r S 404 q0 = some vs → P0 vs) → c ≤ mc → s ≤ ms → (∀ S' ev', CW (fun a => P0 a ∧ a ≠ q0) S0 G S' σ1 wa rr lt tl bk nr ra x k n w q L dp tr ud ut te' ne1 na1 0 0 nl1 now pr1 lr1 le1 tm1 ev' → post 1 S') → wp_X10_arrive post G mc ms S wa (some q0) := by
  have s4 := hS.2.2.2.1
  obtain ⟨bnl, bna, bns, bpr, blk⟩ := hD.bnd s4
  obtain ⟨⟨d1, d2, d3, d4, d5⟩, d6, d7, d8, d9, d10, d11, d12, d13, d14⟩ := id hD
  obtain ⟨σa, nva, hE, h23, h22, h79, hDa, hSa, hBa, hta, ⟨p10, p9, p11, p12, pf⟩, hrun⟩ := RA hS hB hD hne hsp hte hte' h31
  have hn : nwF σa (rf_ui σa 80 (σa.1 78)) := ⟨rfl, fun kk z1 z2 => by rw [r1ui, if_neg z2]⟩
  have hDb := hDa.atT hn (by rw [r1ui, if_neg (by decide)]; exact hDa.1.2.2.2.1) (Nat.le_refl _) d5 hDa.2.2.2.2.2.2.2.2.1
  have hSb := hSa.on hn.vv rfl rfl
  have hBb := hBa.ev hn.vv
  obtain ⟨σ3, na3, ns3, nl3, pr3, lr3, le3, c1, s1, i1, i2, i3, i4, i5, i6, i7, i8, i9, i9a, i9b, i9c, i9d, i10, i11⟩ := LK (ne := ne + 1) (e := ne) (ks := 0) (tm := prU tm ne now) (now := now) rfl prU_r nr 0 (rf_ui σa 80 (σa.1 78)) na 0 nl pr lr le (by omega) hSb hDb (fun r' _ hr' => d11 r' hr') (Nat.le_refl _)
  have hB3 := hBb.ev i1.ev
  have h83 := i3.2.2.2.2.2.1.2.2.2.2.1
  obtain ⟨-, -, bns3, -⟩ := i3.bnd s4
  obtain ⟨σ4, nv4, ne4, na4, nl4, pr4, lr4, le4, tm4, c2, s2, f1, f2, f3, f4, f5, f6, f7, f8, f9, f10⟩ := FW (n0 := ns3) ns3 0 σ3 nva (ne + 1) na3 ns3 nl3 pr3 lr3 le3 (prU tm ne now) (by omega) (Nat.le_refl _) i2 hB3 i3 (i9b (fun kk _ z => absurd z (by omega))) (fun kk z1 z2 => absurd z1 (by omega))
  have hlk : ∀ j, j < nl → le j < ne := fun j hj => by
    obtain ⟨b1, b2⟩ := blk j hj
    have := d11 (lr j) b1
    omega
  have hm8 := hsp.2.1
  have hmN : mN (rf_ui σa 80 (σa.1 78)) ne = m := by
    show (σa.2.2.1 9 ne).toNatClampNeg = m
    rw [p9, nI_clamp (by omega)]
  have p10' : (rf_ui σa 80 (σa.1 78)).2.2.1 10 ne = -1 := p10
  have cost : ∀ {p0 p1 t mk kc : Nat} {gf : Nat → Nat}, CB p0 p1 t mk kc gf (rf_ui σa 80 (σa.1 78)) nr na 0 0 nl n pr lr le = CB p0 p1 t mk kc gf σ nr na 0 0 nl n pr lr le := fun {p0 p1 t mk kc gf} => by
    rw [CB.nf hn, CB.eb hE hlk (fun k _ z => absurd z (by omega))]
  have al1 := al_rec (σ := rf_ui σa 80 (σa.1 78)) (p0 := 1) (p1 := 5) (t := 1) (mk := 3) (e := ne) s4 p10'
  have al2 := al_rec (σ := rf_ui σa 80 (σa.1 78)) (p0 := 6) (p1 := 43) (t := 6) (mk := 13) (e := ne) s4 p10'
  rw [cost] at i7 i8
  have b1 : 12 * (pcB 1 5 (rf_ui σa 80 (σa.1 78)) ne + 1 + 3) + 66 * (pcB 1 5 (rf_ui σa 80 (σa.1 78)) ne + 1) ≤ 58 * (6 + 4 * m) - 19 := by
    unfold pcB
    rw [hmN]
    split <;> omega
  have b2 : 12 * (pcB 6 43 (rf_ui σa 80 (σa.1 78)) ne + 6 + 13) + 66 * (pcB 6 43 (rf_ui σa 80 (σa.1 78)) ne + 6) ≤ 600 * (6 + 4 * m) - 247 := by
    unfold pcB
    rw [hmN]
    split <;> omega
  refine ⟨σ4, nv4, ne4, na4, nl4, pr4, lr4, le4, tm4, c1 + c2, s1 + s2, hta.trans (((lF.tf hn.lf').trans (lF.tf i1.lf')).trans (lF.tf f1)), f2, f3, f4, ?_, by omega, by omega, fun Q k35 x1 h => hrun Q k35 x1 ⟨nr + 1, i10 _ ⟨ns3 + 1, ?_⟩⟩, fun P0 S0 G S post mc ms wa rr lt tl q0 ra ev hW hPq hev h400 h402 hPv hc hms hpost => ?_⟩
  · rw [f1.1 22 (by decide) (by decide) (by decide) (by decide) (by omega), i1.2.1 22 (by omega), r1ui, if_neg (by decide)]
    exact h22
  · rw [h83]
    exact f9 _ h
  -- the class
  obtain ⟨ko, Ow, al, ed, wl, hSH, hCR, hdis, hFR⟩ := hW
  obtain ⟨⟨h1, h2, h3, h4, h5, h6, h7, h8, h9, h10⟩, ⟨j1, j2, j3, j4, j5, j6⟩, h11, h12, ⟨h13, h14⟩, h15, h16, h17, h18, h19, h20, h21⟩ := id hSH
  have ewl : wl = [] := List.length_eq_zero_iff.mp h17
  subst ewl
  have k5 := hev.1
  have nwq : wa ≠ q0 := fun z => by rw [z, k5] at h1; cases h1
  refine ⟨h1, fun _ => ⟨q0, rfl, k5, fun S12 e12 => ⟨by rw [e12]; exact h1, c1, s1, by omega, by omega, ?_⟩⟩, fun z => absurd (by rw [j1]; exact nI_lt (a := ne) (b := 4000) hne (by omega)) z⟩
  rw [h400] at e12
  have i12 : ∀ f a, cs_i S12 f a = if f = 1109 ∧ a = wa then nI now else cs_i S f a := fun f a => by rw [e12, iui]
  have g12 : fX (fun s f a => (a = q0 ∧ (f = 405 ∨ f = 406)) ∨ (s = 5 ∧ a = lt ∧ f = ne % 64) ∨ (a = wa ∧ (f = 1104 ∨ f = 1105 ∨ f = 1109 ∨ f = 1110 ∨ f = 1111))) S S12 := by
    rw [e12]
    exact fX.rfl.ui (Or.inl (Or.inr (Or.inr ⟨rfl, by omega⟩)))
  refine come_pre (lt := lt) (ne := ne) (mkv := -1) (by rw [e12]; exact h1) (by rw [e12]; exact k5) (by rw [e12]; exact h6) (by rw [e12]; exact h7) (by rw [e12]; exact h8) (by rw [i12, if_neg (fun z => absurd z.1 (by decide))]; exact j1) hne (by rw [i12, if_neg (fun z => absurd z.1 (by decide))]; exact h402) (fun S' g f405 flt f1104 => ?_)
  have hF := g12.tr g (fun s f a _ z => by
    rcases z with ⟨-, rfl, rfl⟩ | ⟨rfl, rfl, rfl⟩ | ⟨-, rfl, rfl⟩
    · exact Or.inl ⟨rfl, by omega⟩
    · exact Or.inr (Or.inl ⟨rfl, rfl, rfl⟩)
    · exact Or.inr (Or.inr ⟨rfl, by omega⟩))
  obtain ⟨-, -, w3, -, w5, -⟩ := g wa (by rw [e12]; show cs_k S wa ≠ 0; omega)
  have wr : ∀ f, cs_r S' f wa = cs_r S f wa := fun f => by
    rw [w5 f (fun z => by rcases z with ⟨z, -⟩ | ⟨z, -⟩ | ⟨z, -⟩ <;> exact absurd z (by decide)), e12]
    rfl
  have wi : ∀ f, f ≠ 1104 → cs_i S' f wa = cs_i S12 f wa := fun f z1 => w3 f (fun z => by
    rcases z with ⟨-, z, -⟩ | ⟨z, -⟩ | ⟨-, -, z⟩
    · exact nwq z
    · exact absurd z (by decide)
    · exact z1 z)
  have hqe : ∀ o, o < ne → ev o ≠ q0 := (hFR.2 q0 hPq).2.2.2.1
  have hqv := hev.sp (σ' := σa) (ne := ne) p9 p11 p12 (fun j _ => hta.2.2.1 18 j (by decide) (by decide) (by omega) (by omega) (by omega)) pf
  have hSH' := hSH.more (ks' := 0) (wl' := []) (q := q0) hE hte (fun o ho => (d6 o ho).1) (fun j _ z => absurd z (by omega)) rfl (fun i y re z1 _ => by simp at z1) (fun i j y z1 _ => by simp at z1) (fun o _ z => by simp at z) (fun z => by simp at z) hqe k5 hqv h400 (by rw [p10]; exact h402) (fun vs r hv hr => (hFR.2 vs (hPv vs hv)).2.2.1 (by
    obtain ⟨-, -, -, -, nm, vs', -, -, -, g9, g10, -⟩ := id hev
    rw [hv] at g9
    cases g9
    have := (hFR.2 vs (hPv vs hv)).2.1.1
    omega) r hr) hF f405 flt f1104 (by rw [wi 1105 (by decide), i12, if_neg (fun z => absurd z.1 (by decide)), j2, h23]) (by rw [wi 1109 (by decide), i12, if_pos ⟨rfl, rfl⟩, h22]) h79 (by rw [wr]; exact h16) (fun y hy => by simp at hy)
  have hW' : CW (fun a => P0 a ∧ a ≠ q0) S0 G S' σa wa rr lt tl bk nr ra x k n w q L dp tr ud ut te' (ne + 1) na 0 0 nl now pr lr le (prU tm ne now) (prU ev ne q0) := by
    refine ⟨ko, Ow, al, ed, [], hSH', fun r' hr' => CR.more hS hD hE h1 h7 h15 k5 hF hr' (hCR r' hr'), hdis, ?_⟩
    have hFR1 : FR (fun a => P0 a ∧ a ≠ q0) S0 S nr Ow (ne + 1) (prU ev ne q0) [] := by
      refine ⟨hFR.1, fun a ha => ?_⟩
      obtain ⟨u1, u2, u3, u4, u5⟩ := hFR.2 a ha.1
      refine ⟨u1, u2, u3, fun o ho => ?_, u5⟩
      by_cases c : o = ne
      · rw [c, prU_r]; exact fun z => ha.2 z.symm
      · rw [prU_o c]; exact u4 o (by omega)
    exact hFR1.fx hF (fun s f a z => Or.inr (by
      rcases z with ⟨rfl, z⟩ | ⟨-, rfl, -⟩ | ⟨rfl, -⟩ <;> omega)) (fun _ _ _ _ z => z)
  have hWb := hW'.nw0 hn bpr (fun j hj => (blk j hj).2)
  have h99 := i11 (fun a => P0 a ∧ a ≠ q0) S0 G S' (fun S13 => cs_k S13 wa = 12 ∧ ∃ m15 n15, 0 + c1 + m15 ≤ mc ∧ 0 + s1 + n15 ≤ ms ∧ wp_X10_comeWaiting (fun S15 => post 1 S15) G m15 n15 S13 wa) c1 s1 0 0 wa rr lt tl ra (prU ev ne q0) hWb (by omega) (by omega) (fun S13 hW13 => by
    have hWc := hW13
    obtain ⟨_, _, _, _, _, hSH13, -⟩ := hWc
    refine ⟨hSH13.1.1, c2, s2, by omega, by omega, ns3 + 1, ?_⟩
    exact f10 _ S0 G S13 _ c2 s2 0 0 wa rr lt tl 0 (ns3 + 1) ra _ hW13 (by omega) (by omega) (by omega) (by omega) (fun S' ev' hW' => hpost S' ev' hW'))
  rw [prU_r] at h99
  exact ⟨_, h99⟩
end ARS
