/-! ===== class and reference: one rule looks at one event, whole ===== -/
section CSS
variable {P0 : Nat → Prop} {S0 : cs_S} {G : Nat → Nat} {S : cs_S} {σ σ' : rf_S} {wa rr lt tl bk nr te nv ne na ns ks nl now na' ns' nl' r e mc ms u v j qK qL qT sK sL sT : Nat} {ra x k n w q L : Nat → Nat} {dp : Nat → Nat → Nat} {tr : (r c : Nat) → cT (dp r c)} {ud : Nat → Nat} {ut : (r : Nat) → Option (cT (ud r))} {pr lr le tm ev lr' le' : Nat → Nat} {post : cs_S → Prop}
theorem CS (hW : CW P0 S0 G S σ wa rr lt tl bk nr ra x k n w q L dp tr ud ut te ne na ns ks nl now pr lr le tm ev) (hS : RS0 σ bk nr x k n w q L dp tr ud ut) (hD : RD σ bk nr x n w te nv ne na ns nl now pr lr le tm) (hr : r < nr) (hp : pr r ≤ e) (hne : ne = e + 1) (hnow : tm e = now) (hks : ks ≤ ns) (hl : lkD σ r (12 * bk + r) e (x r) (k r) (n r) (w r) (q r) nl na ns tm lr le w (dp r) (tr r) (ud r) (ut r) σ') (hD' : RD σ' bk nr x n w te nv ne na' ns' nl' now (prU pr r (e + 1)) lr' le' tm)
    (hc : u + (qK + qL + qT) ≤ mc) (hcs : v + (sK + sL + sT) ≤ ms) (hcK : kH σ (12 * bk + r) (n r) e → σ'.2.2.1 63 (4000 * r + e) = nI e → 2 ≤ qK ∧ n r + 15 ≤ sK) (hcL : kH σ (12 * bk + r) (n r) e → 1 ≤ qL ∧ 6 ≤ sL) (hcD : kH σ (12 * bk + r) (n r) e → x r = 1 → hI σ (12 * bk + r) e → 3 ≤ qL ∧ 25 ≤ sL) (hcT : ¬ σ'.1 78 = σ.1 78 → (if na < 500 then 1 + gC na else 0) + (if σ.2.2.1 10 e = -1 then 3 else 0) ≤ qT ∧ (if na < 500 then 6 + gS na else 0) + (if σ.2.2.1 10 e = -1 then 2 * n r + 7 else 0) ≤ sT)
    (hpost : ∀ S' u' v', u' ≤ u + (qK + qL + qT) → v' ≤ v + (sK + sL + sT) → CW P0 S0 G S' σ' wa rr lt tl bk nr ra x k n w q L dp tr ud ut te ne na' ns' ks nl' now (prU pr r (e + 1)) lr' le' tm ev → w_X10_come_38 post G mc ms j S' u' v' wa (some (ev e)) (nI (r + 1))) :
    w_X10_come_38 post G mc ms (j + 1) S u v wa (some (ev e)) (nI r) := by
  obtain ⟨ko, Ow, al, ed, wl, hSH, hCR, hdis, hFR⟩ := hW
  obtain ⟨hruC, hby, wt, bt, nb, bl, eo, so, lo, sr, an, hJ0, hlc0⟩ := hCR r hr
  obtain ⟨s1, s2, s3, s4, s5⟩ := id hS
  obtain ⟨bnl, bna, bns, bpr, blk⟩ := hD.bnd s4
  obtain ⟨bnl', bna', bns', bpr', blk'⟩ := hD'.bnd s4
  obtain ⟨⟨d1, d2, d3, d4, d5⟩, d6, d7, ⟨d8a, d8, d8b, d8c, d8d⟩, d9, d10, d11, d12, d13, d14⟩ := id hD
  have d10' := hD'.2.2.2.2.2.1
  have he : e < 4000 := by omega
  obtain ⟨jp, jK, j63, jB, F, jF, jF2, jH⟩ := d10.1 r hr
  have e63 : ∀ o, pr r ≤ o → o < 4000 → σ.2.2.1 63 (4000 * r + o) = -1 := j63
  have hup := JK.up (e - pr r) (pr r) hJ0 (by omega) (fun o z1 z2 => e63 o z1 (by omega))
  rw [show pr r + (e - pr r) = e from by omega] at hup
  have eKe : KfO σ r e = KfO σ r (pr r) := KfO_ext hp (by omega) e63
  have hJ : JK S σ (Ow r) r (ra r) (12 * bk + r) (x r) (k r) (n r) (w r) (L r) tm ev wt bt nb bl (ko r) eo so lo sr an (KfO σ r e) (KfO σ r e) (tm e) e := by rw [hnow]; exact hup
  have hb3 := hJ.2.2.1
  have kwt : cs_k S wt = 26 := hb3.1.2.2.2.1
  have kbt : cs_k S bt = 25 := hb3.1.1.2.2.1
  have hOw : Ow r wt := hb3.1.2.2.2.2.2.1
  have hmn : ∀ o, o < e + 1 → ∃ m, m ≤ 8 ∧ σ.2.2.1 9 o = nI m := fun o ho => by
    obtain ⟨⟨m, g⟩, -⟩ := d6 o (by omega)
    exact ⟨m, g.2.1, g.2.2.1⟩
  obtain ⟨⟨m, hev⟩, ev400, ev405, ev402, evrow⟩ := hSH.2.2.1 e (by omega)
  have hvs : ∀ vs, cs_r S 404 (ev e) = some vs → vs ≠ wt := fun vs hv z => evrow vs r hv hr (by rw [z]; exact hOw)
  have hevs : ∀ o, o ≤ e → cs_k S (ev o) = 5 ∧ cs_i S 400 (ev o) = nI (tm o) ∧ tm o ≤ 2000000000 ∧ cs_i S 405 (ev o) = nI o := fun o ho => by
    obtain ⟨⟨m', g1⟩, g2, g3, g4, -⟩ := hSH.2.2.1 o (by omega)
    exact ⟨g1.1, g2, by have := (d6 o (by omega)).2.2.1; omega, g3⟩
  obtain ⟨w1, w2, w3, w4, w5, w6, w7, w8, w9, w10⟩ := hSH.1
  have kra := hruC.1
  have hlkp : ∀ j, j < nl → le j < pr (lr j) := fun j hj => (blk j hj).2
  have hlive : ∀ r a, r < nr → Ow r a → cs_k S a ≠ 0 := fun r' a hr' z => by
    obtain ⟨-, -, _, _, _, _, _, _, _, _, _, hJ', -⟩ := hCR r' hr'
    exact hJ'.1 a z
  have hA := fun (S1 : cs_S) (σ1 : rf_S) (O1 : Nat → Prop) (k1 : Nat → Nat) (hF : fX (rE S wt bt (Ow r)) S S1) (hO : oX S (Ow r) O1) (hk1 : ∀ f, KfO σ r e f → k1 f = ko r f) (hP : pD σ σ1 r e) => asm hSH hCR hdis hr hp he bpr hlkp kwt kbt hOw hF hO hk1 hP
  have frX : ∀ S1 O1, fX (rE S wt bt (Ow r)) S S1 → oX S (Ow r) O1 → FR P0 S0 S1 nr (OwU Ow r O1) ne ev wl := fun S1 O1 hF hO => hFR.fx hF (fun s f a z => by
    rcases z.2 with y | y | ⟨y, -⟩ | ⟨y, -⟩ | ⟨y, -⟩ | y
    · exact Or.inl ⟨by rw [y]; exact kwt, r, hr, z.1⟩
    · rw [y]; exact Or.inr (by omega)
    · exact Or.inr (by omega)
    · exact Or.inr (by omega)
    · exact Or.inr (by omega)
    · exact Or.inr (by omega)) (fun r' a hr' hk z => by
    rcases z with ⟨z1, z2⟩ | ⟨z1, z2⟩
    · rw [z1]; exact hO.2 a hk z2
    · exact z2)
  -- the lacks at e
  have hlc : x r = 4 → lcR σ r nl lr le an lo e := fun hx => (hlc0 hx).on hp (fun o _ => ⟨rfl, rfl⟩) (fun o z1 z2 z3 => z3.1 (e63 o z1 (by omega))) (Nat.le_refl _) (fun j z1 z2 => absurd z1 (by omega)) (fun j _ => ⟨rfl, rfl, fun _ => Iff.rfl⟩)
  refine ⟨by omega, by omega, w1, fun z => ?_, fun _ r31 e31 => ⟨rr, e31.trans w2, w3, ?_, fun r34 e34 => ⟨ra r, ?_, kra, qK, sK, by omega, by omega, ?_⟩⟩⟩
  · rw [w5] at z; exact absurd z (nI_ge (by omega) (by omega))
  · exact nI_in (by omega) (by omega)
  · rw [e34, nI_clamp (by omega)]; exact w10 r hr
  have next : ∀ S' u' v', u' ≤ u + (qK + qL + qT) → v' ≤ v + (sK + sL + sT) → CW P0 S0 G S' σ' wa rr lt tl bk nr ra x k n w q L dp tr ud ut te ne na' ns' ks nl' now (prU pr r (e + 1)) lr' le' tm ev → w_X10_come_98 post G mc ms (w_X10_come_38 post G mc ms j) S' u' v' wa (some (ev e)) (nI r) := fun S' u' v' h1 h2 h3 => ⟨by omega, by omega, by rw [nI_1]; exact hpost S' u' v' h1 h2 h3⟩
  rcases hl.y with ⟨hnk, hσ⟩ | ⟨f0, B, σ1, res, hY⟩
  · -- no key
    have hP : pD σ σ' r e := by
      rw [hσ]
      refine ⟨⟨fun kk hk => funext fun j => by rw [r3ua, if_neg (fun z => by omega)], rfl⟩, rfl, fun kk j h1 h2 => ?_⟩
      rw [r3ua, if_neg (fun z => h2 ⟨Or.inl z.1, z.2⟩)]
    have hrow : ∀ kk jj, σ'.2.2.1 kk jj = σ.2.2.1 kk jj := fun kk jj => by
      rw [hσ, r3ua]
      by_cases c : kk = 63 ∧ jj = 4000 * r + e
      · rw [if_pos c, c.1, c.2]; exact (e63 e hp he).symm
      · rw [if_neg c]
    have hrow' : σ'.2.2.1 = σ.2.2.1 := funext fun kk => funext fun jj => hrow kk jj
    have ena : na' = na := by
      have h1 := d10'.2.2.1
      rw [hP.2.1, d10.2.2.1] at h1
      exact ((nI_eq (a := na) (b := na') (by omega) (by omega)).mp h1).symm
    have ens : ns' = ns := by
      have h1 := d10'.2.2.2.2.1
      rw [hP.2.1, d10.2.2.2.2.1] at h1
      exact ((nI_eq (a := ns) (b := ns') (by omega) (by omega)).mp h1).symm
    have enl : nl' = nl := by
      have h1 := d10'.2.1.1
      rw [hP.2.1, d10.2.1.1] at h1
      exact ((nI_eq (a := nl) (b := nl') (by omega) (by omega)).mp h1).symm
    have hlrle : ∀ j, j < nl → lr' j = lr j ∧ le' j = le j := fun j hj => hD.lk hD' s4 hj (by omega) (hrow 69 j) (hrow 70 j)
    refine ckn (post := _) hJ hruC he (e63 e hp he) hnk hev d3 hvs (fun S1 hF hJ1 => ⟨fun _ => ⟨by omega, by omega, fun _ => next S1 _ _ (by omega) (by omega) ?_, fun z => absurd rfl z⟩, fun b z => (nomatch z)⟩)
    obtain ⟨a1, a2, a3⟩ := hA S1 σ' (Ow r) (ko r) hF oX.rfl (fun _ _ => rfl) hP
    subst ena
    subst ens
    subst enl
    refine ⟨koU ko r (ko r), OwU Ow r (Ow r), al, ed, wl, a1, fun r' hr' => ?_, a3, frX S1 (Ow r) hF oX.rfl⟩
    by_cases c : r' = r
    · subst c
      rw [koU_r, OwU_r, prU_r]
      refine ⟨(hruC.fx (rE.sh kbt) hF kwt).ev hP.1, ?_, wt, bt, nb, bl, eo, so, lo, sr, an, ?_, fun hx => ?_⟩
      · exact ((hCR r' hr').fx' (rE.sh kbt) kwt hF)
      · have eK : KfO σ' r' (e + 1) = KfO σ r' (e + 1) := funext fun f => propext (by unfold KfO; rw [hrow])
        rw [eK]
        rw [hnow] at hJ1
        exact hJ1.on hP.1 (fun o _ => hrow 63 _) (fun o _ => hrow 64 _) (fun f _ => ⟨hrow 65 _, hrow 66 _⟩) (hrow 67 _) (by omega) (fun hx => (hJ1.2.2.2.2.2.2.2.1 hx).1.1.1)
      · refine (hlc hx).on (by omega) (fun o _ => ⟨hrow 63 _, hrow 64 _⟩) (fun o z1 z2 z3 => ?_) (Nat.le_refl _) (fun j z1 z2 => absurd z1 (by omega)) (fun j hj => ⟨(hlrle j hj).1, (hlrle j hj).2, fun _ => by rw [hrow]⟩)
        have := z3.1
        unfold hkO at this
        rw [hrow] at this
        exact this (e63 o (by omega) (by omega))
    · rw [koU_o c, OwU_o c, prU_o c]
      refine (a2 r' hr' c).on ⟨fun _ _ => rfl, rfl⟩ (fun o _ => ⟨rfl, rfl⟩) (fun f _ => ⟨rfl, rfl⟩) rfl (bpr r' hr') (Nat.le_refl _) (fun j z1 z2 => absurd z1 (by omega)) (fun j hj => ⟨(hlrle j hj).1, (hlrle j hj).2, fun _ => Iff.rfl⟩) (fun j hj hjr => by have := hlkp j hj; rw [hjr] at this; exact this)
  · obtain ⟨y1, y2, hU, yB, ybits, yb5, yres, yres4, y9⟩ := id hY
    obtain ⟨z63, z64, z65, z67, z71, z72⟩ := hY.rows
    have hf0 : f0 ≤ e := by rcases y2 with z | z <;> omega
    have e63e : σ'.2.2.1 63 (4000 * r + e) = nI f0 := by rw [z63]; exact hU.e63
    have hmK : f0 = e → 2 ≤ qK ∧ n r + 15 ≤ sK := fun z => hcK y1 (by rw [e63e, z])
    have h65 : ∀ f, f < 4000 → ¬ KfO σ r e f → σ.2.2.1 65 (4000 * r + f) = -1 ∧ σ.2.2.1 66 (4000 * r + f) = 0 := fun f hf hk => d12 r f hr hf (by rw [← eKe]; exact hk)
    have hruW := (s5 r hr).1
    have d8' : wqI σ (e + 1) := by rw [← hne]; exact d8
    have kfl : ∀ o, o < e → hkO σ r o → kfO σ r o ≤ o ∧ σ.2.2.1 63 (4000 * r + o) = nI (kfO σ r o) := fun o ho hk => by
      rcases jK.1 o (by omega) with z | ⟨f, z1, z2, z3, -⟩
      · exact absurd z hk
      · have : kfO σ r o = f := by unfold kfO; rw [z2, nI_clamp (by omega)]
        rw [this]; exact ⟨z1, z2⟩
    refine ckl (post := fun a r39 S39 => w_X10_come_76 post G mc ms (w_X10_come_38 post G mc ms j) S39 (u + qK + qL) (v + sK + sL) wa (some (ev e)) (nI r) (some (ra r)) (some a) r39) (res := res) hJ hruC hruW (s5 r hr).2 he jK h65 y1 y2 hU yB ybits yb5 yres yres4 d8' hmn hev d3 ev402 hvs hevs (fun o o' z1 z2 => d7 o o' z1 (by omega)) hmK (hcL y1) (hcD y1) (fun S1 O1 bl1 ko1 eo1 so1 lo1 sr1 an1 hF hO hko1 hKf0 h41 hJ1 => ?_) (fun a S1 z1 z2 => ⟨z1, qL, sL, by omega, by omega, z2⟩)
    obtain ⟨a1, a2, a3⟩ := hA S1 σ1 O1 ko1 hF hO hko1 hU.pd
    have hsE := rE.sh (wt := wt) (Ow := Ow r) kbt
    have ruC1 := (hruC.fx hsE hF kwt).ev hU.ev
    have byD1 := (hCR r hr).fx' hsE kwt hF
    rw [hnow] at hJ1
    have kwt1 : cs_k S1 wt = 26 := hJ1.2.2.1.1.2.2.2.1
    have e1 : ∀ kk, kk ≠ 62 → kk ≠ 63 → kk ≠ 64 → σ1.2.2.1 kk = σ.2.2.1 kk := hU.2.2.2.1
    have i1 : σ1.1 = σ.1 := hU.1
    have nOw' : ∀ r', r' < nr → r' ≠ r → ∀ a, O1 a → ¬ Ow r' a := fun r' hr' hne' a z1 z2 => hne' (a3 r' r a hr' hr (by rw [OwU_o hne']; exact z2) (by rw [OwU_r]; exact z1))
    -- where the alerts are as they were
    have same78 : σ'.1 78 = σ1.1 78 → na' = na := fun h9 => by
      have h1 := d10'.2.2.1
      rw [h9, i1, d10.2.2.1] at h1
      exact ((nI_eq (a := na) (b := na') (by omega) (by omega)).mp h1).symm
    have same83 : σ'.1 83 = σ1.1 83 → ns' = ns := fun h9 => by
      have h1 := d10'.2.2.2.2.1
      rw [h9, i1, d10.2.2.2.2.1] at h1
      exact ((nI_eq (a := ns) (b := ns') (by omega) (by omega)).mp h1).symm
    have same72 : σ'.1 72 = σ1.1 72 → nl' = nl := fun h9 => by
      have h1 := d10'.2.1.1
      rw [h9, i1, d10.2.1.1] at h1
      exact ((nI_eq (a := nl) (b := nl') (by omega) (by omega)).mp h1).symm
    have eK1 : KfO σ' r (e + 1) = KfO σ1 r (e + 1) := funext fun f => propext (by unfold KfO; rw [z63])
    rcases y9 with ⟨x4, σ4, q1, q2, q3⟩ | ⟨x4, q1, q2⟩ | ⟨x4, s, hh, q1, q2, q3, q4⟩
    · -- a lack
      rw [yres4 x4]
      refine ⟨by omega, by omega, fun _ => next S1 _ _ (by omega) (by omega) ?_, fun z => absurd rfl z⟩
      obtain ⟨l1, l2, l3, l4⟩ := id q1
      have ints : ∀ kk, kk ≠ 72 → σ'.1 kk = σ1.1 kk := fun kk hk => by
        rcases q3 with ⟨-, z⟩ | ⟨-, z⟩
        · rw [z, (wtS_r (σ := σ4) (r := r) (e := e) (nl := nl)).2.2.2.2.1 kk hk, l1]
        · rw [z, l1]
      have rows : ∀ kk, kk ≠ 69 → kk ≠ 70 → kk ≠ 71 → σ'.2.2.1 kk = σ1.2.2.1 kk := fun kk h1 h2 h3 => by
        rcases q3 with ⟨-, z⟩ | ⟨-, z⟩
        · rw [z, (wtS_r (σ := σ4) (r := r) (e := e) (nl := nl)).1 kk h1 h2 h3, l3 kk h3]
        · rw [z, l3 kk h3]
      have words : σ'.2.2.2 = σ1.2.2.2 := by
        rcases q3 with ⟨-, z⟩ | ⟨-, z⟩
        · rw [z]; exact l4
        · rw [z, l4]
      have hV : eV σ1 σ' := ⟨fun kk hk => rows kk (by omega) (by omega) (by omega), words⟩
      have ena := same78 (ints 78 (by decide))
      have ens := same83 (ints 83 (by decide))
      have hnl2 : (B.testBit 0 = true ∧ nl' = nl + 1 ∧ lr' nl = r ∧ le' nl = e) ∨ (B.testBit 0 = false ∧ nl' = nl) := by
        rcases q3 with ⟨b0, z⟩ | ⟨b0, z⟩
        · have w72 : σ'.1 72 = nI (nl + 1) := by rw [z]; exact (wtS_r (σ := σ4) (r := r) (e := e) (nl := nl)).2.2.2.2.2
          have h1 := d10'.2.1.1
          rw [w72] at h1
          have hn1 : nl' = nl + 1 := ((nI_eq (by omega) (by omega)).mp h1).symm
          obtain ⟨c1, c2, c3, c4, -⟩ := d10'.2.1.2.2 nl (by omega)
          have w69 : σ'.2.2.1 69 nl = nI r := by rw [z, (wtS_r (σ := σ4) (r := r) (e := e) (nl := nl)).2.1, if_pos rfl]
          have w70 : σ'.2.2.1 70 nl = nI e := by rw [z, (wtS_r (σ := σ4) (r := r) (e := e) (nl := nl)).2.2.1, if_pos rfl]
          have hb9 := bpr' (lr' nl) c1
          rw [w69] at c3
          rw [w70] at c4
          exact Or.inl ⟨b0, hn1, ((nI_eq (by omega) (by omega)).mp c3).symm, ((nI_eq (by omega) (by omega)).mp c4).symm⟩
        · exact Or.inr ⟨b0, same72 (by rw [z, l1])⟩
      have hnlle : nl ≤ nl' := by rcases hnl2 with z | z <;> omega
      have hold : ∀ j, j < nl → lr' j = lr j ∧ le' j = le j := fun j hj => hD.lk hD' s4 hj (by omega) (z71 j hj).2.1 (z71 j hj).2.2
      have hnewr : ∀ j, nl ≤ j → j < nl' → lr' j = r := fun j h1 h2 => by
        rcases hnl2 with ⟨-, z1, z2, -⟩ | ⟨-, z⟩
        · have : j = nl := by omega
          rw [this]; exact z2
        · omega
      have a1' := a1.on (σ' := σ') (pr' := prU pr r (e + 1)) (ko' := koU ko r ko1) (Ow' := OwU Ow r O1) hV (ints 22 (by decide)) (ints 23 (by decide)) (ints 79 (by decide)) (fun _ _ => Nat.le_refl _) (fun r' o _ _ => by rw [z63]) (fun kk j h1 h2 _ => by rw [rows kk (by omega) (by omega) (by omega)]) (fun j _ => ⟨by rw [rows 81 (by decide) (by decide) (by decide)], by rw [rows 82 (by decide) (by decide) (by decide)]⟩) (fun _ _ _ _ z => z) (fun _ _ _ _ => rfl)
      rw [ena, ens]
      refine ⟨koU ko r ko1, OwU Ow r O1, al, ed, wl, a1', fun r' hr' => ?_, a3, frX S1 O1 hF hO⟩
      by_cases c : r' = r
      · subst c
        rw [koU_r, OwU_r, prU_r]
        obtain ⟨hlo1, han1⟩ := h41 x4
        refine ⟨ruC1.ev hV, byD1, wt, bt, nb, bl1, eo1, so1, lo1, sr1, an1, ?_, fun hx => ?_⟩
        · rw [eK1]
          exact hJ1.on hV (fun o _ => z63 _) (fun o _ => z64 _) (fun f _ => ⟨by rw [rows 65 (by decide) (by decide) (by decide)], by rw [rows 66 (by decide) (by decide) (by decide)]⟩) (by rw [rows 67 (by decide) (by decide) (by decide)]) (by omega) (fun hx => (hJ1.2.2.2.2.2.2.2.1 hx).1.1.1)
        · rw [hlo1, han1]
          have hL4 := hJ.2.2.2.2.2.2.2.2.2 x4
          refine (hlc x4).step (w := w) (tm := tm) (now := now) hU yB hf0 he kfl hL4.1.1 (fun f hf => (hL4.2.1.1 f hf).2.2.2.1) (fun z => ?_) q1 q2 ?_ hold hnow d13
          · rcases y2 with ⟨m1, m2, -⟩ | ⟨m1, -⟩
            · exact ⟨m1, m2⟩
            · omega
          · rcases q3 with ⟨b0, z⟩ | ⟨b0, z⟩
            · rcases hnl2 with ⟨-, m1, m2, m3⟩ | ⟨m1, -⟩
              · exact Or.inl ⟨b0, z, m1, m2, m3⟩
              · rw [b0] at m1; cases m1
            · rcases hnl2 with ⟨m1, -⟩ | ⟨-, m1⟩
              · rw [b0] at m1; cases m1
              · exact Or.inr ⟨b0, z, m1⟩
      · rw [koU_o c, OwU_o c, prU_o c]
        refine (a2 r' hr' c).on hV (fun o _ => ⟨z63 _, z64 _⟩) (fun f _ => ⟨by rw [rows 65 (by decide) (by decide) (by decide)], by rw [rows 66 (by decide) (by decide) (by decide)]⟩) (by rw [rows 67 (by decide) (by decide) (by decide)]) (bpr r' hr') hnlle (fun j m1 m2 m3 => c (by rw [← m3]; exact hnewr j m1 m2)) (fun j hj => ⟨(hold j hj).1, (hold j hj).2, fun hjr => ?_⟩) (fun j hj hjr => by have := hlkp j hj; rw [hjr] at this; exact this)
        have hna : ¬ anS σ1 r e lr le tm w j := fun z => c (by rw [← hjr]; exact z.1)
        have w71 : σ'.2.2.1 71 j = σ4.2.2.1 71 j := by
          rcases q3 with ⟨-, z⟩ | ⟨-, z⟩
          · rw [z, (wtS_r (σ := σ4) (r := r) (e := e) (nl := nl)).2.2.2.1, if_neg (by omega)]
          · rw [z]
        rw [w71, (q2 j hj).2 (Or.inr hna), e1 71 (by decide) (by decide) (by decide)]
    · -- nothing is found
      rw [q1]
      refine ⟨by omega, by omega, fun _ => next S1 _ _ (by omega) (by omega) ?_, fun z => absurd rfl z⟩
      have ena := same78 (by rw [q2])
      have ens := same83 (by rw [q2])
      have enl := same72 (by rw [q2])
      have hold : ∀ j, j < nl → lr' j = lr j ∧ le' j = le j := fun j hj => hD.lk hD' s4 hj (by omega) (z71 j hj).2.1 (z71 j hj).2.2
      subst q2
      subst ena
      subst ens
      subst enl
      refine ⟨koU ko r ko1, OwU Ow r O1, al, ed, wl, a1, fun r' hr' => ?_, a3, frX S1 O1 hF hO⟩
      by_cases c : r' = r
      · subst c
        rw [koU_r, OwU_r, prU_r]
        exact ⟨ruC1, byD1, wt, bt, nb, bl1, eo1, so1, lo1, sr1, an1, hJ1, fun hx => absurd hx x4⟩
      · rw [koU_o c, OwU_o c, prU_o c]
        exact (a2 r' hr' c).on ⟨fun _ _ => rfl, rfl⟩ (fun o _ => ⟨rfl, rfl⟩) (fun f _ => ⟨rfl, rfl⟩) rfl (bpr r' hr') (Nat.le_refl _) (fun j z1 z2 => absurd z1 (by omega)) (fun j hj => ⟨(hold j hj).1, (hold j hj).2, fun _ => Iff.rfl⟩) (fun j hj hjr => by have := hlkp j hj; rw [hjr] at this; exact this)
    · -- something is found
      have hs31 : s < 2 ^ 31 := by omega
      have hsn : ¬ nI s = -1 := nI_m s hs31
      rw [q1]
      obtain ⟨v1, v2, v3, v4, v5, v6, v7, v8, v9, v10⟩ := a1.1
      obtain ⟨⟨m1, hev1⟩, x400, x405, x402, xrow⟩ := a1.2.2.1 e (by omega)
      have hk := hJ1.kk hKf0
      obtain ⟨ib, kv, kb1, kb2, kb3, kb4⟩ := hJ1.2.2.1.2.1 f0 hKf0
      obtain ⟨-, h809, hn3, by0, h808, hby21, hbyn, hbyw⟩ := ruC1.2.2.2.2.2.2.2.2.1
      have hkvw : kv ≠ wt := by
        obtain ⟨-, -, ⟨vs, c1, c2, c3, -⟩, -⟩ := hJ1.2.2.1.2.2.2 ib _ kb1 kb2
        have : vs = kv := Option.some.inj (c1.symm.trans kb3.2.1)
        rw [← this]; exact c3
      have hneW : ∀ vs, (∀ r', r' < nr → ¬ OwU Ow r O1 r' vs) → vs ≠ wt := fun vs hv z => hv r hr (by rw [OwU_r, z]; exact hO.1 _ hOw)
      have wlk : ∀ y, y ∈ wl → cs_k S1 y = 5 := fun y hy => by
        obtain ⟨i, hi, rfl⟩ := List.getElem_of_mem hy
        have hq := a1.2.2.2.2.2.2
        have hlen : i < (stL σ1 ks (ns - ks)).length := by rw [← hq.2.1]; exact hi
        exact (hq.2.2.1 i wl[i] (stL σ1 ks (ns - ks))[i] (List.getElem?_eq_getElem hi) (List.getElem?_eq_getElem hlen)).1
      have crr1 : CR S1 σ1 O1 r (ra r) bk (x r) (k r) (n r) (w r) (q r) (L r) (dp r) (tr r) (ud r) (ut r) tm ev ko1 nl lr le now (e + 1) := ⟨ruC1, byD1, wt, bt, nb, bl1, eo1, so1, lo1, sr1, an1, hJ1, fun hx => absurd hx x4⟩
      have e503 : cs_i S1 503 (ko1 f0) = σ.2.2.1 65 (4000 * r + f0) := by rw [(hJ1.2.2.2.1 f0 hKf0).1, e1 65 (by decide) (by decide) (by decide)]
      have e504 : cs_i S1 504 (ko1 f0) = nI hh := by rw [(hJ1.2.2.2.1 f0 hKf0).2, e1 66 (by decide) (by decide) (by decide)]; exact q3
      have e811 : cs_i S1 811 (ra r) = nI (q r) := ruC1.2.2.2.2.2.2.2.2.2.2
      have hq6 : q r ≤ 1000000 := hruW.2.2.2.2.2.2.2.2.1
      have ht2 : tm e ≤ 2000000000 := (hevs e (Nat.le_refl _)).2.2.1
      have hushI : (¬ cs_i S1 503 (ko1 f0) = -1 ∧ ¬ cs_i S1 503 (ko1 f0) ≤ nI (tm e) - cs_i S1 811 (ra r)) ↔ hsh σ (4000 * r + f0) (tm e) (q r) := by
        rw [e503, e811]
        rcases (jH f0 (by omega)).1 with z | ⟨la, z1, z2⟩
        · rw [z]
          refine ⟨fun y => absurd rfl y.1, fun y => ?_⟩
          obtain ⟨la, y1', y2', -⟩ := y
          rw [z] at y1'
          exact absurd y1'.symm (nI_m la (by omega))
        · rw [z2, (win ht2 z1 hq6).2]
          refine ⟨fun y => ⟨la, z2, z1, by omega⟩, fun y => ⟨nI_m la (by omega), ?_⟩⟩
          obtain ⟨la', y1', y2', y3'⟩ := y
          rw [z2] at y1'
          have := (nI_eq (by omega) (by omega)).mp y1'
          omega
      refine ⟨by omega, by omega, fun z => absurd z hsn, fun _ => ⟨ev e, rfl, hev1.1, v1, qT, sT, by omega, by omega, ?_⟩⟩
      rw [x400]
      refine ctl (G := G) (n := n r) (by0 := by0) (kv := kv) (na := na) (al := al) (ed := ed) (tl := tl) v1 hk.1 hev1.1 ruC1.1 v9 a1.2.2.2.2.1.1 h809 h808 hby21 hbyn kb3.2.1 kb3.2.2.1 kb3.2.2.2.1 (fun jj hjj => ?_) hn3 (byD1 by0 h808) (fun z c1 c2 => ?_) (fun hnh => ?_) (fun c1 c2 => ?_) (fun hnh S2 htd => ?_)
      · obtain ⟨va, c1, tx, Ln, c2⟩ := kb3.2.2.2.2.2.1 jj hjj
        exact ⟨va, c1, c2.1⟩
      · have hq := a1.2.2.2.2.2.2
        rcases List.eq_nil_or_concat wl with c3 | ⟨l, z', c3⟩
        · have hc0 := hq.1
          rw [c3] at hc0
          exact absurd hc0 c1
        · have hlast := hq.2.2.2.2.1 z' (by rw [c3, List.concat_eq_append]; simp)
          rw [c2] at hlast
          cases hlast
          exact wlk z (by rw [c3, List.concat_eq_append]; simp)
      · rw [hushI] at hnh
        rcases q4 with ⟨c1, -⟩ | ⟨-, c2⟩
        · exact absurd c1 hnh
        · rw [x402, e1 10 (by decide) (by decide) (by decide)]
          refine hcT (fun z => ?_)
          have c78 : σ'.1 78 = nI (na + 1) := by rw [c2]; exact (fnA_r (σ := σ1) (r := r) (e := e) (t := tm e) (s := s) (kk := 4000 * r + f0) (h := hh) (na := na) (ns := ns)).2.2.2.2.2.1
          rw [c78, d10.2.2.1] at z
          have := (nI_eq (a := na + 1) (b := na) (by omega) (by omega)).mp z
          omega
      · -- hushed
        have hsh' := hushI.mp ⟨c1, c2⟩
        rcases q4 with ⟨-, m2⟩ | ⟨m1', -⟩
        · refine next _ _ _ (by omega) (by omega) ?_
          obtain ⟨f1, f2, f3, f4, f5⟩ := fnH_r (σ := σ1) (r := r) (kk := 4000 * r + f0) (h := hh)
          have ena := same78 (by rw [m2]; exact f4 78 (by decide))
          have ens := same83 (by rw [m2]; exact f4 83 (by decide))
          have enl := same72 (by rw [m2]; exact f4 72 (by decide))
          have hold : ∀ j, j < nl → lr' j = lr j ∧ le' j = le j := fun j hj => hD.lk hD' s4 hj (by omega) (z71 j hj).2.1 (z71 j hj).2.2
          subst m2
          subst ena
          subst ens
          subst enl
          have hV : eV σ1 (fnH σ1 r (4000 * r + f0) hh) := ⟨fun kk hk => f1 kk (by omega) (by omega), rfl⟩
          have aH := SHR.hush (v1 := cs_i S1 812 (ra r) + 1) (v2 := cs_i S1 504 (ko1 f0) + 1) (wt1 := wt) (r := r) (a := ko1 f0) (kk := 4000 * r + f0) (hh := hh) a1 kwt1 ruC1.1 hk.1 hneW rfl
          have hF3 : fX (fun s f y => s = 0 ∧ ((y = ra r ∧ f = 812) ∨ (y = ko1 f0 ∧ f = 504) ∨ (y = wa ∧ f = 1107))) S1 (cs_ui (cs_ui (cs_ui S1 812 (ra r) (cs_i S1 812 (ra r) + 1)) 504 (ko1 f0) (cs_i S1 504 (ko1 f0) + 1)) 1107 wa (cs_i S1 1107 wa + 1)) := ((fX.rfl.ui (Or.inl ⟨rfl, Or.inl ⟨rfl, rfl⟩⟩)).ui (Or.inl ⟨rfl, Or.inr (Or.inl ⟨rfl, rfl⟩)⟩)).ui (Or.inl ⟨rfl, Or.inr (Or.inr ⟨rfl, rfl⟩)⟩)
          have kra1 := ruC1.1
          have kk1 := hk.1
          have hs3 : sh S1 wt (fun s f y => s = 0 ∧ ((y = ra r ∧ f = 812) ∨ (y = ko1 f0 ∧ f = 504) ∨ (y = wa ∧ f = 1107))) := fun s f y _ z => by
            refine Or.inr ?_
            rcases z.2 with ⟨rfl, rfl⟩ | ⟨rfl, rfl⟩ | ⟨rfl, rfl⟩
            · exact ⟨by omega, by omega, by omega, by omega, by omega, by omega, fun y => by omega, fun y => by omega, fun y => by omega⟩
            · exact ⟨by omega, by omega, by omega, by omega, by omega, by omega, fun y => by omega, fun y => by omega, fun y => by omega⟩
            · exact ⟨by omega, by omega, by omega, by omega, by omega, by omega, fun y => by omega, fun y => by omega, fun y => by omega⟩
          have nwa1 : ra r ≠ wa := fun z => by rw [z, v1] at kra1; cases kra1
          refine ⟨koU ko r ko1, OwU Ow r O1, al, ed, wl, aH, fun r' hr' => ?_, a3, (frX S1 O1 hF hO).fx hF3 (fun s f y z => Or.inr (by
            rcases z.2 with ⟨rfl, -⟩ | ⟨rfl, -⟩ | ⟨rfl, -⟩ <;> omega)) (fun _ _ _ _ z => z)⟩
          by_cases c : r' = r
          · subst c
            rw [koU_r, OwU_r, prU_r]
            refine ⟨(ruC1.fx hs3 hF3 kwt1).ev hV, crr1.fx' hs3 kwt1 hF3, wt, bt, nb, bl1, eo1, so1, lo1, sr1, an1, ?_, fun hx => absurd hx x4⟩
            rw [eK1]
            refine hJ1.tell (f0 := f0) hs3 hF3 (fun s f y z ho => ?_) hKf0 hV (fun o _ => z63 _) (fun o _ => z64 _) ?_ ?_ (fun f hf hne' => ⟨by rw [f1 65 (by decide) (by decide)], by rw [f2, if_neg (by omega)]⟩) ?_
            · rcases z.2 with ⟨rfl, rfl⟩ | ⟨rfl, rfl⟩ | ⟨rfl, rfl⟩
              · exact ⟨by omega, fun y => by omega, fun _ => rfl, by omega, by omega⟩
              · exact ⟨by omega, fun _ => ⟨rfl, by omega⟩, fun y => by omega, by omega, by omega⟩
              · exact ⟨by omega, fun y => by omega, fun y => by omega, by omega, by omega⟩
            · rw [iui, if_neg (fun z => absurd z.1 (by decide)), iui, if_neg (fun z => absurd z.1 (by decide)), iui, if_neg (fun z => absurd z.1 (by decide)), f1 65 (by decide) (by decide)]
              exact (hJ1.2.2.2.1 f0 hKf0).1
            · rw [iui, if_neg (fun z => absurd z.1 (by decide)), iui, if_pos ⟨rfl, rfl⟩, f2, if_pos rfl, e504, nI_1]
            · rw [iui, if_neg (fun z => absurd z.1 (by decide)), iui, if_neg (fun z => absurd z.1 (by decide)), iui, if_pos ⟨rfl, rfl⟩, f3, if_pos rfl]
              rw [hJ1.2.2.2.2.2.1]
          · rw [koU_o c, OwU_o c, prU_o c]
            refine ((a2 r' hr' c).fx hs3 kwt1 hF3 (fun s f y z ho => ?_) (fun z => nOw' r' hr' c wt (hO.1 _ hOw) z)).on hV (fun o _ => ⟨z63 _, z64 _⟩) (fun f hf => ⟨by rw [f1 65 (by decide) (by decide)], by rw [f2, if_neg (by omega)]⟩) (by rw [f3, if_neg c]) (bpr r' hr') (Nat.le_refl _) (fun j z1 z2 => absurd z1 (by omega)) (fun j hj => ⟨(hold j hj).1, (hold j hj).2, fun _ => by rw [f1 71 (by decide) (by decide)]⟩) (fun j hj hjr => by have := hlkp j hj; rw [hjr] at this; exact this)
            rcases z.2 with ⟨rfl, rfl⟩ | ⟨rfl, rfl⟩ | ⟨rfl, rfl⟩
            · exact absurd ho (nOw' r' hr' c _ hJ1.2.1)
            · exact absurd ho (nOw' r' hr' c _ hk.2)
            · exact ⟨by omega, by omega, by omega, by omega, by omega⟩
        · exact absurd hsh' m1'
      · -- told
        have hnh' : ¬ hsh σ (4000 * r + f0) (tm e) (q r) := fun z => hnh (hushI.mpr z)
        rcases q4 with ⟨m1', -⟩ | ⟨-, m2⟩
        · exact absurd m1' hnh'
        obtain ⟨f1, f2, f3, f4, f5, f6, f7, f8, f9, f10, f11⟩ := fnA_r (σ := σ1) (r := r) (e := e) (t := tm e) (s := s) (kk := 4000 * r + f0) (h := hh) (na := na) (ns := ns)
        have ena : na' = na + 1 := by
          have h1 := d10'.2.2.1
          rw [m2, f6] at h1
          exact ((nI_eq (by omega) (by omega)).mp h1).symm
        have ens : ns' = ns + 1 := by
          have h1 := d10'.2.2.2.2.1
          rw [m2, f7] at h1
          exact ((nI_eq (by omega) (by omega)).mp h1).symm
        have enl := same72 (by rw [m2]; exact f5 72 (by decide) (by decide))
        have hold : ∀ j, j < nl → lr' j = lr j ∧ le' j = le j := fun j hj => hD.lk hD' s4 hj (by omega) (z71 j hj).2.1 (z71 j hj).2.2
        subst m2
        subst ena
        subst ens
        subst enl
        have hV : eV σ1 (fnA σ1 r e (tm e) s (4000 * r + f0) hh na ns) := fnA_ev
        have kra1 := ruC1.1
        have kk1 := hk.1
        have ekk : koU ko r ko1 r f0 = ko1 f0 := by rw [koU_r]
        have T0 := SHR.told0 (wt1 := wt) (r := r) (e := e) (f0 := f0) (kk := 4000 * r + f0) (hh := hh) (s := s) (t := tm e) a1 kwt1 hneW kra1 ruC1.2.1 hr (by rw [prU_r]; exact hKf0) (by rw [prU_r]; omega) (by omega) hU.e63 (by rw [ekk]; exact kk1) (by rw [ekk]; exact e504) (by rw [ekk]; exact htd)
        rw [ekk] at T0
        obtain ⟨hsT, al', ed', h0, c1106, c1107, ct, cc, cl, cA⟩ := T0
        have hFT := htd.1
        have tdD' := htd.2
        have ktl1 := a1.2.2.2.2.1.1.1
        have ked1 := a1.2.2.2.2.1.1.2.2.1
        have kwt2 : cs_k S2 wt = 26 := (hFT wt (by omega)).1.trans kwt1
        have frT : FR P0 S0 S2 nr (OwU Ow r O1) ne ev wl := (frX S1 O1 hF hO).fx hFT (fun s f y z => Or.inr (by
          rcases z with ⟨-, ⟨rfl, -⟩ | ⟨rfl, -⟩ | ⟨rfl, -⟩⟩ | rfl | ⟨-, rfl, -⟩ <;> omega)) (fun _ _ _ _ z => z)
        -- the rule itself
        have JT : JK S2 (fnA σ1 r e (tm e) s (4000 * r + f0) hh na ns) O1 r (ra r) (12 * bk + r) (x r) (k r) (n r) (w r) (L r) tm ev wt bt nb bl1 ko1 eo1 so1 lo1 sr1 an1 (KfO σ1 r (e + 1)) (KfO σ1 r (e + 1)) now (e + 1) := by
          refine hJ1.tell (f0 := f0) hsT hFT (fun s f y z ho => ?_) hKf0 hV (fun o _ => z63 _) (fun o _ => z64 _) ?_ ?_ (fun f hf hne' => ⟨by rw [f2, if_neg (by omega)], by rw [f3, if_neg (by omega)]⟩) ?_
          · rcases z with ⟨-, z⟩ | rfl | ⟨-, rfl, -⟩
            · rcases z with ⟨rfl, rfl⟩ | ⟨rfl, z⟩ | ⟨rfl, rfl⟩
              · exact ⟨by omega, fun y => by omega, fun _ => rfl, by omega, by omega⟩
              · exact ⟨by omega, fun _ => ⟨rfl, by omega⟩, fun y => by omega, by omega, by omega⟩
              · exact ⟨by omega, fun y => by omega, fun y => by omega, by omega, by omega⟩
            · exact ⟨by omega, fun y => by omega, fun y => by omega, by omega, by omega⟩
            · exact ⟨by omega, fun y => by omega, fun y => by omega, by omega, by omega⟩
          · rw [tdD'.2.1, f2, if_pos rfl]
          · rw [tdD'.2.2.1, f3, if_pos rfl]
          · rw [tdD'.1, f4, if_pos rfl, hJ1.2.2.2.2.2.1]
        have oth : ∀ r', r' < nr → r' ≠ r → CR S2 (fnA σ1 r e (tm e) s (4000 * r + f0) hh na ns) (Ow r') r' (ra r') bk (x r') (k r') (n r') (w r') (q r') (L r') (dp r') (tr r') (ud r') (ut r') tm ev (ko r') nl' lr' le' now (pr r') := fun r' hr' c => by
          refine ((a2 r' hr' c).fx hsT kwt1 hFT (fun s f y z ho => ?_) (fun z => nOw' r' hr' c wt (hO.1 _ hOw) z)).on hV (fun o _ => ⟨z63 _, z64 _⟩) (fun f hf => ⟨by rw [f2, if_neg (by omega)], by rw [f3, if_neg (by omega)]⟩) (by rw [f4, if_neg c]) (bpr r' hr') (Nat.le_refl _) (fun j z1 z2 => absurd z1 (by omega)) (fun j hj => ⟨(hold j hj).1, (hold j hj).2, fun _ => by rw [f1 71 (by decide) (by decide) (by decide) (by decide)]⟩) (fun j hj hjr => by have := hlkp j hj; rw [hjr] at this; exact this)
          rcases z with ⟨-, z⟩ | rfl | ⟨-, rfl, -⟩
          · rcases z with ⟨rfl, rfl⟩ | ⟨rfl, z⟩ | ⟨rfl, rfl⟩
            · exact absurd ho (nOw' r' hr' c _ hJ1.2.1)
            · exact absurd ho (nOw' r' hr' c _ hk.2)
            · exact ⟨by omega, by omega, by omega, by omega, by omega⟩
          · exact ⟨by omega, by omega, by omega, by omega, by omega⟩
          · exact ⟨by omega, by omega, by omega, by omega, by omega⟩
        have ruC2 := (ruC1.fx hsT hFT kwt1).ev hV
        have byD2 := crr1.fx' hsT kwt1 hFT
        rw [x402]
        refine ⟨fun hmk => next S2 _ _ (by omega) (by omega) ?_, fun hmk S' qn nm vs π hmD => next S' _ _ (by omega) (by omega) ?_⟩
        · -- no event is made
          have T1 := SHR.told1 (r := r) (e := e) (t := tm e) (s := s) (kk := 4000 * r + f0) (hh := hh) h0 hks (by omega) he hmk c1106 c1107 ct cc cl cA
          refine ⟨koU ko r ko1, OwU Ow r O1, al', ed', wl, T1, fun r' hr' => ?_, a3, frT⟩
          by_cases c : r' = r
          · subst c
            rw [koU_r, OwU_r, prU_r]
            refine ⟨ruC2, byD2, wt, bt, nb, bl1, eo1, so1, lo1, sr1, an1, ?_, fun hx => absurd hx x4⟩
            rw [eK1]; exact JT
          · rw [koU_o c, OwU_o c, prU_o c]; exact oth r' hr' c
        · -- an event is made
          have hlive2 : ∀ r' a, r' < nr → OwU Ow r O1 r' a → cs_k S2 a ≠ 0 := fun r' a hr' z => by
            rcases z with ⟨-, z⟩ | ⟨-, z⟩
            · exact hFT.live (hJ1.1 a z)
            · exact hFT.live (hF.live (hlive r' a hr' z))
          have nkv : kv ≠ wt := hkvw
          have akv := (hsT.all hFT (a := kv) (by have := kb3.2.2.1; omega) nkv).2.2.2.2.2.2.2
          have nby : by0 ≠ wt := fun z => by rw [z, kwt1] at hby21; cases hby21
          have aby := (hsT.a21 hFT hby21 (by omega) (fun y => by have := y.1; omega) nby).2.2.2.2.2.2.1
          have h800 : cs_i S2 800 (ra r) = nI r := by rw [(hsT.ru hFT kwt1 kra1).2.1 800 (by omega)]; exact ruC1.2.1
          have kHf0 : kH σ (12 * bk + r) (n r) f0 := by
            rcases y2 with ⟨b1, b2, -⟩ | ⟨b1, -⟩
            · rcases jK.1 f0 (by omega) with z | ⟨f, g1, g2, g3, g4, -⟩
              · rw [b2] at z; exact absurd z (nI_m f0 (by omega))
              · exact g4
            · rw [b1]; exact y1
          have kce : ∀ kk, kk < n r → kcO σ (12 * bk + r) e kk = kcO σ (12 * bk + r) f0 kk := fun kk hkk => by
            rcases y2 with ⟨b1, b2, b3⟩ | ⟨b1, -⟩
            · exact ((km_c d8' (by omega) (by omega) hmn kHf0 y1).mp b3 kk hkk).symm
            · rw [b1]
          have T2 := SHR.told2 (wt1 := wt) (r := r) (e := e) (t := tm e) (s := s) (kk := 4000 * r + f0) (hh := hh) h0 kwt2 hneW hlive2 hks hr s4 he hmk hnow h800 c1106 c1107 ct cc cl cA (fun kk hkk => ?_) hmD
          · obtain ⟨⟨hF2, hs2⟩, T3⟩ := T2
            refine ⟨koU ko r ko1, OwU Ow r O1, al', ed', wl ++ [qn], T3, fun r' hr' => ?_, a3, (frT.wl (wl' := wl ++ [qn]) (ne' := ne) (ev' := ev) (fun a _ hl z1 z2 => ⟨z1, fun z => by
                rcases List.mem_append.mp z with y | y
                · exact z2 y
                · exact hl (by rw [List.mem_singleton.mp y]; exact hmD.2.1.1)⟩)).fx hF2 (fun s f a z => Or.inr (by
              have := h0.1.1
              rcases z.2 with ⟨rfl, -⟩ | ⟨z1, z2⟩ <;> omega)) (fun _ _ _ _ z => z)⟩
            have hE2 : ∀ (O : Nat → Prop) s f a, (s = 2 ∧ ((a = wa ∧ (f = 1110 ∨ f = 1111)) ∨ (f = 406 ∧ cs_k S2 a = 5))) → O a → cs_k S2 a ≠ 4 ∧ cs_k S2 a ≠ 6 ∧ cs_k S2 a ≠ 9 ∧ cs_k S2 a ≠ 23 ∧ cs_k S2 a ≠ 25 := fun O s f a z _ => by
              rcases z.2 with ⟨rfl, -⟩ | ⟨-, z⟩
              · have := h0.1.1
                omega
              · omega
            by_cases c : r' = r
            · subst c
              rw [koU_r, OwU_r, prU_r]
              have crr2 : CR S2 (fnA σ1 r' e (tm e) s (4000 * r' + f0) hh na ns) O1 r' (ra r') bk (x r') (k r') (n r') (w r') (q r') (L r') (dp r') (tr r') (ud r') (ut r') tm ev ko1 nl' lr' le' now (e + 1) := ⟨ruC2, byD2, wt, bt, nb, bl1, eo1, so1, lo1, sr1, an1, by rw [eK1]; exact JT, fun hx => absurd hx x4⟩
              refine ⟨ruC2.fx hs2 hF2 kwt2, crr2.fx' hs2 kwt2 hF2, wt, bt, nb, bl1, eo1, so1, lo1, sr1, an1, ?_, fun hx => absurd hx x4⟩
              rw [eK1]
              exact JT.fx hs2 kwt2 hF2 (hE2 O1) (fun vs _ z => z)
            · rw [koU_o c, OwU_o c, prU_o c]
              exact (oth r' hr' c).fx hs2 kwt2 hF2 (hE2 (Ow r')) (fun z => nOw' r' hr' c wt (hO.1 _ hOw) z)
          · obtain ⟨i, hi⟩ := y1 kk hkk
            obtain ⟨va, c1, c2⟩ := kb3.2.2.2.2.2.1 kk hkk
            have hvx : vX S1 va = vC σ1 (8 * e + i) := by
              have h9 := kb4 kk hkk
              unfold rX at h9
              rw [c1, hU.ev.kc, ← kce kk hkk] at h9
              unfold kcO at h9
              rw [hi] at h9
              rw [hU.ev.vc]
              exact h9
            obtain ⟨-, -, hm8, h9m, nme, vse, n1, n2, n3, n4, n5, n6, n7⟩ := id hev1
            obtain ⟨li, lname⟩ := fO_lt (by rw [← hU.ev.1 9 (by decide)]; exact h9m) hm8 hi
            obtain ⟨⟨n', l, g1, g2, g3⟩, ⟨va', g4, g5⟩, -⟩ := n7 i li
            have hvl1 : vlR S1 σ1 te va (8 * e + i) := g5.same d3 c2 hvx
            obtain ⟨n'', l'', g6, g7⟩ := hbyw kk hkk
            have ew : σ1.2.2.2 13 (8 * e + i) = σ1.2.2.2 37 (3 * (12 * bk + r) + kk) := by rw [hU.ev.2]; exact lname
            rw [ew] at g3
            have ec : cs_al S1 nme i = cs_al S1 by0 kk := (wd_eq8 g3 g7 g2 g6).mpr rfl
            refine ⟨va, i, n', l, by rw [akv]; exact c1, by rw [hU.ev.2, hU.ev.fo]; exact hi, hsT.vl hFT kwt1 hvl1, g1, g2, ?_⟩
            rw [aby, ← ec]; exact g3
end CSS
