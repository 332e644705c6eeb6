/-! ===== class and reference: one rule looks at one event, whole ===== -/
section CSS
variable {G : Nat → Nat} {S : cs_S} {σ σ' : rf_S} {wa rr lt tl bk nr te nv ne na ns ks nl now na' ns' nl' r e mc ms u v j qK qL qT sK sL sT : Nat} {ra x k n w q L : Nat → Nat} {dp : Nat → Nat → Nat} {tr : (r c : Nat) → cT (dp r c)} {ud : Nat → Nat} {ut : (r : Nat) → Option (cT (ud r))} {pr lr le tm ev lr' le' : Nat → Nat} {post : cs_S → Prop}
theorem CS (hW : CW G S σ wa rr lt tl bk nr ra x k n w q L dp tr ud ut te ne na ns ks nl now pr lr le tm ev) (hS : RS0 σ bk nr x k n w q L dp tr ud ut) (hD : RD σ bk nr x n w te nv ne na ns nl now pr lr le tm) (hr : r < nr) (hp : pr r ≤ e) (hne : ne = e + 1) (hnow : tm e = now) (hks : ks ≤ ns) (hl : lkD σ r (12 * bk + r) e (x r) (k r) (n r) (w r) (q r) nl na ns tm lr le w (dp r) (tr r) (ud r) (ut r) σ') (hD' : RD σ' bk nr x n w te nv ne na' ns' nl' now (prU pr r (e + 1)) lr' le' tm)
    (hc : u + (qK + qL + qT) ≤ mc) (hcs : v + (sK + sL + sT) ≤ ms) (hcK : kH σ (12 * bk + r) (n r) e → σ'.2.2.1 63 (4000 * r + e) = nI e → 2 ≤ qK ∧ n r + 15 ≤ sK) (hcL : kH σ (12 * bk + r) (n r) e → 1 ≤ qL ∧ 6 ≤ sL) (hcD : kH σ (12 * bk + r) (n r) e → x r = 1 → hI σ (12 * bk + r) e → 3 ≤ qL ∧ 25 ≤ sL) (hcT : ¬ σ'.1 78 = σ.1 78 → (if na < 500 then 1 + gC na else 0) + (if σ.2.2.1 10 e = -1 then 3 else 0) ≤ qT ∧ (if na < 500 then 6 + gS na else 0) + (if σ.2.2.1 10 e = -1 then 2 * n r + 7 else 0) ≤ sT)
    (hpost : ∀ S' u' v', u' ≤ u + (qK + qL + qT) → v' ≤ v + (sK + sL + sT) → CW G S' σ' wa rr lt tl bk nr ra x k n w q L dp tr ud ut te ne na' ns' ks nl' now (prU pr r (e + 1)) lr' le' tm ev → w_X10_come_38 post G mc ms j S' u' v' wa (some (ev e)) (nI (r + 1))) :
    w_X10_come_38 post G mc ms (j + 1) S u v wa (some (ev e)) (nI r) := by
  obtain ⟨ko, Ow, al, ed, wl, hSH, hCR, hdis⟩ := hW
  obtain ⟨hruC, hby, wt, bt, nb, bl, eo, so, lo, sr, an, hJ0, hlc0⟩ := hCR r hr
  obtain ⟨s1, s2, s3, s4, s5⟩ := id hS
  obtain ⟨bnl, bna, bns, bpr, blk⟩ := hD.bnd s4
  obtain ⟨bnl', bna', bns', bpr', blk'⟩ := hD'.bnd s4
  obtain ⟨⟨d1, d2, d3, d4, d5⟩, d6, d7, ⟨d8a, d8, d8b, d8c, d8d⟩, d9, d10, d11, d12, d13, d14⟩ := id hD
  have d10' := hD'.2.2.2.2.2.1
  have he : e < 4000 := by omega
  obtain ⟨jp, jK, j63, jB, F, jF, jF2, jH⟩ := d10.1 r hr
  have e63 : ∀ o, pr r ≤ o → o < 4000 → σ.2.2.1 63 (4000 * r + o) = -1 := j63
  have hup := JK.up (e - pr r) (pr r) hJ0 (by omega) (fun o z1 z2 => e63 o z1 (by omega))
  rw [show pr r + (e - pr r) = e from by omega] at hup
  have eKe : KfO σ r e = KfO σ r (pr r) := KfO_ext hp (by omega) e63
  have hJ : JK S σ (Ow r) r (ra r) (12 * bk + r) (x r) (k r) (n r) (w r) (L r) tm ev wt bt nb bl (ko r) eo so lo sr an (KfO σ r e) (KfO σ r e) (tm e) e := by rw [hnow]; exact hup
  have hb3 := hJ.2.2.1
  have kwt : cs_k S wt = 26 := hb3.1.2.2.2.1
  have kbt : cs_k S bt = 25 := hb3.1.1.2.2.1
  have hOw : Ow r wt := hb3.1.2.2.2.2.2.1
  have hmn : ∀ o, o < e + 1 → ∃ m, m ≤ 8 ∧ σ.2.2.1 9 o = nI m := fun o ho => by
    obtain ⟨⟨m, g⟩, -⟩ := d6 o (by omega)
    exact ⟨m, g.2.1, g.2.2.1⟩
  obtain ⟨⟨m, hev⟩, ev400, ev405, ev402, evrow⟩ := hSH.2.2.1 e (by omega)
  have hvs : ∀ vs, cs_r S 404 (ev e) = some vs → vs ≠ wt := fun vs hv z => evrow vs r hv hr (by rw [z]; exact hOw)
  have hevs : ∀ o, o ≤ e → cs_k S (ev o) = 5 ∧ cs_i S 400 (ev o) = nI (tm o) ∧ tm o ≤ 2000000000 ∧ cs_i S 405 (ev o) = nI o := fun o ho => by
    obtain ⟨⟨m', g1⟩, g2, g3, g4, -⟩ := hSH.2.2.1 o (by omega)
    exact ⟨g1.1, g2, by have := (d6 o (by omega)).2.2.1; omega, g3⟩
  obtain ⟨w1, w2, w3, w4, w5, w6, w7, w8, w9, w10⟩ := hSH.1
  have kra := hruC.1
  have hlkp : ∀ j, j < nl → le j < pr (lr j) := fun j hj => (blk j hj).2
  have hlive : ∀ r a, r < nr → Ow r a → cs_k S a ≠ 0 := fun r' a hr' z => by
    obtain ⟨-, -, _, _, _, _, _, _, _, _, _, hJ', -⟩ := hCR r' hr'
    exact hJ'.1 a z
  have hA := fun (S1 : cs_S) (σ1 : rf_S) (O1 : Nat → Prop) (k1 : Nat → Nat) (hF : fX (rE S wt bt (Ow r)) S S1) (hO : oX S (Ow r) O1) (hk1 : ∀ f, KfO σ r e f → k1 f = ko r f) (hP : pD σ σ1 r e) => asm hSH hCR hdis hr hp he bpr hlkp kwt kbt hOw hF hO hk1 hP
  -- the lacks at e
  have hlc : x r = 4 → lcR σ r nl lr le an lo e := fun hx => (hlc0 hx).on hp (fun o _ => ⟨rfl, rfl⟩) (fun o z1 z2 z3 => z3.1 (e63 o z1 (by omega))) (Nat.le_refl _) (fun j z1 z2 => absurd z1 (by omega)) (fun j _ => ⟨rfl, rfl, fun _ => Iff.rfl⟩)
  refine ⟨by omega, by omega, w1, fun z => ?_, fun _ r31 e31 => ⟨rr, e31.trans w2, w3, ?_, fun r34 e34 => ⟨ra r, ?_, kra, qK, sK, by omega, by omega, ?_⟩⟩⟩
  · rw [w5] at z; exact absurd z (nI_ge (by omega) (by omega))
  · exact nI_in (by omega) (by omega)
  · rw [e34, nI_clamp (by omega)]; exact w10 r hr
  have next : ∀ S' u' v', u' ≤ u + (qK + qL + qT) → v' ≤ v + (sK + sL + sT) → CW G S' σ' wa rr lt tl bk nr ra x k n w q L dp tr ud ut te ne na' ns' ks nl' now (prU pr r (e + 1)) lr' le' tm ev → w_X10_come_98 post G mc ms (w_X10_come_38 post G mc ms j) S' u' v' wa (some (ev e)) (nI r) := fun S' u' v' h1 h2 h3 => ⟨by omega, by omega, by rw [nI_1]; exact hpost S' u' v' h1 h2 h3⟩
  rcases hl.y with ⟨hnk, hσ⟩ | ⟨f0, B, σ1, res, hY⟩
  · -- no key
    have hP : pD σ σ' r e := by
      rw [hσ]
      refine ⟨⟨fun kk hk => funext fun j => by rw [r3ua, if_neg (fun z => by omega)], rfl⟩, rfl, fun kk j h1 h2 => ?_⟩
      rw [r3ua, if_neg (fun z => h2 ⟨Or.inl z.1, z.2⟩)]
    have hrow : ∀ kk jj, σ'.2.2.1 kk jj = σ.2.2.1 kk jj := fun kk jj => by
      rw [hσ, r3ua]
      by_cases c : kk = 63 ∧ jj = 4000 * r + e
      · rw [if_pos c, c.1, c.2]; exact (e63 e hp he).symm
      · rw [if_neg c]
    have hrow' : σ'.2.2.1 = σ.2.2.1 := funext fun kk => funext fun jj => hrow kk jj
    have ena : na' = na := by
      have h1 := d10'.2.2.1
      rw [hP.2.1, d10.2.2.1] at h1
      exact ((nI_eq (a := na) (b := na') (by omega) (by omega)).mp h1).symm
    have ens : ns' = ns := by
      have h1 := d10'.2.2.2.2.1
      rw [hP.2.1, d10.2.2.2.2.1] at h1
      exact ((nI_eq (a := ns) (b := ns') (by omega) (by omega)).mp h1).symm
    have enl : nl' = nl := by
      have h1 := d10'.2.1.1
      rw [hP.2.1, d10.2.1.1] at h1
      exact ((nI_eq (a := nl) (b := nl') (by omega) (by omega)).mp h1).symm
    have hlrle : ∀ j, j < nl → lr' j = lr j ∧ le' j = le j := fun j hj => hD.lk hD' s4 hj (by omega) (hrow 69 j) (hrow 70 j)
    refine ckn (post := _) hJ hruC he (e63 e hp he) hnk hev d3 hvs (fun S1 hF hJ1 => ⟨fun _ => ⟨by omega, by omega, fun _ => next S1 _ _ (by omega) (by omega) ?_, fun z => absurd rfl z⟩, fun b z => (nomatch z)⟩)
    obtain ⟨a1, a2, a3⟩ := hA S1 σ' (Ow r) (ko r) hF oX.rfl (fun _ _ => rfl) hP
    subst ena
    subst ens
    subst enl
    refine ⟨koU ko r (ko r), OwU Ow r (Ow r), al, ed, wl, a1, fun r' hr' => ?_, a3⟩
    by_cases c : r' = r
    · subst c
      rw [koU_r, OwU_r, prU_r]
      refine ⟨(hruC.fx (rE.sh kbt) hF kwt).ev hP.1, ?_, wt, bt, nb, bl, eo, so, lo, sr, an, ?_, fun hx => ?_⟩
      · exact ((hCR r' hr').fx' (rE.sh kbt) kwt hF)
      · have eK : KfO σ' r' (e + 1) = KfO σ r' (e + 1) := funext fun f => propext (by unfold KfO; rw [hrow])
        rw [eK]
        rw [hnow] at hJ1
        exact hJ1.on hP.1 (fun o _ => hrow 63 _) (fun o _ => hrow 64 _) (fun f _ => ⟨hrow 65 _, hrow 66 _⟩) (hrow 67 _) (by omega) (fun hx => (hJ1.2.2.2.2.2.2.2.1 hx).1.1.1)
      · refine (hlc hx).on (by omega) (fun o _ => ⟨hrow 63 _, hrow 64 _⟩) (fun o z1 z2 z3 => ?_) (Nat.le_refl _) (fun j z1 z2 => absurd z1 (by omega)) (fun j hj => ⟨(hlrle j hj).1, (hlrle j hj).2, fun _ => by rw [hrow]⟩)
        have := z3.1
        unfold hkO at this
        rw [hrow] at this
        exact this (e63 o (by omega) (by omega))
    · rw [koU_o c, OwU_o c, prU_o c]
      refine (a2 r' hr' c).on ⟨fun _ _ => rfl, rfl⟩ (fun o _ => ⟨rfl, rfl⟩) (fun f _ => ⟨rfl, rfl⟩) rfl (bpr r' hr') (Nat.le_refl _) (fun j z1 z2 => absurd z1 (by omega)) (fun j hj => ⟨(hlrle j hj).1, (hlrle j hj).2, fun _ => Iff.rfl⟩) (fun j hj hjr => by have := hlkp j hj; rw [hjr] at this; exact this)
  · obtain ⟨y1, y2, hU, yB, ybits, yb5, yres, yres4, y9⟩ := id hY
    obtain ⟨z63, z64, z65, z67, z71, z72⟩ := hY.rows
    have hf0 : f0 ≤ e := by rcases y2 with z | z <;> omega
    have e63e : σ'.2.2.1 63 (4000 * r + e) = nI f0 := by rw [z63]; exact hU.e63
    have hmK : f0 = e → 2 ≤ qK ∧ n r + 15 ≤ sK := fun z => hcK y1 (by rw [e63e, z])
    have h65 : ∀ f, f < 4000 → ¬ KfO σ r e f → σ.2.2.1 65 (4000 * r + f) = -1 ∧ σ.2.2.1 66 (4000 * r + f) = 0 := fun f hf hk => d12 r f hr hf (by rw [← eKe]; exact hk)
    have hruW := (s5 r hr).1
    have d8' : wqI σ (e + 1) := by rw [← hne]; exact d8
    have kfl : ∀ o, o < e → hkO σ r o → kfO σ r o ≤ o ∧ σ.2.2.1 63 (4000 * r + o) = nI (kfO σ r o) := fun o ho hk => by
      rcases jK.1 o (by omega) with z | ⟨f, z1, z2, z3, -⟩
      · exact absurd z hk
      · have : kfO σ r o = f := by unfold kfO; rw [z2, nI_clamp (by omega)]
        rw [this]; exact ⟨z1, z2⟩
    refine ckl (post := fun a r39 S39 => w_X10_come_76 post G mc ms (w_X10_come_38 post G mc ms j) S39 (u + qK + qL) (v + sK + sL) wa (some (ev e)) (nI r) (some (ra r)) (some a) r39) (res := res) hJ hruC hruW (s5 r hr).2 he jK h65 y1 y2 hU yB ybits yb5 yres yres4 d8' hmn hev d3 ev402 hvs hevs (fun o o' z1 z2 => d7 o o' z1 (by omega)) hmK (hcL y1) (hcD y1) (fun S1 O1 bl1 ko1 eo1 so1 lo1 sr1 an1 hF hO hko1 hKf0 h41 hJ1 => ?_) (fun a S1 z1 z2 => ⟨z1, qL, sL, by omega, by omega, z2⟩)
    obtain ⟨a1, a2, a3⟩ := hA S1 σ1 O1 ko1 hF hO hko1 hU.pd
    have hsE := rE.sh (wt := wt) (Ow := Ow r) kbt
    have ruC1 := (hruC.fx hsE hF kwt).ev hU.ev
    have byD1 := (hCR r hr).fx' hsE kwt hF
    rw [hnow] at hJ1
    have kwt1 : cs_k S1 wt = 26 := hJ1.2.2.1.1.2.2.2.1
    have e1 : ∀ kk, kk ≠ 62 → kk ≠ 63 → kk ≠ 64 → σ1.2.2.1 kk = σ.2.2.1 kk := hU.2.2.2.1
    have i1 : σ1.1 = σ.1 := hU.1
    have nOw' : ∀ r', r' < nr → r' ≠ r → ∀ a, O1 a → ¬ Ow r' a := fun r' hr' hne' a z1 z2 => hne' (a3 r' r a hr' hr (by rw [OwU_o hne']; exact z2) (by rw [OwU_r]; exact z1))
    -- where the alerts are as they were
    have same78 : σ'.1 78 = σ1.1 78 → na' = na := fun h9 => by
      have h1 := d10'.2.2.1
      rw [h9, i1, d10.2.2.1] at h1
      exact ((nI_eq (a := na) (b := na') (by omega) (by omega)).mp h1).symm
    have same83 : σ'.1 83 = σ1.1 83 → ns' = ns := fun h9 => by
      have h1 := d10'.2.2.2.2.1
      rw [h9, i1, d10.2.2.2.2.1] at h1
      exact ((nI_eq (a := ns) (b := ns') (by omega) (by omega)).mp h1).symm
    have same72 : σ'.1 72 = σ1.1 72 → nl' = nl := fun h9 => by
      have h1 := d10'.2.1.1
      rw [h9, i1, d10.2.1.1] at h1
      exact ((nI_eq (a := nl) (b := nl') (by omega) (by omega)).mp h1).symm
    have eK1 : KfO σ' r (e + 1) = KfO σ1 r (e + 1) := funext fun f => propext (by unfold KfO; rw [z63])
    rcases y9 with ⟨x4, σ4, q1, q2, q3⟩ | ⟨x4, q1, q2⟩ | ⟨x4, s, hh, q1, q2, q3, q4⟩
    · -- a lack
      rw [yres4 x4]
      refine ⟨by omega, by omega, fun _ => next S1 _ _ (by omega) (by omega) ?_, fun z => absurd rfl z⟩
      obtain ⟨l1, l2, l3, l4⟩ := id q1
      have ints : ∀ kk, kk ≠ 72 → σ'.1 kk = σ1.1 kk := fun kk hk => by
        rcases q3 with ⟨-, z⟩ | ⟨-, z⟩
        · rw [z, (wtS_r (σ := σ4) (r := r) (e := e) (nl := nl)).2.2.2.2.1 kk hk, l1]
        · rw [z, l1]
      have rows : ∀ kk, kk ≠ 69 → kk ≠ 70 → kk ≠ 71 → σ'.2.2.1 kk = σ1.2.2.1 kk := fun kk h1 h2 h3 => by
        rcases q3 with ⟨-, z⟩ | ⟨-, z⟩
        · rw [z, (wtS_r (σ := σ4) (r := r) (e := e) (nl := nl)).1 kk h1 h2 h3, l3 kk h3]
        · rw [z, l3 kk h3]
      have words : σ'.2.2.2 = σ1.2.2.2 := by
        rcases q3 with ⟨-, z⟩ | ⟨-, z⟩
        · rw [z]; exact l4
        · rw [z, l4]
      have hV : eV σ1 σ' := ⟨fun kk hk => rows kk (by omega) (by omega) (by omega), words⟩
      have ena := same78 (ints 78 (by decide))
      have ens := same83 (ints 83 (by decide))
      have hnl2 : (B.testBit 0 = true ∧ nl' = nl + 1 ∧ lr' nl = r ∧ le' nl = e) ∨ (B.testBit 0 = false ∧ nl' = nl) := by
        rcases q3 with ⟨b0, z⟩ | ⟨b0, z⟩
        · have w72 : σ'.1 72 = nI (nl + 1) := by rw [z]; exact (wtS_r (σ := σ4) (r := r) (e := e) (nl := nl)).2.2.2.2.2
          have h1 := d10'.2.1.1
          rw [w72] at h1
          have hn1 : nl' = nl + 1 := ((nI_eq (by omega) (by omega)).mp h1).symm
          obtain ⟨c1, c2, c3, c4, -⟩ := d10'.2.1.2.2 nl (by omega)
          have w69 : σ'.2.2.1 69 nl = nI r := by rw [z, (wtS_r (σ := σ4) (r := r) (e := e) (nl := nl)).2.1, if_pos rfl]
          have w70 : σ'.2.2.1 70 nl = nI e := by rw [z, (wtS_r (σ := σ4) (r := r) (e := e) (nl := nl)).2.2.1, if_pos rfl]
          have hb9 := bpr' (lr' nl) c1
          rw [w69] at c3
          rw [w70] at c4
          exact Or.inl ⟨b0, hn1, ((nI_eq (by omega) (by omega)).mp c3).symm, ((nI_eq (by omega) (by omega)).mp c4).symm⟩
        · exact Or.inr ⟨b0, same72 (by rw [z, l1])⟩
      have hnlle : nl ≤ nl' := by rcases hnl2 with z | z <;> omega
      have hold : ∀ j, j < nl → lr' j = lr j ∧ le' j = le j := fun j hj => hD.lk hD' s4 hj (by omega) (z71 j hj).2.1 (z71 j hj).2.2
      have hnewr : ∀ j, nl ≤ j → j < nl' → lr' j = r := fun j h1 h2 => by
        rcases hnl2 with ⟨-, z1, z2, -⟩ | ⟨-, z⟩
        · have : j = nl := by omega
          rw [this]; exact z2
        · omega
      have a1' := a1.on (σ' := σ') (pr' := prU pr r (e + 1)) (ko' := koU ko r ko1) (Ow' := OwU Ow r O1) hV (ints 22 (by decide)) (ints 23 (by decide)) (ints 79 (by decide)) (fun _ _ => Nat.le_refl _) (fun r' o _ _ => by rw [z63]) (fun kk j h1 h2 _ => by rw [rows kk (by omega) (by omega) (by omega)]) (fun j _ => ⟨by rw [rows 81 (by decide) (by decide) (by decide)], by rw [rows 82 (by decide) (by decide) (by decide)]⟩) (fun _ _ _ _ z => z) (fun _ _ _ _ => rfl)
      rw [ena, ens]
      refine ⟨koU ko r ko1, OwU Ow r O1, al, ed, wl, a1', fun r' hr' => ?_, a3⟩
      by_cases c : r' = r
      · subst c
        rw [koU_r, OwU_r, prU_r]
        obtain ⟨hlo1, han1⟩ := h41 x4
        refine ⟨ruC1.ev hV, byD1, wt, bt, nb, bl1, eo1, so1, lo1, sr1, an1, ?_, fun hx => ?_⟩
        · rw [eK1]
          exact hJ1.on hV (fun o _ => z63 _) (fun o _ => z64 _) (fun f _ => ⟨by rw [rows 65 (by decide) (by decide) (by decide)], by rw [rows 66 (by decide) (by decide) (by decide)]⟩) (by rw [rows 67 (by decide) (by decide) (by decide)]) (by omega) (fun hx => (hJ1.2.2.2.2.2.2.2.1 hx).1.1.1)
        · rw [hlo1, han1]
          have hL4 := hJ.2.2.2.2.2.2.2.2.2 x4
          refine (hlc x4).step (w := w) (tm := tm) (now := now) hU yB hf0 he kfl hL4.1.1 (fun f hf => (hL4.2.1.1 f hf).2.2.2.1) (fun z => ?_) q1 q2 ?_ hold hnow d13
          · rcases y2 with ⟨m1, m2, -⟩ | ⟨m1, -⟩
            · exact ⟨m1, m2⟩
            · omega
          · rcases q3 with ⟨b0, z⟩ | ⟨b0, z⟩
            · rcases hnl2 with ⟨-, m1, m2, m3⟩ | ⟨m1, -⟩
              · exact Or.inl ⟨b0, z, m1, m2, m3⟩
              · rw [b0] at m1; cases m1
            · rcases hnl2 with ⟨m1, -⟩ | ⟨-, m1⟩
              · rw [b0] at m1; cases m1
              · exact Or.inr ⟨b0, z, m1⟩
      · rw [koU_o c, OwU_o c, prU_o c]
        refine (a2 r' hr' c).on hV (fun o _ => ⟨z63 _, z64 _⟩) (fun f _ => ⟨by rw [rows 65 (by decide) (by decide) (by decide)], by rw [rows 66 (by decide) (by decide) (by decide)]⟩) (by rw [rows 67 (by decide) (by decide) (by decide)]) (bpr r' hr') hnlle (fun j m1 m2 m3 => c (by rw [← m3]; exact hnewr j m1 m2)) (fun j hj => ⟨(hold j hj).1, (hold j hj).2, fun hjr => ?_⟩) (fun j hj hjr => by have := hlkp j hj; rw [hjr] at this; exact this)
        have hna : ¬ anS σ1 r e lr le tm w j := fun z => c (by rw [← hjr]; exact z.1)
        have w71 : σ'.2.2.1 71 j = σ4.2.2.1 71 j := by
          rcases q3 with ⟨-, z⟩ | ⟨-, z⟩
          · rw [z, (wtS_r (σ := σ4) (r := r) (e := e) (nl := nl)).2.2.2.1, if_neg (by omega)]
          · rw [z]
        rw [w71, (q2 j hj).2 (Or.inr hna), e1 71 (by decide) (by decide) (by decide)]
    · -- nothing is found
      rw [q1]
      refine ⟨by omega, by omega, fun _ => next S1 _ _ (by omega) (by omega) ?_, fun z => absurd rfl z⟩
      have ena := same78 (by rw [q2])
      have ens := same83 (by rw [q2])
      have enl := same72 (by rw [q2])
      have hold : ∀ j, j < nl → lr' j = lr j ∧ le' j = le j := fun j hj => hD.lk hD' s4 hj (by omega) (z71 j hj).2.1 (z71 j hj).2.2
      subst q2
      subst ena
      subst ens
      subst enl
      refine ⟨koU ko r ko1, OwU Ow r O1, al, ed, wl, a1, fun r' hr' => ?_, a3⟩
      by_cases c : r' = r
      · subst c
        rw [koU_r, OwU_r, prU_r]
        exact ⟨ruC1, byD1, wt, bt, nb, bl1, eo1, so1, lo1, sr1, an1, hJ1, fun hx => absurd hx x4⟩
      · rw [koU_o c, OwU_o c, prU_o c]
        exact (a2 r' hr' c).on ⟨fun _ _ => rfl, rfl⟩ (fun o _ => ⟨rfl, rfl⟩) (fun f _ => ⟨rfl, rfl⟩) rfl (bpr r' hr') (Nat.le_refl _) (fun j z1 z2 => absurd z1 (by omega)) (fun j hj => ⟨(hold j hj).1, (hold j hj).2, fun _ => Iff.rfl⟩) (fun j hj hjr => by have := hlkp j hj; rw [hjr] at this; exact this)
    · sorry
end CSS
