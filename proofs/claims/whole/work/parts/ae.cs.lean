/-! ===== class and reference: one rule looks at one event, whole ===== -/
section CSS
variable {G : Nat → Nat} {S : cs_S} {σ σ' : rf_S} {wa rr lt tl bk nr te nv ne na ns ks nl now na' ns' nl' r e mc ms u v j qK qL qT sK sL sT : Nat} {ra x k n w q L : Nat → Nat} {dp : Nat → Nat → Nat} {tr : (r c : Nat) → cT (dp r c)} {ud : Nat → Nat} {ut : (r : Nat) → Option (cT (ud r))} {pr lr le tm ev lr' le' : Nat → Nat} {post : cs_S → Prop}
theorem CS (hW : CW G S σ wa rr lt tl bk nr ra x k n w q L dp tr ud ut te ne na ns ks nl now pr lr le tm ev) (hS : RS0 σ bk nr x k n w q L dp tr ud ut) (hD : RD σ bk nr x n w te nv ne na ns nl now pr lr le tm) (hr : r < nr) (hp : pr r ≤ e) (hne : ne = e + 1) (hnow : tm e = now) (hks : ks ≤ ns) (hl : lkD σ r (12 * bk + r) e (x r) (k r) (n r) (w r) (q r) nl na ns tm lr le w (dp r) (tr r) (ud r) (ut r) σ') (hD' : RD σ' bk nr x n w te nv ne na' ns' nl' now (prU pr r (e + 1)) lr' le' tm)
    (hc : u + (qK + qL + qT) ≤ mc) (hcs : v + (sK + sL + sT) ≤ ms) (hcK : kH σ (12 * bk + r) (n r) e → σ'.2.2.1 63 (4000 * r + e) = nI e → 2 ≤ qK ∧ n r + 15 ≤ sK) (hcL : kH σ (12 * bk + r) (n r) e → 1 ≤ qL ∧ 6 ≤ sL) (hcD : kH σ (12 * bk + r) (n r) e → x r = 1 → hI σ (12 * bk + r) e → 3 ≤ qL ∧ 25 ≤ sL) (hcT : ¬ σ'.1 78 = σ.1 78 → (if na < 500 then 1 + gC na else 0) + (if σ.2.2.1 10 e = -1 then 3 else 0) ≤ qT ∧ (if na < 500 then 6 + gS na else 0) + (if σ.2.2.1 10 e = -1 then 2 * n r + 7 else 0) ≤ sT)
    (hpost : ∀ S' u' v', u' ≤ u + (qK + qL + qT) → v' ≤ v + (sK + sL + sT) → CW G S' σ' wa rr lt tl bk nr ra x k n w q L dp tr ud ut te ne na' ns' ks nl' now (prU pr r (e + 1)) lr' le' tm ev → w_X10_come_38 post G mc ms j S' u' v' wa (some (ev e)) (nI (r + 1))) :
    w_X10_come_38 post G mc ms (j + 1) S u v wa (some (ev e)) (nI r) := by
  obtain ⟨ko, Ow, al, ed, wl, hSH, hCR, hdis⟩ := hW
  obtain ⟨hruC, hby, wt, bt, nb, bl, eo, so, lo, sr, an, hJ0, hlc0⟩ := hCR r hr
  obtain ⟨s1, s2, s3, s4, s5⟩ := id hS
  obtain ⟨bnl, bna, bns, bpr, blk⟩ := hD.bnd s4
  obtain ⟨bnl', bna', bns', bpr', blk'⟩ := hD'.bnd s4
  obtain ⟨⟨d1, d2, d3, d4, d5⟩, d6, d7, ⟨d8a, d8, d8b, d8c, d8d⟩, d9, d10, d11, d12, d13, d14⟩ := id hD
  have d10' := hD'.2.2.2.2.2.1
  have he : e < 4000 := by omega
  obtain ⟨jp, jK, j63, jB, F, jF, jF2, jH⟩ := d10.1 r hr
  have e63 : ∀ o, pr r ≤ o → o < 4000 → σ.2.2.1 63 (4000 * r + o) = -1 := j63
  have hup := JK.up (e - pr r) (pr r) hJ0 (by omega) (fun o z1 z2 => e63 o z1 (by omega))
  rw [show pr r + (e - pr r) = e from by omega] at hup
  have eKe : KfO σ r e = KfO σ r (pr r) := KfO_ext hp (by omega) e63
  have hJ : JK S σ (Ow r) r (ra r) (12 * bk + r) (x r) (k r) (n r) (w r) (L r) tm ev wt bt nb bl (ko r) eo so lo sr an (KfO σ r e) (KfO σ r e) (tm e) e := by rw [hnow]; exact hup
  have hb3 := hJ.2.2.1
  have kwt : cs_k S wt = 26 := hb3.1.2.2.2.1
  have kbt : cs_k S bt = 25 := hb3.1.1.2.2.1
  have hOw : Ow r wt := hb3.1.2.2.2.2.2.1
  have hmn : ∀ o, o < e + 1 → ∃ m, m ≤ 8 ∧ σ.2.2.1 9 o = nI m := fun o ho => by
    obtain ⟨⟨m, g⟩, -⟩ := d6 o (by omega)
    exact ⟨m, g.2.1, g.2.2.1⟩
  obtain ⟨⟨m, hev⟩, ev400, ev405, ev402, evrow⟩ := hSH.2.2.1 e (by omega)
  have hvs : ∀ vs, cs_r S 404 (ev e) = some vs → vs ≠ wt := fun vs hv z => evrow vs r hv hr (by rw [z]; exact hOw)
  have hevs : ∀ o, o ≤ e → cs_k S (ev o) = 5 ∧ cs_i S 400 (ev o) = nI (tm o) ∧ tm o ≤ 2000000000 ∧ cs_i S 405 (ev o) = nI o := fun o ho => by
    obtain ⟨⟨m', g1⟩, g2, g3, g4, -⟩ := hSH.2.2.1 o (by omega)
    exact ⟨g1.1, g2, by have := (d6 o (by omega)).2.2.1; omega, g3⟩
  obtain ⟨w1, w2, w3, w4, w5, w6, w7, w8, w9, w10⟩ := hSH.1
  have kra := hruC.1
  have hlkp : ∀ j, j < nl → le j < pr (lr j) := fun j hj => (blk j hj).2
  have hlive : ∀ r a, r < nr → Ow r a → cs_k S a ≠ 0 := fun r' a hr' z => by
    obtain ⟨-, -, _, _, _, _, _, _, _, _, _, hJ', -⟩ := hCR r' hr'
    exact hJ'.1 a z
  have hA := fun (S1 : cs_S) (σ1 : rf_S) (O1 : Nat → Prop) (k1 : Nat → Nat) (hF : fX (rE S wt bt (Ow r)) S S1) (hO : oX S (Ow r) O1) (hk1 : ∀ f, KfO σ r e f → k1 f = ko r f) (hP : pD σ σ1 r e) => asm hSH hCR hdis hr hp he bpr hlkp kwt kbt hOw hF hO hk1 hP
  -- the lacks at e
  have hlc : x r = 4 → lcR σ r nl lr le an lo e := fun hx => (hlc0 hx).on hp (fun o _ => ⟨rfl, rfl⟩) (fun o z1 z2 z3 => z3.1 (e63 o z1 (by omega))) (Nat.le_refl _) (fun j z1 z2 => absurd z1 (by omega)) (fun j _ => ⟨rfl, rfl, fun _ => Iff.rfl⟩)
  refine ⟨by omega, by omega, w1, fun z => ?_, fun _ r31 e31 => ⟨rr, e31.trans w2, w3, ?_, fun r34 e34 => ⟨ra r, ?_, kra, qK, sK, by omega, by omega, ?_⟩⟩⟩
  · rw [w5] at z; exact absurd z (nI_ge (by omega) (by omega))
  · exact nI_in (by omega) (by omega)
  · rw [e34, nI_clamp (by omega)]; exact w10 r hr
  have next : ∀ S' u' v', u' ≤ u + (qK + qL + qT) → v' ≤ v + (sK + sL + sT) → CW G S' σ' wa rr lt tl bk nr ra x k n w q L dp tr ud ut te ne na' ns' ks nl' now (prU pr r (e + 1)) lr' le' tm ev → w_X10_come_98 post G mc ms (w_X10_come_38 post G mc ms j) S' u' v' wa (some (ev e)) (nI r) := fun S' u' v' h1 h2 h3 => ⟨by omega, by omega, by rw [nI_1]; exact hpost S' u' v' h1 h2 h3⟩
  rcases hl.y with ⟨hnk, hσ⟩ | ⟨f0, B, σ1, res, hY⟩
  · -- no key
    have hP : pD σ σ' r e := by
      rw [hσ]
      refine ⟨⟨fun kk hk => funext fun j => by rw [r3ua, if_neg (fun z => by omega)], rfl⟩, rfl, fun kk j h1 h2 => ?_⟩
      rw [r3ua, if_neg (fun z => h2 ⟨Or.inl z.1, z.2⟩)]
    have hrow : ∀ kk jj, σ'.2.2.1 kk jj = σ.2.2.1 kk jj := fun kk jj => by
      rw [hσ, r3ua]
      by_cases c : kk = 63 ∧ jj = 4000 * r + e
      · rw [if_pos c, c.1, c.2]; exact (e63 e hp he).symm
      · rw [if_neg c]
    have hrow' : σ'.2.2.1 = σ.2.2.1 := funext fun kk => funext fun jj => hrow kk jj
    have ena : na' = na := by
      have h1 := d10'.2.2.1
      rw [hP.2.1, d10.2.2.1] at h1
      exact ((nI_eq bna bna').mp h1).symm
    have ens : ns' = ns := by
      have h1 := d10'.2.2.2.2.1
      rw [hP.2.1, d10.2.2.2.2.1] at h1
      exact ((nI_eq bns bns').mp h1).symm
    have enl : nl' = nl := by
      have h1 := d10'.2.1.1
      rw [hP.2.1, d10.2.1.1] at h1
      exact ((nI_eq bnl bnl').mp h1).symm
    have hlrle : ∀ j, j < nl → lr' j = lr j ∧ le' j = le j := fun j hj => hD.lk hD' s4 hj (by omega) (hrow 69 j) (hrow 70 j)
    refine ckn (post := _) hJ hruC he (e63 e hp he) hnk hev d3 hvs (fun S1 hF hJ1 => ⟨fun _ => ⟨by omega, by omega, fun _ => next S1 _ _ (by omega) (by omega) ?_, fun z => absurd rfl z⟩, fun b z => (nomatch z)⟩)
    obtain ⟨a1, a2, a3⟩ := hA S1 σ' (Ow r) (ko r) hF oX.rfl (fun _ _ => rfl) hP
    subst ena
    subst ens
    subst enl
    refine ⟨koU ko r (ko r), OwU Ow r (Ow r), al, ed, wl, a1, fun r' hr' => ?_, a3⟩
    by_cases c : r' = r
    · subst c
      rw [koU_r, OwU_r, prU_r]
      refine ⟨(hruC.fx (rE.sh kbt) hF kwt).ev hP.1, ?_, wt, bt, nb, bl, eo, so, lo, sr, an, ?_, fun hx => ?_⟩
      · exact ((hCR r' hr').fx' (rE.sh kbt) kwt hF)
      · have eK : KfO σ' r' (e + 1) = KfO σ r' (e + 1) := funext fun f => propext (by unfold KfO; rw [hrow])
        rw [eK]
        rw [hnow] at hJ1
        exact hJ1.on hP.1 (fun o _ => hrow 63 _) (fun o _ => hrow 64 _) (fun f _ => ⟨hrow 65 _, hrow 66 _⟩) (hrow 67 _) (by omega) (fun hx => (hJ1.2.2.2.2.2.2.2.1 hx).1.1.1)
      · refine (hlc hx).on (by omega) (fun o _ => ⟨hrow 63 _, hrow 64 _⟩) (fun o z1 z2 z3 => ?_) (Nat.le_refl _) (fun j z1 z2 => absurd z1 (by omega)) (fun j hj => ⟨(hlrle j hj).1, (hlrle j hj).2, fun _ => by rw [hrow]⟩)
        have := z3.1
        unfold hkO at this
        rw [hrow] at this
        exact this (e63 o (by omega) (by omega))
    · rw [koU_o c, OwU_o c, prU_o c]
      refine (a2 r' hr' c).on ⟨fun _ _ => rfl, rfl⟩ (fun o _ => ⟨rfl, rfl⟩) (fun f _ => ⟨rfl, rfl⟩) rfl (bpr r' hr') (Nat.le_refl _) (fun j z1 z2 => absurd z1 (by omega)) (fun j hj => ⟨(hlrle j hj).1, (hlrle j hj).2, fun _ => Iff.rfl⟩) (fun j hj hjr => by have := hlkp j hj; rw [hjr] at this; exact this)
  · sorry
end CSS
