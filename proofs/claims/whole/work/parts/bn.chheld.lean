/-! ===== what a chain holds: both ===== -/
section CHH
variable {P0 : Nat → Prop} {S0 : cs_S} {G : Nat → Nat} {S : cs_S} {σ : rf_S} {wa rr lt tl bk nr te nv ne na ns ks nl now r : Nat} {ra x k n w q L : Nat → Nat} {dp : Nat → Nat → Nat} {tr : (r c : Nat) → cT (dp r c)} {ud : Nat → Nat} {ut : (r : Nat) → Option (cT (ud r))} {pr lr le tm ev : Nat → Nat}
theorem chH_y {ev : Nat → Nat} {M : Nat → Nat → Prop} {U : Nat → Prop} {p j o : Nat} (h : cfn M j p = some o) (hu : ∀ x, o < x → x < p → ¬ U x) : chV ev M U p j = some (ev o) := by
  unfold chV
  rw [h]
  exact if_pos hu
theorem chH_n {ev : Nat → Nat} {M : Nat → Nat → Prop} {U : Nat → Prop} {p j o : Nat} (h : cfn M j p = some o) (hu : ¬ ∀ x, o < x → x < p → ¬ U x) : chV ev M U p j = none := by
  unfold chV
  rw [h]
  exact if_neg hu
theorem chH_0 {ev : Nat → Nat} {M : Nat → Nat → Prop} {U : Nat → Prop} {p j : Nat} (h : cfn M j p = none) : chV ev M U p j = none := by
  unfold chV
  rw [h]
theorem CWst {post : Int32 → cs_S → Prop} (hW : CW P0 S0 G S σ wa rr lt tl bk nr ra x k n w q L dp tr ud ut te ne na ns ks nl now pr lr le tm ev) (hS : RS0 σ bk nr x k n w q L dp tr ud ut) (hD : RD σ bk nr x n w te nv ne na ns nl now pr lr le tm) (hr : r < nr) (hx : x r = 3)
    (hp : post (yI (sS (fun f => σ.2.2.1 63 (4000 * r + f) = nI f) (fun f => sS (gCh σ r now (w r) ne tm f) (fun _ => 1) 0 (k r - 1)) 0 ne)) S) : wp_X7_startsSince post G S (ra r) (nI now - nI (w r)) := by
  obtain ⟨ko, Ow, al, ed, wl, hSH, hCR, hdis, hFR⟩ := id hW
  obtain ⟨hruC, -, wt, bt, nb, bl, eo, so, lo, sr, an, hJ, hlc⟩ := id (hCR r hr)
  obtain ⟨s1, s2, s3, s4, s5⟩ := id hS
  obtain ⟨bnl, bna, bns, bpr, blk⟩ := hD.bnd s4
  obtain ⟨⟨d1, d2, d3, d4, d5⟩, d6, d7, -, -, d10, d11, d12, d13, d14⟩ := id hD
  have hprn := d11 r hr
  have hw := (s5 r hr).1.2.2.2.2.2.2.1
  have hcd := (s5 r hr).1.2.2.2.2.2.2.2.2.2.1
  have hJ' := JK.up (ne - pr r) (pr r) hJ (by omega) (fun o h1 h2 => (d10.1 r hr).2.2.1 o h1 (by omega))
  rw [show pr r + (ne - pr r) = ne from by omega] at hJ'
  obtain ⟨-, -, hbI, -, hinj, -, hso, -, hch, -⟩ := hJ'
  obtain ⟨ch1, -, -⟩ := hch hx
  obtain ⟨⟨⟨b1, b2, b3, b4, b5, b6⟩, -⟩, hb2, -, hb4⟩ := hbI
  have hkey : ∀ i a, i < nb → a ∈ bl i → ∃ f, f < ne ∧ KfO σ r ne f ∧ a = ko r f := fun i a hi ha => by
    rcases (hb4 i a hi ha).2.2.2 with ⟨f, f1, f2⟩ | ⟨o, -, -, z⟩
    · exact ⟨f, f1.1, f1, f2⟩
    · rw [hso (by omega) o] at z; cases z
  refine c_st (bl := bl) (k := k r) hruC.1 hruC.2.2.2.2.2.1 hcd.2.1 hcd.2.2.1 b2 b3 b4 (by omega) (fun i hi => ⟨(b6 i hi).1, fun a ha => ?_⟩) ?_
  · obtain ⟨f, -, f1, rfl⟩ := hkey i a hi ha
    obtain ⟨c1, -, c3, -, c5, c6, c7⟩ := ch1 f f1
    exact ⟨c1, sr f, c3, c5, c6, fun j b hj hb => (c7 j hj).2 b ((c7 j hj).1.symm.trans hb)⟩
  · have e0 : lsm (gKy S (nI now - nI (w r)) (k r)) (flt bl nb) = sS (KfO σ r ne) (fun f => gKy S (nI now - nI (w r)) (k r) (ko r f)) 0 ne := lsm_sS (ko := ko r) _ _ (fun a ha => by
      obtain ⟨i, i1, i2⟩ := (flt_mem nb).mp ha
      exact hkey i a i1 i2) (fun f hf hK => by
      obtain ⟨i, vs, i1, i2, -⟩ := hb2 f hK
      exact (flt_mem nb).mpr ⟨i, i1, i2⟩) (fun f f' _ _ h3 h4 => hinj f f' h3 h4) (flt_nd nb (fun i hi => chn_nd _ _ (b6 i hi).1) (fun i j a hi hj h1 h2 => by
      obtain ⟨-, -, -, g1⟩ := (b6 i hi).2 a h1
      obtain ⟨-, -, -, g2⟩ := (b6 j hj).2 a h2
      exact (nI_eq (by omega) (by omega)).mp (g1.symm.trans g2)))
    rw [e0]
    have e1 : sS (KfO σ r ne) (fun f => gKy S (nI now - nI (w r)) (k r) (ko r f)) 0 ne = sS (fun f => σ.2.2.1 63 (4000 * r + f) = nI f) (fun f => sS (gCh σ r now (w r) ne tm f) (fun _ => 1) 0 (k r - 1)) 0 ne := sS_cong ne (fun f _ hf => ⟨⟨fun z => z.2, fun z => ⟨by omega, z⟩⟩, fun hK => by
      obtain ⟨c1, -, c3, -, c5, c6, c7⟩ := ch1 f hK
      show gKy S (nI now - nI (w r)) (k r) (ko r f) = _
      unfold gKy
      rw [c3]
      refine sS_cong _ (fun j _ hj => ⟨?_, fun _ => rfl⟩)
      show gSt S (nI now - nI (w r)) (sr f) j ↔ _
      have hR := (c7 j (by omega)).1
      constructor
      · rintro ⟨b, g1, g2⟩
        rw [hR] at g1
        cases e : cfn (bM σ r f) j ne with
        | none => rw [chH_0 e] at g1; cases g1
        | some o =>
          have ho := cfn_le _ _ _ e
          by_cases c : ∀ x, o < x → x < ne → ¬ bU σ r f x
          · rw [chH_y e c] at g1
            cases g1
            obtain ⟨-, t1, -⟩ := hSH.2.2.1 o ho
            have t2 := (d6 o ho).2.2.1
            rw [t1] at g2
            refine ⟨o, e, Nat.not_le.mp (fun z => g2 ((win d5 (by omega) hw).2.mpr z)), c⟩
          · rw [chH_n e c] at g1; cases g1
      · rintro ⟨o, g1, g2, g3⟩
        have ho := cfn_le _ _ _ g1
        obtain ⟨-, t1, -⟩ := hSH.2.2.1 o ho
        have t2 := (d6 o ho).2.2.1
        refine ⟨ev o, hR.trans (chH_y g1 g3), fun z => ?_⟩
        rw [t1] at z
        have := (win d5 (by omega) hw).2.mp z
        omega⟩)
    rw [e1]
    exact hp
end CHH
