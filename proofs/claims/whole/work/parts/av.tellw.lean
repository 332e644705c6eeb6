/-! ===== class and reference: one tell, whole ===== -/
section TTS
variable {P0 : Nat → Prop} {S0 : cs_S} {G : Nat → Nat} {S : cs_S} {σ : rf_S} {wa rr lt tl bk nr te nv ne na ns ks nl now r e f0 s hh qT sT ed : Nat} {ra x k n w q L : Nat → Nat} {dp : Nat → Nat → Nat} {tr : (r c : Nat) → cT (dp r c)} {ud : Nat → Nat} {ut : (r : Nat) → Option (cT (ud r))} {pr lr le tm ev al : Nat → Nat} {ko : Nat → Nat → Nat} {Ow : Nat → Nat → Prop} {wl : List Nat} {post : cs_S → Prop}
theorem TT (hSH : SHR G S σ wa rr lt tl bk nr ra n te ne na ns ks now pr tm ev ko Ow al ed wl) (hCR : ∀ r, r < nr → CR S σ (Ow r) r (ra r) bk (x r) (k r) (n r) (w r) (q r) (L r) (dp r) (tr r) (ud r) (ut r) tm ev (ko r) nl lr le now (pr r)) (hdis : ∀ r r' a, r < nr → r' < nr → Ow r a → Ow r' a → r = r') (hFR : FR P0 S0 S nr Ow ne ev wl) (hS : RS0 σ bk nr x k n w q L dp tr ud ut) (hD : RD σ bk nr x n w te nv ne na ns nl now pr lr le tm) (hr : r < nr) (he : e < pr r) (h63 : σ.2.2.1 63 (4000 * r + e) = nI f0) (hf0 : f0 ≤ e) (hK0 : KfO σ r (pr r) f0) (hks : ks ≤ ns) (hhh : σ.2.2.1 66 (4000 * r + f0) = nI hh)
    (hcT : ¬ hsh σ (4000 * r + f0) now (q r) → (if na < 500 then 1 + gC na else 0) + (if σ.2.2.1 10 e = -1 then 3 else 0) ≤ qT ∧ (if na < 500 then 6 + gS na else 0) + (if σ.2.2.1 10 e = -1 then 2 * n r + 7 else 0) ≤ sT)
    (hpH : hsh σ (4000 * r + f0) now (q r) → ∀ S', CW P0 S0 G S' (fnH σ r (4000 * r + f0) hh) wa rr lt tl bk nr ra x k n w q L dp tr ud ut te ne na ns ks nl now pr lr le tm ev → post S')
    (hpA : ¬ hsh σ (4000 * r + f0) now (q r) → ∀ S', CW P0 S0 G S' (fnA σ r e now s (4000 * r + f0) hh na ns) wa rr lt tl bk nr ra x k n w q L dp tr ud ut te ne (na + 1) (ns + 1) ks nl now pr lr le tm ev → post S') :
    wp_X10_tell post G qT sT S wa (some (ra r)) (some (ko r f0)) (nI now) (some (ev e)) (nI s) := by
  obtain ⟨hruC, hby, wt, bt, nb, bl, eo, so, lo, sr, an, hJ, hlc⟩ := id (hCR r hr)
  obtain ⟨s1, s2, s3, s4, s5⟩ := id hS
  obtain ⟨bnl, bna, bns, bpr, blk⟩ := hD.bnd s4
  obtain ⟨⟨d1, d2, d3, d4, d5⟩, d6, d7, ⟨d8a, d8, d8b, d8c, d8d⟩, d9, d10, d11, d12, d13, d14⟩ := id hD
  have hprn := d11 r hr
  have hep := bpr r hr
  obtain ⟨jp, jK, j63, jB, F, jF, jF2, jH⟩ := d10.1 r hr
  have hb3 := hJ.2.2.1
  have kwt : cs_k S wt = 26 := hb3.1.2.2.2.1
  have hOw : Ow r wt := hb3.1.2.2.2.2.2.1
  have hmn : ∀ o, o < ne → ∃ m, m ≤ 8 ∧ σ.2.2.1 9 o = nI m := fun o ho => by
    obtain ⟨⟨m, g⟩, -⟩ := d6 o (by omega)
    exact ⟨m, g.2.1, g.2.2.1⟩
  obtain ⟨⟨m, hev⟩, ev400, ev405, ev402, evrow⟩ := hSH.2.2.1 e (by omega)
  obtain ⟨w1, w2, w3, w4, w5, w6, w7, w8, w9, w10⟩ := hSH.1
  have kra := hruC.1
  have hlkp : ∀ j, j < nl → le j < pr (lr j) := fun j hj => (blk j hj).2
  have hlive : ∀ r a, r < nr → Ow r a → cs_k S a ≠ 0 := fun r' a hr' z => by
    obtain ⟨-, -, _, _, _, _, _, _, _, _, _, hJ', -⟩ := hCR r' hr'
    exact hJ'.1 a z
  have nOw' : ∀ r', r' < nr → r' ≠ r → ∀ a, Ow r a → ¬ Ow r' a := fun r' hr' hne' a z1 z2 => hne' (hdis r' r a hr' hr z2 z1)
  have hruW := (s5 r hr).1
  obtain ⟨kHe, kMe⟩ : kH σ (12 * bk + r) (n r) e ∧ kM σ (12 * bk + r) (n r) f0 e := by
    rcases jK.1 e (by omega) with z | ⟨f, g1, g2, g3, g4, g5⟩
    · rw [h63] at z; exact absurd z (nI_m f0 (by omega))
    · rw [h63] at g2
      have : f0 = f := (nI_eq (by omega) (by omega)).mp g2
      rw [this]
      exact ⟨g4, g5⟩
  have kHf0 := (hD.ky hr).2 f0 hK0
  have kce : ∀ kk, kk < n r → kcO σ (12 * bk + r) e kk = kcO σ (12 * bk + r) f0 kk := fun kk hkk => ((km_c d8 (by omega) (by omega) hmn kHf0 kHe).mp kMe kk hkk).symm
  have hk := hJ.kk hK0
  obtain ⟨ib, kv, kb1, kb2, kb3, kb4⟩ := hJ.2.2.1.2.1 f0 hK0
  obtain ⟨-, h809, hn3, by0, h808, hby21, hbyn, hbyw⟩ := hruC.2.2.2.2.2.2.2.2.1
  have hkvw : kv ≠ wt := by
    obtain ⟨-, -, ⟨vs, c1, c2, c3, -⟩, -⟩ := hJ.2.2.1.2.2.2 ib _ kb1 kb2
    have : vs = kv := Option.some.inj (c1.symm.trans kb3.2.1)
    rw [← this]; exact c3
  have hneW : ∀ vs, (∀ r', r' < nr → ¬ Ow r' vs) → vs ≠ wt := fun vs hv z => hv r hr (by rw [z]; exact hOw)
  have wlk : ∀ y, y ∈ wl → cs_k S y = 5 := fun y hy => by
    obtain ⟨i, hi, rfl⟩ := List.getElem_of_mem hy
    have hq := hSH.2.2.2.2.2.2
    have hlen : i < (stL σ ks (ns - ks)).length := by rw [← hq.2.1]; exact hi
    exact (hq.2.2.1 i wl[i] (stL σ ks (ns - ks))[i] (List.getElem?_eq_getElem hi) (List.getElem?_eq_getElem hlen)).1
  have e503 : cs_i S 503 (ko r f0) = σ.2.2.1 65 (4000 * r + f0) := (hJ.2.2.2.1 f0 hK0).1
  have e504 : cs_i S 504 (ko r f0) = nI hh := by rw [(hJ.2.2.2.1 f0 hK0).2]; exact hhh
  have e811 : cs_i S 811 (ra r) = nI (q r) := hruC.2.2.2.2.2.2.2.2.2.2
  have hq6 : q r ≤ 1000000 := hruW.2.2.2.2.2.2.2.2.1
  have hushI : (¬ cs_i S 503 (ko r f0) = -1 ∧ ¬ cs_i S 503 (ko r f0) ≤ nI now - cs_i S 811 (ra r)) ↔ hsh σ (4000 * r + f0) now (q r) := by
    rw [e503, e811]
    rcases (jH f0 (by omega)).1 with z | ⟨la, z1, z2⟩
    · rw [z]
      refine ⟨fun y => absurd rfl y.1, fun y => ?_⟩
      obtain ⟨la, y1', y2', -⟩ := y
      rw [z] at y1'
      exact absurd y1'.symm (nI_m la (by omega))
    · rw [z2, (win d5 z1 hq6).2]
      refine ⟨fun y => ⟨la, z2, z1, by omega⟩, fun y => ⟨nI_m la (by omega), ?_⟩⟩
      obtain ⟨la', y1', y2', y3'⟩ := y
      rw [z2] at y1'
      have := (nI_eq (by omega) (by omega)).mp y1'
      omega
  refine ctl (G := G) (n := n r) (by0 := by0) (kv := kv) (na := na) (al := al) (ed := ed) (tl := tl) w1 hk.1 hev.1 hruC.1 w9 hSH.2.2.2.2.1.1 h809 h808 hby21 hbyn kb3.2.1 kb3.2.2.1 kb3.2.2.2.1 (fun jj hjj => ?_) hn3 (hby by0 h808) (fun z c1 c2 => ?_) (fun hnh => ?_) (fun c1 c2 => ?_) (fun hnh S2 htd => ?_)
  · obtain ⟨va, c1, tx, Ln, c2⟩ := kb3.2.2.2.2.2.1 jj hjj
    exact ⟨va, c1, c2.1⟩
  · have hq := hSH.2.2.2.2.2.2
    rcases List.eq_nil_or_concat wl with c3 | ⟨l, z', c3⟩
    · have hc0 := hq.1
      rw [c3] at hc0
      exact absurd hc0 c1
    · have hlast := hq.2.2.2.2.1 z' (by rw [c3, List.concat_eq_append]; simp)
      rw [c2] at hlast
      cases hlast
      exact wlk z (by rw [c3, List.concat_eq_append]; simp)
  · rw [hushI] at hnh
    rw [ev402]
    exact hcT hnh
  · -- hushed
    refine hpH (hushI.mp ⟨c1, c2⟩) _ ?_
    obtain ⟨f1, f2, f3, f4, f5⟩ := fnH_r (σ := σ) (r := r) (kk := 4000 * r + f0) (h := hh)
    have hV : eV σ (fnH σ r (4000 * r + f0) hh) := ⟨fun kk hk => f1 kk (by omega) (by omega), rfl⟩
    have aH := SHR.hush (v1 := cs_i S 812 (ra r) + 1) (v2 := cs_i S 504 (ko r f0) + 1) (wt1 := wt) (r := r) (a := ko r f0) (kk := 4000 * r + f0) (hh := hh) hSH kwt hruC.1 hk.1 hneW rfl
    have hF3 : fX (fun s f y => s = 0 ∧ ((y = ra r ∧ f = 812) ∨ (y = ko r f0 ∧ f = 504) ∨ (y = wa ∧ f = 1107))) S (cs_ui (cs_ui (cs_ui S 812 (ra r) (cs_i S 812 (ra r) + 1)) 504 (ko r f0) (cs_i S 504 (ko r f0) + 1)) 1107 wa (cs_i S 1107 wa + 1)) := ((fX.rfl.ui (Or.inl ⟨rfl, Or.inl ⟨rfl, rfl⟩⟩)).ui (Or.inl ⟨rfl, Or.inr (Or.inl ⟨rfl, rfl⟩)⟩)).ui (Or.inl ⟨rfl, Or.inr (Or.inr ⟨rfl, rfl⟩)⟩)
    have kk1 := hk.1
    have hs3 : sh S wt (fun s f y => s = 0 ∧ ((y = ra r ∧ f = 812) ∨ (y = ko r f0 ∧ f = 504) ∨ (y = wa ∧ f = 1107))) := fun s f y _ z => by
      refine Or.inr ?_
      rcases z.2 with ⟨rfl, rfl⟩ | ⟨rfl, rfl⟩ | ⟨rfl, rfl⟩
      · exact ⟨by omega, by omega, by omega, by omega, by omega, by omega, fun y => by omega, fun y => by omega, fun y => by omega⟩
      · exact ⟨by omega, by omega, by omega, by omega, by omega, by omega, fun y => by omega, fun y => by omega, fun y => by omega⟩
      · exact ⟨by omega, by omega, by omega, by omega, by omega, by omega, fun y => by omega, fun y => by omega, fun y => by omega⟩
    have nwa1 : ra r ≠ wa := fun z => by rw [z, w1] at kra; cases kra
    have eK1 : KfO (fnH σ r (4000 * r + f0) hh) r (pr r) = KfO σ r (pr r) := funext fun f => propext (by unfold KfO; rw [f1 63 (by decide) (by decide)])
    refine ⟨ko, Ow, al, ed, wl, aH, fun r' hr' => ?_, hdis, hFR.fx hF3 (fun s f y z => Or.inr (by
      rcases z.2 with ⟨rfl, -⟩ | ⟨rfl, -⟩ | ⟨rfl, -⟩ <;> omega)) (fun _ _ _ _ z => z)⟩
    by_cases c : r' = r
    · subst c
      refine ⟨(hruC.fx hs3 hF3 kwt).ev hV, (hCR r' hr').fx' hs3 kwt hF3, wt, bt, nb, bl, eo, so, lo, sr, an, ?_, fun hx => ?_⟩
      · rw [eK1]
        refine hJ.tell (f0 := f0) hs3 hF3 (fun s f y z ho => ?_) hK0 hV (fun o _ => by rw [f1 63 (by decide) (by decide)]) (fun o _ => by rw [f1 64 (by decide) (by decide)]) ?_ ?_ (fun f hf hne' => ⟨by rw [f1 65 (by decide) (by decide)], by rw [f2, if_neg (by omega)]⟩) ?_
        · rcases z.2 with ⟨rfl, rfl⟩ | ⟨rfl, rfl⟩ | ⟨rfl, rfl⟩
          · exact ⟨by omega, fun y => by omega, fun _ => rfl, by omega, by omega⟩
          · exact ⟨by omega, fun _ => ⟨rfl, by omega⟩, fun y => by omega, by omega, by omega⟩
          · exact ⟨by omega, fun y => by omega, fun y => by omega, by omega, by omega⟩
        · rw [iui, if_neg (fun z => absurd z.1 (by decide)), iui, if_neg (fun z => absurd z.1 (by decide)), iui, if_neg (fun z => absurd z.1 (by decide)), f1 65 (by decide) (by decide)]
          exact (hJ.2.2.2.1 f0 hK0).1
        · rw [iui, if_neg (fun z => absurd z.1 (by decide)), iui, if_pos ⟨rfl, rfl⟩, f2, if_pos rfl, e504, nI_1]
        · rw [iui, if_neg (fun z => absurd z.1 (by decide)), iui, if_neg (fun z => absurd z.1 (by decide)), iui, if_pos ⟨rfl, rfl⟩, f3, if_pos rfl]
          rw [hJ.2.2.2.2.2.1]
      · exact (hlc hx).on (Nat.le_refl _) (fun o _ => ⟨by rw [f1 63 (by decide) (by decide)], by rw [f1 64 (by decide) (by decide)]⟩) (fun o z1 z2 => absurd z1 (by omega)) (Nat.le_refl _) (fun j z1 z2 => absurd z1 (by omega)) (fun j _ => ⟨rfl, rfl, fun _ => by rw [f1 71 (by decide) (by decide)]⟩)
    · refine ((hCR r' hr').fx hs3 kwt hF3 (fun s f y z ho => ?_) (fun z => nOw' r' hr' c wt hOw z)).on hV (fun o _ => ⟨by rw [f1 63 (by decide) (by decide)], by rw [f1 64 (by decide) (by decide)]⟩) (fun f hf => ⟨by rw [f1 65 (by decide) (by decide)], by rw [f2, if_neg (by omega)]⟩) (by rw [f3, if_neg c]) (bpr r' hr') (Nat.le_refl _) (fun j z1 z2 => absurd z1 (by omega)) (fun j hj => ⟨rfl, rfl, fun _ => by rw [f1 71 (by decide) (by decide)]⟩) (fun j hj hjr => by have := hlkp j hj; rw [hjr] at this; exact this)
      rcases z.2 with ⟨rfl, rfl⟩ | ⟨rfl, rfl⟩ | ⟨rfl, rfl⟩
      · exact absurd ho (nOw' r' hr' c _ hJ.2.1)
      · exact absurd ho (nOw' r' hr' c _ hk.2)
      · exact ⟨by omega, by omega, by omega, by omega, by omega⟩
  · -- told
    have hnh' : ¬ hsh σ (4000 * r + f0) now (q r) := fun z => hnh (hushI.mpr z)
    obtain ⟨f1, f2, f3, f4, f5, f6, f7, f8, f9, f10, f11⟩ := fnA_r (σ := σ) (r := r) (e := e) (t := now) (s := s) (kk := 4000 * r + f0) (h := hh) (na := na) (ns := ns)
    have hV : eV σ (fnA σ r e now s (4000 * r + f0) hh na ns) := fnA_ev
    have kk1 := hk.1
    obtain ⟨hsT, al', ed', h0, c1106, c1107, ct, cc, cl, cA⟩ := SHR.told0 (wt1 := wt) (r := r) (e := e) (f0 := f0) (kk := 4000 * r + f0) (hh := hh) (s := s) (t := now) hSH kwt hneW kra hruC.2.1 hr hK0 he (by omega) h63 kk1 e504 htd
    have hFT := htd.1
    have tdD' := htd.2
    have ktl1 := hSH.2.2.2.2.1.1.1
    have ked1 := hSH.2.2.2.2.1.1.2.2.1
    have kwt2 : cs_k S2 wt = 26 := (hFT wt (by omega)).1.trans kwt
    have z63 : ∀ j, (fnA σ r e now s (4000 * r + f0) hh na ns).2.2.1 63 j = σ.2.2.1 63 j := fun j => by rw [f1 63 (by decide) (by decide) (by decide) (by decide)]
    have z64 : ∀ j, (fnA σ r e now s (4000 * r + f0) hh na ns).2.2.1 64 j = σ.2.2.1 64 j := fun j => by rw [f1 64 (by decide) (by decide) (by decide) (by decide)]
    have eK1 : KfO (fnA σ r e now s (4000 * r + f0) hh na ns) r (pr r) = KfO σ r (pr r) := funext fun f => propext (by unfold KfO; rw [z63])
    have frT : FR P0 S0 S2 nr Ow ne ev wl := hFR.fx hFT (fun s f y z => Or.inr (by
      rcases z with ⟨-, ⟨rfl, -⟩ | ⟨rfl, -⟩ | ⟨rfl, -⟩⟩ | rfl | ⟨-, rfl, -⟩ <;> omega)) (fun _ _ _ _ z => z)
    -- the rule itself
    have JT : JK S2 (fnA σ r e now s (4000 * r + f0) hh na ns) (Ow r) r (ra r) (12 * bk + r) (x r) (k r) (n r) (w r) (L r) tm ev wt bt nb bl (ko r) eo so lo sr an (KfO σ r (pr r)) (KfO σ r (pr r)) now (pr r) := by
      refine hJ.tell (f0 := f0) hsT hFT (fun s f y z ho => ?_) hK0 hV (fun o _ => z63 _) (fun o _ => z64 _) ?_ ?_ (fun f hf hne' => ⟨by rw [f2, if_neg (by omega)], by rw [f3, if_neg (by omega)]⟩) ?_
      · rcases z with ⟨-, z⟩ | rfl | ⟨-, rfl, -⟩
        · rcases z with ⟨rfl, rfl⟩ | ⟨rfl, z⟩ | ⟨rfl, rfl⟩
          · exact ⟨by omega, fun y => by omega, fun _ => rfl, by omega, by omega⟩
          · exact ⟨by omega, fun _ => ⟨rfl, by omega⟩, fun y => by omega, by omega, by omega⟩
          · exact ⟨by omega, fun y => by omega, fun y => by omega, by omega, by omega⟩
        · exact ⟨by omega, fun y => by omega, fun y => by omega, by omega, by omega⟩
        · exact ⟨by omega, fun y => by omega, fun y => by omega, by omega, by omega⟩
      · rw [tdD'.2.1, f2, if_pos rfl]
      · rw [tdD'.2.2.1, f3, if_pos rfl]
      · rw [tdD'.1, f4, if_pos rfl, hJ.2.2.2.2.2.1]
    have hlc2 : x r = 4 → lcR (fnA σ r e now s (4000 * r + f0) hh na ns) r nl lr le an lo (pr r) := fun hx => (hlc hx).on (Nat.le_refl _) (fun o _ => ⟨z63 _, z64 _⟩) (fun o z1 z2 => absurd z1 (by omega)) (Nat.le_refl _) (fun j z1 z2 => absurd z1 (by omega)) (fun j _ => ⟨rfl, rfl, fun _ => by rw [f1 71 (by decide) (by decide) (by decide) (by decide)]⟩)
    have oth : ∀ r', r' < nr → r' ≠ r → CR S2 (fnA σ r e now s (4000 * r + f0) hh na ns) (Ow r') r' (ra r') bk (x r') (k r') (n r') (w r') (q r') (L r') (dp r') (tr r') (ud r') (ut r') tm ev (ko r') nl lr le now (pr r') := fun r' hr' c => by
      refine ((hCR r' hr').fx hsT kwt hFT (fun s f y z ho => ?_) (fun z => nOw' r' hr' c wt hOw z)).on hV (fun o _ => ⟨z63 _, z64 _⟩) (fun f hf => ⟨by rw [f2, if_neg (by omega)], by rw [f3, if_neg (by omega)]⟩) (by rw [f4, if_neg c]) (bpr r' hr') (Nat.le_refl _) (fun j z1 z2 => absurd z1 (by omega)) (fun j hj => ⟨rfl, rfl, fun _ => by rw [f1 71 (by decide) (by decide) (by decide) (by decide)]⟩) (fun j hj hjr => by have := hlkp j hj; rw [hjr] at this; exact this)
      rcases z with ⟨-, z⟩ | rfl | ⟨-, rfl, -⟩
      · rcases z with ⟨rfl, rfl⟩ | ⟨rfl, z⟩ | ⟨rfl, rfl⟩
        · exact absurd ho (nOw' r' hr' c _ hJ.2.1)
        · exact absurd ho (nOw' r' hr' c _ hk.2)
        · exact ⟨by omega, by omega, by omega, by omega, by omega⟩
      · exact ⟨by omega, by omega, by omega, by omega, by omega⟩
      · exact ⟨by omega, by omega, by omega, by omega, by omega⟩
    have ruC2 := (hruC.fx hsT hFT kwt).ev hV
    have byD2 := (hCR r hr).fx' hsT kwt hFT
    have crr2 : CR S2 (fnA σ r e now s (4000 * r + f0) hh na ns) (Ow r) r (ra r) bk (x r) (k r) (n r) (w r) (q r) (L r) (dp r) (tr r) (ud r) (ut r) tm ev (ko r) nl lr le now (pr r) := ⟨ruC2, byD2, wt, bt, nb, bl, eo, so, lo, sr, an, by rw [eK1]; exact JT, hlc2⟩
    rw [ev402]
    refine ⟨fun hmk => hpA hnh' S2 ?_, fun hmk S' qn nm vs π hmD => hpA hnh' S' ?_⟩
    · -- no event is made
      have T1 := SHR.told1 (r := r) (e := e) (t := now) (s := s) (kk := 4000 * r + f0) (hh := hh) h0 hks (by omega) (by omega) hmk c1106 c1107 ct cc cl cA
      refine ⟨ko, Ow, al', ed', wl, T1, fun r' hr' => ?_, hdis, frT⟩
      by_cases c : r' = r
      · subst c; exact crr2
      · exact oth r' hr' c
    · -- an event is made
      have hlive2 : ∀ r' a, r' < nr → Ow r' a → cs_k S2 a ≠ 0 := fun r' a hr' z => hFT.live (hlive r' a hr' z)
      have akv := (hsT.all hFT (a := kv) (by have := kb3.2.2.1; omega) hkvw).2.2.2.2.2.2.2
      have nby : by0 ≠ wt := fun z => by rw [z, kwt] at hby21; cases hby21
      have aby := (hsT.a21 hFT hby21 (by omega) (fun y => by have := y.1; omega) nby).2.2.2.2.2.2.1
      have h800 : cs_i S2 800 (ra r) = nI r := by rw [(hsT.ru hFT kwt kra).2.1 800 (by omega)]; exact hruC.2.1
      have T2 := SHR.told2 (wt1 := wt) (r := r) (e := e) (t := now) (s := s) (kk := 4000 * r + f0) (hh := hh) h0 kwt2 hneW hlive2 hks hr s4 (by omega) hmk rfl h800 c1106 c1107 ct cc cl cA (fun kk hkk => ?_) hmD
      · obtain ⟨⟨hF2, hs2⟩, T3⟩ := T2
        refine ⟨ko, Ow, al', ed', wl ++ [qn], T3, fun r' hr' => ?_, hdis, (frT.wl (wl' := wl ++ [qn]) (ne' := ne) (ev' := ev) (fun a _ hl z1 z2 => ⟨z1, fun z => by
                rcases List.mem_append.mp z with y | y
                · exact z2 y
                · exact hl (by rw [List.mem_singleton.mp y]; exact hmD.2.1.1)⟩)).fx hF2 (fun s f a z => Or.inr (by
          have := h0.1.1
          rcases z.2 with ⟨rfl, -⟩ | ⟨z1, z2⟩ <;> omega)) (fun _ _ _ _ z => z)⟩
        have hE2 : ∀ (O : Nat → Prop) s f a, (s = 2 ∧ ((a = wa ∧ (f = 1110 ∨ f = 1111)) ∨ (f = 406 ∧ cs_k S2 a = 5))) → O a → cs_k S2 a ≠ 4 ∧ cs_k S2 a ≠ 6 ∧ cs_k S2 a ≠ 9 ∧ cs_k S2 a ≠ 23 ∧ cs_k S2 a ≠ 25 := fun O s f a z _ => by
          rcases z.2 with ⟨rfl, -⟩ | ⟨-, z⟩
          · have := h0.1.1
            omega
          · omega
        by_cases c : r' = r
        · subst c
          refine ⟨ruC2.fx hs2 hF2 kwt2, crr2.fx' hs2 kwt2 hF2, wt, bt, nb, bl, eo, so, lo, sr, an, ?_, hlc2⟩
          rw [eK1]
          exact JT.fx hs2 kwt2 hF2 (hE2 (Ow r')) (fun vs _ z => z)
        · exact (oth r' hr' c).fx hs2 kwt2 hF2 (hE2 (Ow r')) (fun z => nOw' r' hr' c wt hOw z)
      · obtain ⟨i, hi⟩ := kHe kk hkk
        obtain ⟨va, c1, c2⟩ := kb3.2.2.2.2.2.1 kk hkk
        have hvx : vX S va = vC σ (8 * e + i) := by
          have h9 := kb4 kk hkk
          unfold rX at h9
          rw [c1, ← kce kk hkk] at h9
          unfold kcO at h9
          rw [hi] at h9
          exact h9
        obtain ⟨-, -, hm8, h9m, nme, vse, n1, n2, n3, n4, n5, n6, n7⟩ := id hev
        obtain ⟨li, lname⟩ := fO_lt h9m hm8 hi
        obtain ⟨⟨n', l, g1, g2, g3⟩, ⟨va', g4, g5⟩, -⟩ := n7 i li
        have hvl1 : vlR S σ te va (8 * e + i) := g5.same d3 c2 hvx
        obtain ⟨n'', l'', g6, g7⟩ := hbyw kk hkk
        have ew : σ.2.2.2 13 (8 * e + i) = σ.2.2.2 37 (3 * (12 * bk + r) + kk) := lname
        rw [ew] at g3
        have ec : cs_al S nme i = cs_al S by0 kk := (wd_eq8 g3 g7 g2 g6).mpr rfl
        refine ⟨va, i, n', l, by rw [akv]; exact c1, hi, hsT.vl hFT kwt hvl1, g1, g2, ?_⟩
        rw [aby, ← ec]; exact g3
end TTS
