/-! ===== what is due first ===== -/
section NWS
variable {P0 : Nat → Prop} {S0 : cs_S} {G : Nat → Nat} {S : cs_S} {σ σ' : rf_S} {wa rr lt tl bk nr te nv ne na ns ks nl now now' t : Nat} {ra x k n w q L : Nat → Nat} {dp : Nat → Nat → Nat} {tr : (r c : Nat) → cT (dp r c)} {ud : Nat → Nat} {ut : (r : Nat) → Option (cT (ud r))} {pr lr le tm ev : Nat → Nat}
/-- another NOW, and what is but noted -/
def nwF (σ σ' : rf_S) : Prop := σ'.2 = σ.2 ∧ ∀ k, k ≠ 21 → k ≠ 80 → σ'.1 k = σ.1 k
theorem nwF.vv (h : nwF σ σ') : eV σ σ' := ⟨fun k _ => by rw [h.1], by rw [h.1]⟩
theorem nwF.lf' (h : nwF σ σ') : lF σ σ' := ⟨fun k _ z2 _ _ z5 => h.2 k z2 (by omega), by rw [h.1], fun k j _ _ _ _ _ => by rw [h.1], fun k j _ _ => by rw [h.1]⟩
theorem RD.atT (hD : RD σ bk nr x n w te nv ne na ns nl now pr lr le tm) (hn : nwF σ σ') (h21 : σ'.1 21 = nI now') (h1 : now ≤ now') (h2 : now' ≤ 2000000000) (hmin : ∀ j, j < nl → σ.2.2.1 71 j = 0 → now' ≤ tm (le j) + w (lr j)) : RD σ' bk nr x n w te nv ne na ns nl now' pr lr le tm := by
  obtain ⟨i', r'⟩ := σ'
  obtain ⟨g1, g2⟩ := hn
  have g1' : r' = σ.2 := g1
  subst g1'
  have hE : eV σ (i', σ.2) := ⟨fun _ _ => rfl, rfl⟩
  obtain ⟨⟨d1, d2, d3, d4, d5⟩, d6, d7, ⟨d8a, d8, d8b, d8c, d8d⟩, d9, ⟨e1, ⟨e2, e3, e4⟩, e5, e6, e7, e8⟩, d11, d12, d13, d14⟩ := hD
  refine ⟨⟨(g2 19 (by decide) (by decide)).trans d1, d2, d3, h21, h2⟩, fun o ho => ?_, d7, ⟨d8a.ev hE (g2 26 (by decide) (by decide)), d8.on hE, d8b, d8c, d8d⟩, d9, ⟨e1, ⟨(g2 72 (by decide) (by decide)).trans e2, e3, e4⟩, (g2 78 (by decide) (by decide)).trans e5, e6, (g2 83 (by decide) (by decide)).trans e7, e8⟩, d11, d12, hmin, d14⟩
  obtain ⟨⟨m, a1⟩, a2, a3, a4⟩ := d6 o ho
  exact ⟨⟨m, hE.ew a1⟩, a2, by omega, a4⟩
theorem CB.nf {p0 p1 t mk kc : Nat} {gf : Nat → Nat} (hn : nwF σ σ') : CB p0 p1 t mk kc gf σ' nr na ns ks nl n pr lr le = CB p0 p1 t mk kc gf σ nr na ns ks nl n pr lr le := by
  obtain ⟨i', r'⟩ := σ'
  have g1' : r' = σ.2 := hn.1
  subst g1'
  rfl
theorem CW.atT (hW : CW P0 S0 G S σ wa rr lt tl bk nr ra x k n w q L dp tr ud ut te ne na 0 0 nl now pr lr le tm ev) (hn : nwF σ σ') (h1 : now ≤ now') (hp : ∀ r, r < nr → pr r ≤ 4000) (hlk : ∀ j, j < nl → le j < pr (lr j)) : cs_k S wa = 12 ∧ CW P0 S0 G (cs_ui S 1108 wa (nI now')) σ' wa rr lt tl bk nr ra x k n w q L dp tr ud ut te ne na 0 0 nl now' pr lr le tm ev := by
  obtain ⟨ko, Ow, al, ed, wl, hSH, hCR, hdis, hFR⟩ := hW
  obtain ⟨⟨k12, -⟩, -, -, -, -, -, h16, h17, h18, h19, h20, h21⟩ := id hSH
  have ewl : wl = [] := List.length_eq_zero_iff.mp h17
  subst ewl
  have hF : fX (fun s f a => (s = 2 ∧ ((cs_k S a = 5 ∧ f = 406) ∨ (a = wa ∧ (f = 1110 ∨ f = 1111)))) ∨ (s = 0 ∧ a = wa ∧ f = 1108)) S (cs_ui S 1108 wa (nI now')) := fX.rfl.ui (Or.inl (Or.inr ⟨rfl, rfl, rfl⟩))
  have hq := hSH.queue (ns' := 0) (ks' := 0) (wl' := []) (now' := now') hF (by rw [iui, if_pos ⟨rfl, rfl⟩]) rfl (fun i y re z1 _ => by simp at z1) (fun i j y z1 _ => by simp at z1) (fun o _ z => by simp at z) h16 (fun y hy => by simp at hy)
  have hE := hn.vv
  have r3 : σ'.2.2.1 = σ.2.2.1 := by rw [hn.1]
  refine ⟨k12, ko, Ow, al, ed, [], hq.on hE (hn.2 22 (by decide) (by decide)) (hn.2 23 (by decide) (by decide)) (hn.2 79 (by decide) (by decide)) (fun _ _ => Nat.le_refl _) (fun _ _ _ _ => by rw [r3]) (fun _ _ _ _ _ => by rw [r3]) (fun j hj => absurd hj (by omega)) (fun _ _ _ _ z => z) (fun _ _ _ _ => rfl), fun r hr => ?_, hdis, hFR.fx hF (fun s f a z => Or.inr (by
    rcases z with ⟨-, ⟨z1, z2⟩ | ⟨rfl, -⟩⟩ | ⟨-, rfl, -⟩ <;> omega)) (fun _ _ _ _ z => z)⟩
  obtain ⟨c1, c2, wt, bt, nb, bl, eo, so, lo, sr, an, c3, c4⟩ := ((hCR r hr).queue k12 hF).on hE (fun _ _ => ⟨by rw [r3], by rw [r3]⟩) (fun _ _ => ⟨by rw [r3], by rw [r3]⟩) (by rw [r3]) (hp r hr) (Nat.le_refl _) (fun j z1 z2 => absurd z1 (by omega)) (fun j _ => ⟨rfl, rfl, fun _ => by rw [r3]⟩) (fun j hj hjr => by have := hlk j hj; rw [hjr] at this; exact this)
  exact ⟨c1, c2, wt, bt, nb, bl, eo, so, lo, sr, an, c3.late h1, c4⟩
/-- leastDue -/
theorem CWld {post : Int32 → cs_S → Prop} (hS : RS0 σ bk nr x k n w q L dp tr ud ut) (hD : RD σ bk nr x n w te nv ne na ns nl now pr lr le tm) (ht : t ≤ 2000000000) : ∀ d r (S : cs_S) (v : Int32), r + d = nr → CW P0 S0 G S σ wa rr lt tl bk nr ra x k n w q L dp tr ud ut te ne na ns ks nl now pr lr le tm ev →
    ((v = -1 ∧ ∀ j, j < nl → lr j < r → σ.2.2.1 71 j = 0 → t ≤ tm (le j) + w (lr j)) ∨ ∃ j, j < nl ∧ lr j < r ∧ σ.2.2.1 71 j = 0 ∧ v = nI (tm (le j) + w (lr j)) ∧ tm (le j) + w (lr j) < t ∧ ∀ j', j' < nl → lr j' < r → σ.2.2.1 71 j' = 0 → tm (le j) + w (lr j) ≤ tm (le j') + w (lr j')) →
    (∀ S' v', CW P0 S0 G S' σ wa rr lt tl bk nr ra x k n w q L dp tr ud ut te ne na ns ks nl now pr lr le tm ev → ((v' = -1 ∧ ∀ j, j < nl → σ.2.2.1 71 j = 0 → t ≤ tm (le j) + w (lr j)) ∨ ∃ j, j < nl ∧ σ.2.2.1 71 j = 0 ∧ v' = nI (tm (le j) + w (lr j)) ∧ tm (le j) + w (lr j) < t ∧ ∀ j', j' < nl → σ.2.2.1 71 j' = 0 → tm (le j) + w (lr j) ≤ tm (le j') + w (lr j')) → post v' S') → w_X10_leastDue_4 post G (d + 1) S wa (nI t) v (nI r) := by
  have s4 := hS.2.2.2.1
  obtain ⟨bnl, -, -, bpr, blk⟩ := hD.bnd s4
  obtain ⟨⟨d1, d2, d3, d4, d5⟩, d6, d7, -, -, d10, d11, -⟩ := id hD
  have hb : ∀ j, j < nl → tm (le j) + w (lr j) < 2 ^ 31 := fun j hj => by
    obtain ⟨b1, b2⟩ := blk j hj
    have h1 := (d6 (le j) (by have := d11 (lr j) b1; omega)).2.2.1
    have h2 := (hS.2.2.2.2 (lr j) b1).1.2.2.2.2.2.2.1
    omega
  intro d
  induction d with
  | zero =>
    intro r S v hr hW hv hpost
    have hWc := hW
    obtain ⟨_, _, _, _, _, hSH, -⟩ := hWc
    refine ⟨hSH.1.1, fun _ => hpost S v hW ?_, fun z => ?_⟩
    · rcases hv with ⟨v1, v2⟩ | ⟨j, v1, v2, v3, v4, v5, v6⟩
      · exact Or.inl ⟨v1, fun j hj h0 => v2 j hj (by have := (blk j hj).1; omega) h0⟩
      · exact Or.inr ⟨j, v1, v3, v4, v5, fun j' h1 h0 => v6 j' h1 (by have := (blk j' h1).1; omega) h0⟩
    · rw [hSH.1.2.2.2.2.1] at z
      exact absurd (nI_le (a := nr) (b := r) (by omega) (by omega)) z
  | succ d ih =>
    intro r S v hr hW hv hpost
    have hWc := hW
    obtain ⟨_, _, _, _, _, hSH, hCR, -⟩ := hWc
    have hrn : r < nr := by omega
    obtain ⟨w1, w2, w3, w4, w5, w6, w7, w8, w9, w10⟩ := hSH.1
    refine ⟨w1, fun z => ?_, fun _ r10 e10 => ⟨rr, e10.trans w2, w3, nI_in (by omega) (by omega), fun r13 e13 => ⟨ra r, ?_, (hCR r hrn).1.1, CWnd hW hS hD hrn (fun S' v' hW' hv' => ?_)⟩⟩⟩
    · rw [w5] at z; exact absurd z (nI_ge (by omega) (by omega))
    · rw [e13, nI_clamp (by omega)]; exact w10 r hrn
    have go : ∀ v2, ((v2 = -1 ∧ ∀ j, j < nl → lr j < r + 1 → σ.2.2.1 71 j = 0 → t ≤ tm (le j) + w (lr j)) ∨ ∃ j, j < nl ∧ lr j < r + 1 ∧ σ.2.2.1 71 j = 0 ∧ v2 = nI (tm (le j) + w (lr j)) ∧ tm (le j) + w (lr j) < t ∧ ∀ j', j' < nl → lr j' < r + 1 → σ.2.2.1 71 j' = 0 → tm (le j) + w (lr j) ≤ tm (le j') + w (lr j')) → w_X10_leastDue_4 post G (d + 1) S' wa (nI t) v2 (nI r + 1) := fun v2 h => by
      rw [nI_1]
      exact ih (r + 1) S' v2 (by omega) hW' h hpost
    have split : ∀ j, lr j < r + 1 → lr j < r ∨ lr j = r := fun j h => by omega
    -- nothing of this rule
    have keep : (∀ j, j < nl → lr j = r → σ.2.2.1 71 j = 0 → (v = -1 → t ≤ tm (le j) + w (lr j)) ∧ ∀ j0, j0 < nl → v = nI (tm (le j0) + w (lr j0)) → tm (le j0) + w (lr j0) ≤ tm (le j) + w (lr j)) → w_X10_leastDue_4 post G (d + 1) S' wa (nI t) v (nI r + 1) := fun hk => go v (by
      rcases hv with ⟨v1, v2⟩ | ⟨j, v1, v2, v3, v4, v5, v6⟩
      · refine Or.inl ⟨v1, fun j hj hl h0 => ?_⟩
        rcases split j hl with z | z
        · exact v2 j hj z h0
        · exact (hk j hj z h0).1 v1
      · refine Or.inr ⟨j, v1, by omega, v3, v4, v5, fun j' h1 hl h0 => ?_⟩
        rcases split j' hl with z | z
        · exact v6 j' h1 z h0
        · exact (hk j' h1 z h0).2 j v1 v4)
    rcases hv' with ⟨y1, y2⟩ | ⟨j, y1, y2, y3, y4, y5⟩
    · rw [y1]
      exact ⟨fun _ => keep (fun j hj hl h0 => absurd h0 (y2 j hj hl)), fun z => absurd rfl z⟩
    · have hbj := hb j y1
      rw [y2] at hbj
      rw [y4]
      refine ⟨fun z => absurd z (nI_m _ hbj), fun _ => ⟨fun z => ?_, fun z => ⟨fun zv => ?_, fun zv => ⟨fun z3 => ?_, fun z3 => ?_⟩⟩⟩⟩
      · have hle : t ≤ tm (le j) + w r := (nI_leI (by omega) hbj).mp z
        refine keep (fun j' hj' hl h0 => ⟨fun _ => ?_, fun j0 h01 hv0 => ?_⟩)
        · have := y5 j' hj' hl h0
          rw [hl]; omega
        · have := y5 j' hj' hl h0
          rw [hl]
          rcases hv with ⟨v1, -⟩ | ⟨jx, v1, v2, v3, v4, v5, v6⟩
          · rw [v1] at hv0; exact absurd hv0.symm (nI_m _ (hb j0 h01))
          · rw [v4] at hv0
            have := (nI_eq (hb jx v1) (hb j0 h01)).mp hv0
            omega
      · -- the first
        have hlt : tm (le j) + w r < t := by
          by_cases c : t ≤ tm (le j) + w r
          · exact absurd ((nI_leI (by omega) hbj).mpr c) z
          · omega
        show w_X10_leastDue_4 post G (d + 1) S' wa (nI t) (nI (tm (le j) + w r)) (nI r + 1)
        refine go _ (Or.inr ⟨j, y1, by omega, y3, by rw [y2], by rw [y2]; exact hlt, fun j' h1 hl h0 => ?_⟩)
        rw [y2]
        rcases split j' hl with c | c
        · rcases hv with ⟨v1, v2⟩ | ⟨jx, v1, v2, v3, v4, v5, v6⟩
          · have := v2 j' h1 c h0; omega
          · rw [v4] at zv; exact absurd zv (nI_m _ (hb jx v1))
        · have := y5 j' h1 c h0
          rw [c]; exact this
      · rcases hv with ⟨v1, -⟩ | ⟨jx, v1, v2, v3, v4, v5, v6⟩
        · exact absurd v1 zv
        · rw [v4] at z3
          have hle := (nI_leI (hb jx v1) hbj).mp z3
          refine keep (fun j' hj' hl h0 => ⟨fun e => absurd e zv, fun j0 h01 hv0 => ?_⟩)
          have h5 := y5 j' hj' hl h0
          rw [v4] at hv0
          have := (nI_eq (hb jx v1) (hb j0 h01)).mp hv0
          rw [hl]; omega
      · have hlt : tm (le j) + w r < t := by
          by_cases c : t ≤ tm (le j) + w r
          · exact absurd ((nI_leI (by omega) hbj).mpr c) z
          · omega
        show w_X10_leastDue_4 post G (d + 1) S' wa (nI t) (nI (tm (le j) + w r)) (nI r + 1)
        refine go _ (Or.inr ⟨j, y1, by omega, y3, by rw [y2], by rw [y2]; exact hlt, fun j' h1 hl h0 => ?_⟩)
        rw [y2]
        rcases split j' hl with c | c
        · rcases hv with ⟨v1, v2⟩ | ⟨jx, v1, v2, v3, v4, v5, v6⟩
          · exact absurd v1 zv
          · have h6 := v6 j' h1 c h0
            rw [v4] at z3
            have : ¬ tm (le jx) + w (lr jx) ≤ tm (le j) + w r := fun c' => z3 ((nI_leI (hb jx v1) hbj).mpr c')
            omega
        · have := y5 j' h1 c h0
          rw [c]; exact this
/-- the reference's least -/
theorem RM (hS : RS0 σ bk nr x k n w q L dp tr ud ut) (hD : RD σ bk nr x n w te nv ne na ns nl now pr lr le tm) (ht : t ≤ 2000000000) : ∀ d kk md, kk + d = nl → md ≤ t → (∀ j, j < kk → σ.2.2.1 71 j = 0 → md ≤ tm (le j) + w (lr j)) → (md = t ∨ ∃ j, j < kk ∧ σ.2.2.1 71 j = 0 ∧ tm (le j) + w (lr j) = md) →
    ∃ md1, md1 ≤ t ∧ (∀ j, j < nl → σ.2.2.1 71 j = 0 → md1 ≤ tm (le j) + w (lr j)) ∧ (md1 = t ∨ ∃ j, j < nl ∧ σ.2.2.1 71 j = 0 ∧ tm (le j) + w (lr j) = md1) ∧ ∀ (Q : rf_S → Prop) (k2 : rf_S → Int32 → Int32 → Prop), (md1 = t → w_X12_become_60 Q k2 σ (nI t) (Int64.ofNat md1) 0) → (md1 < t → w_X12_become_60 Q k2 σ (nI t) (Int64.ofNat md1) 1) → w_X12_become_12 Q k2 (d + 1) σ (nI t) (Int64.ofNat md) (nI kk) := by
  obtain ⟨s1, s2, s3, s4, s5⟩ := id hS
  obtain ⟨bnl, bna, bns, bpr, blk⟩ := hD.bnd s4
  obtain ⟨⟨d1, d2, d3, d4, d5⟩, d6, d7, -, -, d10, d11, d12, d13, d14⟩ := id hD
  have hL : lkW σ nl ne nr lr le := ⟨d10.2.1.1, bnl, fun j hj => by
    obtain ⟨l1, l2, l3, l4, l5, -⟩ := d10.2.1.2.2 j hj
    have := d11 (lr j) l1
    exact ⟨l1, by omega, l3, l4, l5⟩⟩
  have hb : ∀ j, j < nl → tm (le j) + w (lr j) < 2 ^ 31 := fun j hj => by
    obtain ⟨b1, b2⟩ := blk j hj
    have h1 := (d6 (le j) (by have := d11 (lr j) b1; omega)).2.2.1
    have h2 := (s5 (lr j) b1).1.2.2.2.2.2.2.1
    omega
  have et : (nI t).toInt64 = Int64.ofNat t := i32_64 t (by omega)
  intro d
  induction d with
  | zero =>
    intro kk md hkk hmt hmin hex
    refine ⟨md, hmt, fun j hj => hmin j (by omega), ?_, fun Q k2 h0 h1 => ⟨fun _ => ?_, fun z => ?_⟩⟩
    · rcases hex with z | ⟨j, z1, z2⟩
      · exact Or.inl z
      · exact Or.inr ⟨j, by omega, z2⟩
    · rw [et]
      refine ⟨fun z => h0 ?_, fun z => h1 ?_⟩
      · have z' := lg_nn.mp z
        by_cases c : md < t
        · exact absurd ((i64_lt (by omega) (by omega)).mpr c) (Int64.not_lt.mpr z')
        · omega
      · by_cases c : md < t
        · exact c
        · exfalso
          have e1 : md = t := by omega
          rw [e1] at z
          exact z (lg_nn.mpr (Int64.le_refl _))
    · rw [d10.2.1.1] at z
      exact absurd (nI_le (a := nl) (b := kk) (by omega) (by omega)) z
  | succ d ih =>
    intro kk md hkk hmt hmin hex
    have cks : (nI kk).toNatClampNeg = kk := nI_clamp (by omega)
    have nle : ¬ σ.1 72 ≤ nI kk := by rw [d10.2.1.1]; exact nI_ge (by omega) (by omega)
    have i71 : vp_in (nI kk) (rf_n 71) := nI_in (N := 48000) (by omega) (by decide)
    have hdue : ∀ Q : Int64 → rf_S → Prop, Q (Int64.ofNat (tm (le kk) + w (lr kk))) σ → wp_X12_due Q σ (nI kk) := fun Q h => rdu s1 s2 hL s4 d2 (by omega) (fun o ho => ⟨(d6 o ho).2.1, by have := (d6 o ho).2.2.1; omega⟩) (fun r' hr' => ⟨(s5 r' hr').1.2.2.2.2.1, (s5 r' hr').1.2.2.2.2.2.2.1⟩) h
    have hbk := hb kk (by omega)
    by_cases h71 : σ.2.2.1 71 kk = 0
    · by_cases hlt : tm (le kk) + w (lr kk) < md
      · obtain ⟨md1, a1, a2, a3, a4⟩ := ih (kk + 1) (tm (le kk) + w (lr kk)) (by omega) (by omega) (fun j hj h0 => by
          by_cases c : j = kk
          · rw [c]; exact Nat.le_refl _
          · have := hmin j (by omega) h0; omega) (Or.inr ⟨kk, by omega, h71, rfl⟩)
        refine ⟨md1, a1, a2, a3, fun Q k2 h0 h1 => ⟨fun z => absurd z nle, fun _ => ⟨i71, fun z => ?_, fun _ => hdue _ ?_⟩⟩⟩
        · rw [cks] at z; exact absurd h71 z
        · show w_X12_become_12 Q k2 (d + 1) σ (nI t) _ (nI kk + 1)
          rw [if_pos ((i64_lt (by omega) (by omega)).mpr hlt), nI_1]
          exact a4 Q k2 h0 h1
      · obtain ⟨md1, a1, a2, a3, a4⟩ := ih (kk + 1) md (by omega) hmt (fun j hj h0 => by
          by_cases c : j = kk
          · rw [c]; omega
          · exact hmin j (by omega) h0) (by
          rcases hex with z | ⟨j, z1, z2⟩
          · exact Or.inl z
          · exact Or.inr ⟨j, by omega, z2⟩)
        refine ⟨md1, a1, a2, a3, fun Q k2 h0 h1 => ⟨fun z => absurd z nle, fun _ => ⟨i71, fun z => ?_, fun _ => hdue _ ?_⟩⟩⟩
        · rw [cks] at z; exact absurd h71 z
        · show w_X12_become_12 Q k2 (d + 1) σ (nI t) _ (nI kk + 1)
          rw [if_neg (fun z => hlt ((i64_lt (by omega) (by omega)).mp z)), nI_1]
          exact a4 Q k2 h0 h1
    · obtain ⟨md1, a1, a2, a3, a4⟩ := ih (kk + 1) md (by omega) hmt (fun j hj h0 => by
        by_cases c : j = kk
        · rw [c] at h0; exact absurd h0 h71
        · exact hmin j (by omega) h0) (by
        rcases hex with z | ⟨j, z1, z2⟩
        · exact Or.inl z
        · exact Or.inr ⟨j, by omega, z2⟩)
      refine ⟨md1, a1, a2, a3, fun Q k2 h0 h1 => ⟨fun z => absurd z nle, fun _ => ⟨i71, fun z => ?_, fun z => ?_⟩⟩⟩
      · show w_X12_become_12 Q k2 (d + 1) σ (nI t) _ (nI kk + 1)
        rw [nI_1]
        exact a4 Q k2 h0 h1
      · rw [cks] at z; exact absurd z h71
end NWS
