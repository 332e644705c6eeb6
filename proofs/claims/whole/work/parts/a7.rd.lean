/-! ===== the reference: rules and log, and one look ===== -/
/-- the rules as they were told -/
def RS0 (σ : rf_S) (bk nr : Nat) (x k n w q L : Nat → Nat) (dp : Nat → Nat → Nat) (tr : (r c : Nat) → cT (dp r c)) (ud : Nat → Nat) (ut : (r : Nat) → Option (cT (ud r))) : Prop := σ.1 32 = nI bk ∧ bk ≤ 1 ∧ σ.1 33 = nI nr ∧ nr ≤ 12 ∧ ∀ r, r < nr → ruW σ (12 * bk + r) (x r) (k r) (n r) (w r) (q r) (dp r) (tr r) (ud r) (ut r) ∧ ((x r = 0 ∨ x r = 1) → 1 ≤ L r ∧ L r ≤ 1000 ∧ σ.2.2.1 39 (12 * bk + r) = nI (L r))
/-- the log -/
def RD (σ : rf_S) (bk nr : Nat) (x n w : Nat → Nat) (te nv ne na ns nl now : Nat) (pr lr le tm : Nat → Nat) : Prop :=
  (σ.1 19 = nI ne ∧ ne ≤ 4000 ∧ te ≤ 24000 ∧ σ.1 21 = nI now ∧ now ≤ 2000000000) ∧
  (∀ o, o < ne → (∃ m, eW σ te o m) ∧ σ.2.2.1 8 o = nI (tm o) ∧ tm o ≤ now ∧ (σ.2.2.1 10 o = -1 ∨ ∃ mk, mk < nr ∧ σ.2.2.1 10 o = nI mk)) ∧ (∀ o o', o ≤ o' → o' < ne → tm o ≤ tm o') ∧
  (nT σ te nv ∧ wqI σ ne ∧ (∀ o i, o < ne → i < mN σ o → ∃ v, v < nv ∧ σ.2.2.1 17 (8 * o + i) = nI v ∧ vC σ (fF σ v) = vC σ (8 * o + i)) ∧ nv ≤ 8 * ne ∧ ∀ v, v < nv → fF σ v < 8 * ne) ∧ (∀ v, σ.2.2.1 68 v = 0) ∧ jD σ nr bk nl na ns n pr lr le ∧ (∀ r, r < nr → pr r ≤ ne) ∧
  (∀ r f, r < nr → f < 4000 → ¬ KfO σ r (pr r) f → σ.2.2.1 65 (4000 * r + f) = -1 ∧ σ.2.2.1 66 (4000 * r + f) = 0) ∧
  (∀ j, j < nl → σ.2.2.1 71 j = 0 → now ≤ tm (le j) + w (lr j)) ∧ ∀ j, j < nl → x (lr j) = 4
section RSS
variable {σ : rf_S} {bk nr te nv ne na ns nl now : Nat} {x k n w q L : Nat → Nat} {dp : Nat → Nat → Nat} {tr : (r c : Nat) → cT (dp r c)} {ud : Nat → Nat} {ut : (r : Nat) → Option (cT (ud r))} {pr lr le tm : Nat → Nat}
theorem RS0.on {σ' : rf_S} (h : RS0 σ bk nr x k n w q L dp tr ud ut) (hE : eV σ σ') (h32 : σ'.1 32 = σ.1 32) (h33 : σ'.1 33 = σ.1 33) : RS0 σ' bk nr x k n w q L dp tr ud ut := by
  obtain ⟨h1, h2, h3, h4, h5⟩ := h
  refine ⟨h32.trans h1, h2, h33.trans h3, h4, fun r hr => ⟨hE.ru (h5 r hr).1, fun z => ?_⟩⟩
  rw [hE.1 39 (by decide)]; exact (h5 r hr).2 z
theorem KfO_ext {r p p' : Nat} (hp : p ≤ p') (hp' : p' ≤ 4000) (h : ∀ o, p ≤ o → o < 4000 → σ.2.2.1 63 (4000 * r + o) = -1) : KfO σ r p' = KfO σ r p := by
  refine funext fun f => propext ⟨fun z => ⟨?_, z.2⟩, fun z => ⟨by have := z.1; omega, z.2⟩⟩
  have h1 := z.1
  by_cases c : f < p
  · exact c
  · have := h f (by omega) (by omega)
    rw [z.2] at this
    exact absurd this (nI_m f (by omega))
theorem wqI.on {σ' : rf_S} (h : wqI σ ne) (hE : eV σ σ') : wqI σ' ne := fun x' y i j h1 h2 h3 h4 => by
  have e9 : ∀ o, mN σ' o = mN σ o := fun o => by unfold mN; rw [hE.1 9 (by decide)]
  rw [e9] at h3 h4
  rw [hE.1 17 (by decide), hE.vc, hE.vc]
  exact h x' y i j h1 h2 h3 h4
theorem nT.ev {σ' : rf_S} (h : nT σ te nv) (hE : eV σ σ') (h26 : σ'.1 26 = σ.1 26) : nT σ' te nv := by
  have eF : ∀ v, fF σ' v = fF σ v := fun v => by unfold fF; rw [hE.1 24 (by decide)]
  have eW : ∀ g, vW σ' te g = vW σ te g := fun g => by rw [vWd, vWd, hE.1 14 (by decide), hE.1 15 (by decide), hE.1 16 (by decide)]
  obtain ⟨h1, h2, h3, h4, h5, h6, h7⟩ := h
  refine ⟨h26.trans h1, h2, fun s hs => by rw [hE.1 25 (by decide)]; exact h3 s hs, fun v hv => by rw [eF, eW, hE.1 24 (by decide)]; exact h4 v hv, fun v hv => ?_, fun s s' a b c d => ?_, fun v v' a b c => ?_⟩
  · obtain ⟨d, d1, d2, d3⟩ := h5 v hv
    rw [eF, hE.vc, hE.1 25 (by decide)]
    exact ⟨d, d1, d2, d3⟩
  · rw [hE.1 25 (by decide)] at c d
    exact h6 s s' a b c d
  · rw [eF, eF, hE.vc, hE.vc] at c
    exact h7 v v' a b c
theorem RS (hS : RS0 σ bk nr x k n w q L dp tr ud ut) (hD : RD σ bk nr x n w te nv ne na ns nl now pr lr le tm) {r e : Nat} (hr : r < nr) (hp : pr r ≤ e) (hne : ne = e + 1) (hnow : tm e = now) :
    ∃ σ' nl' na' ns' lr' le', gE σ σ' ∧ lkD σ r (12 * bk + r) e (x r) (k r) (n r) (w r) (q r) nl na ns tm lr le w (dp r) (tr r) (ud r) (ut r) σ' ∧ RD σ' bk nr x n w te nv ne na' ns' nl' now (prU pr r (e + 1)) lr' le' tm ∧ RS0 σ' bk nr x k n w q L dp tr ud ut ∧ (nl < 48000 ∧ na < 48000 ∧ ns < 48000) ∧ ∀ (Q : rf_S → Prop) (j : Nat), w_X12_looked_2 Q j σ' (nI e) (nI (r + 1)) → w_X12_looked_2 Q (j + 1) σ (nI e) (nI r) := by
  obtain ⟨s1, s2, s3, s4, s5⟩ := id hS
  obtain ⟨⟨d1, d2, d3, d4, d5⟩, d6, d7, ⟨d8a, d8, d8b, d8c, d8d⟩, d9, d10, d11, d12, d13, d14⟩ := id hD
  have he : e < 4000 := by omega
  have hmn : ∀ o, o < ne → ∃ m, m ≤ 8 ∧ σ.2.2.1 9 o = nI m := fun o ho => by
    obtain ⟨⟨m, g⟩, -⟩ := d6 o ho
    exact ⟨m, g.2.1, g.2.2.1⟩
  have hj : ∀ r', r' < nr → jDr σ r' (12 * bk + r') (n r') nl (pr r') := d10.1
  have hb : ∀ r', r' < nr → pr r' ≤ 4000 := fun r' hr' => (hj r' hr').1
  have hlt : sS (fun _ => True) (fun r => (pr r : Int)) 0 nr < 48000 := pr_lt hr s4 hb (by omega)
  have hfc := fct_le d10
  have hnl : nl < 48000 := by have := d10.2.1.2.1; omega
  have hna : na < 48000 := by have := d10.2.2.2.1; omega
  have hns : ns < 48000 := by have := d10.2.2.2.2.2; omega
  obtain ⟨j1, j2, j3, j4, F, j5, j6, j7⟩ := hj r hr
  have hwc : 0 ≤ wct σ r nl := sS_nn (fun _ => by decide) nl
  have hrl := rlk1 (te := te) (lr := lr) (le := le) (tm := tm) (wi := w) (nl := nl) (na := na) (ns := ns) s1 s2 s3 s4 hr rfl (s5 r hr).1 he d3 (fun o ho => ⟨(d6 o (by omega)).1, (d6 o (by omega)).2.1, by have := (d6 o (by omega)).2.2.1; omega⟩) (fun o o' h1 h2 => d7 o o' h1 (by omega)) ⟨fun o ho => j2.1 o (by omega), fun f g h1 h2 => j2.2 f g (by omega) (by omega)⟩ d9 (fun o c j ho hf => by
    obtain ⟨m, m1, m2⟩ := hmn o (by omega)
    have hk := fO_mN m2 m1 hf
    exact (d8 o o j j (by omega) (by omega) hk hk).2) ⟨d10.2.1.1, by omega, fun j hj' => by
    obtain ⟨l1, l2, l3, l4, l5, -⟩ := d10.2.1.2.2 j hj'
    have := d11 (lr j) l1
    exact ⟨l1, by omega, l3, l4, l5⟩⟩ hnl (fun r' hr' => ⟨(s5 r' hr').1.2.2.2.2.1, (s5 r' hr').1.2.2.2.2.2.2.1⟩) (fun f hf => by
    obtain ⟨q1, h, q2, q3⟩ := j7 f (by omega)
    exact ⟨q1, h, by omega, q3⟩) d10.2.2.1 (by omega) d10.2.2.2.2.1 hns
  obtain ⟨σ', g1, g2, g3⟩ := hrl
  have hpU : ∀ r', r' < nr → pr r' ≤ prU pr r e r' ∧ prU pr r e r' ≤ 4000 := fun r' hr' => by
    by_cases c : r' = r
    · rw [c, prU_r]; omega
    · rw [prU_o c]; have := hb r' hr'; omega
  have hjU := d10.up hpU
  obtain ⟨nl', na', ns', lr', le', hj'⟩ := g2.jd hjU s4 hr prU_r he rfl (by omega)
  have eU : prU (prU pr r e) r (e + 1) = prU pr r (e + 1) := funext fun z => by
    unfold prU
    by_cases c : z = r
    · rw [if_pos c, if_pos c]
    · rw [if_neg c, if_neg c, if_neg c]
  rw [eU] at hj'
  have e63 : ∀ o, pr r ≤ o → o < 4000 → σ.2.2.1 63 (4000 * r + o) = -1 := j3
  have hE := g1.ev
  have nI48 : ∀ {a b : Nat}, a < 2 ^ 31 → b < 2 ^ 31 → nI a = nI b → a = b := fun h1 h2 h3 => (nI_eq h1 h2).mp h3
  have hprU : ∀ r', r' < nr → prU pr r (e + 1) r' ≤ 4000 := fun r' hr' => (hj'.1 r' hr').1
  have hlt' := pr_sum hprU
  have hnl' : nl' < 2 ^ 31 := by have := hj'.2.1.2.1; omega
  -- the lacks
  have lacks : (∀ j, j < nl' → σ'.2.2.1 71 j = 0 → now ≤ tm (le' j) + w (lr' j)) ∧ ∀ j, j < nl' → x (lr' j) = 4 := by
    have same : ∀ j, j < nl → j < nl' → σ'.2.2.1 69 j = σ.2.2.1 69 j → σ'.2.2.1 70 j = σ.2.2.1 70 j → lr' j = lr j ∧ le' j = le j := fun j h1 h2 h3 h4 => by
      obtain ⟨a1, a2, a3, a4, -⟩ := hj'.2.1.2.2 j h2
      obtain ⟨b1, b2, b3, b4, -⟩ := d10.2.1.2.2 j h1
      rw [a3, b3] at h3
      rw [a4, b4] at h4
      have := hprU (lr' j) a1
      have := hb (lr j) b1
      exact ⟨nI48 (by omega) (by omega) h3, nI48 (by omega) (by omega) h4⟩
    rcases g2.y with ⟨-, y⟩ | ⟨f, B, σ1, res, y⟩
    · have e72 : nl' = nl := by
        have := hj'.2.1.1
        rw [y] at this
        have h2 : σ.1 72 = nI nl' := this
        rw [d10.2.1.1] at h2
        exact (nI48 (by omega) hnl' h2).symm
      have r6 : ∀ kk, kk ≠ 63 → σ'.2.2.1 kk = σ.2.2.1 kk := fun kk hk => by rw [y]; exact funext fun j => by rw [r3ua, if_neg (fun z => hk z.1)]
      refine ⟨fun j hj0 h0 => ?_, fun j hj0 => ?_⟩
      · obtain ⟨c1, c2⟩ := same j (by omega) hj0 (by rw [r6 69 (by decide)]) (by rw [r6 70 (by decide)])
        rw [c1, c2]
        rw [r6 71 (by decide)] at h0
        exact d13 j (by omega) h0
      · obtain ⟨c1, c2⟩ := same j (by omega) hj0 (by rw [r6 69 (by decide)]) (by rw [r6 70 (by decide)])
        rw [c1]; exact d14 j (by omega)
    · obtain ⟨y1, y2, y3, y4, y5, y6⟩ := y.rows
      rcases y6 with y6 | ⟨x4, y6, y7, y8⟩
      · have e72 : nl' = nl := by
          have := hj'.2.1.1
          rw [y6, d10.2.1.1] at this
          exact (nI48 (by omega) hnl' this).symm
        refine ⟨fun j hj0 h0 => ?_, fun j hj0 => ?_⟩
        · obtain ⟨z1, z2, z3⟩ := y5 j (by omega)
          obtain ⟨c1, c2⟩ := same j (by omega) hj0 z2 z3
          rw [c1, c2]
          rcases z1 with z1 | z1
          · rw [z1] at h0; exact absurd h0 (by decide)
          · rw [z1] at h0; exact d13 j (by omega) h0
        · obtain ⟨z1, z2, z3⟩ := y5 j (by omega)
          obtain ⟨c1, c2⟩ := same j (by omega) hj0 z2 z3
          rw [c1]; exact d14 j (by omega)
      · have e72 : nl' = nl + 1 := by
          have := hj'.2.1.1
          rw [y6] at this
          exact (nI48 (by omega) hnl' this).symm
        have last : lr' nl = r ∧ le' nl = e := by
          obtain ⟨a1, a2, a3, a4, -⟩ := hj'.2.1.2.2 nl (by omega)
          have := hprU (lr' nl) a1
          rw [y7] at a3
          rw [y8] at a4
          exact ⟨(nI48 (by omega) (by omega) a3).symm, (nI48 (by omega) (by omega) a4).symm⟩
        refine ⟨fun j hj0 h0 => ?_, fun j hj0 => ?_⟩
        · by_cases c : j = nl
          · rw [c, last.1, last.2]; omega
          · obtain ⟨z1, z2, z3⟩ := y5 j (by omega)
            obtain ⟨c1, c2⟩ := same j (by omega) hj0 z2 z3
            rw [c1, c2]
            rcases z1 with z1 | z1
            · rw [z1] at h0; exact absurd h0 (by decide)
            · rw [z1] at h0; exact d13 j (by omega) h0
        · by_cases c : j = nl
          · rw [c, last.1]; exact x4
          · obtain ⟨z1, z2, z3⟩ := y5 j (by omega)
            obtain ⟨c1, c2⟩ := same j (by omega) hj0 z2 z3
            rw [c1]; exact d14 j (by omega)
  -- keys and alerts
  have als : ∀ r' f, r' < nr → f < 4000 → ¬ KfO σ' r' (prU pr r (e + 1) r') f → σ'.2.2.1 65 (4000 * r' + f) = -1 ∧ σ'.2.2.1 66 (4000 * r' + f) = 0 := by
    intro r' f hr' hf hnk
    rcases g2.y with ⟨-, y⟩ | ⟨f0, B, σ1, res, y⟩
    · have r6 : ∀ kk, kk ≠ 63 → σ'.2.2.1 kk = σ.2.2.1 kk := fun kk hk => by rw [y]; exact funext fun j => by rw [r3ua, if_neg (fun z => hk z.1)]
      have e63' : ∀ o, o < 4000 → σ'.2.2.1 63 (4000 * r' + o) = σ.2.2.1 63 (4000 * r' + o) := fun o ho => by
        rw [y, r3ua]
        by_cases c : 4000 * r' + o = 4000 * r + e
        · have : r' = r ∧ o = e := by omega
          rw [if_pos ⟨rfl, c⟩, this.1, this.2]
          exact (e63 e hp he).symm
        · rw [if_neg (fun z => c z.2)]
      rw [r6 65 (by decide), r6 66 (by decide)]
      refine d12 r' f hr' hf (fun z => hnk ⟨?_, ?_⟩)
      · by_cases c : r' = r
        · rw [c, prU_r]; rw [c] at z; have := z.1; omega
        · rw [prU_o c]; exact z.1
      · rw [e63' f hf]; exact z.2
    · obtain ⟨y1, y2, y3, y4, y5, y6⟩ := y.rows
      have hU := y.2.2.1
      have hfc0 := y.2.1
      have hf0e : f0 ≤ e := by rcases hfc0 with z | z <;> omega
      have hk0 : KfO σ' r (e + 1) f0 := by
        refine ⟨by omega, ?_⟩
        rw [y1]
        rcases hfc0 with ⟨z1, z2, -⟩ | ⟨z1, -⟩
        · rw [hU.o63 (by omega)]; exact z2
        · rw [z1, hU.e63, z1]
      have hne' : 4000 * r' + f ≠ 4000 * r + f0 := fun z => by
        have : r' = r ∧ f = f0 := by omega
        rw [this.1, this.2, prU_r] at hnk
        exact hnk hk0
      rw [(y3 _ hne').1, (y3 _ hne').2]
      refine d12 r' f hr' hf (fun z => hnk ⟨?_, ?_⟩)
      · by_cases c : r' = r
        · rw [c, prU_r]; rw [c] at z; have := z.1; omega
        · rw [prU_o c]; exact z.1
      · rw [y1, hU.2.2.2.2.1]
        by_cases c : 4000 * r' + f = 4000 * r + e
        · have h9 : r' = r ∧ f = e := by omega
          exfalso
          rw [h9.1, h9.2] at z
          have := z.1
          omega
        · rw [if_neg c]; exact z.2
  refine ⟨σ', nl', na', ns', lr', le', g1, g2, ⟨⟨by rw [g1.2.1 19 (by omega)]; exact d1, d2, d3, by rw [g1.2.1 21 (by omega)]; exact d4, d5⟩, fun o ho => ?_, d7, ⟨d8a.ev hE (g1.2.1 26 (by omega)), d8.on hE, fun o i ho hi => ?_, d8c, fun v hv => ?_⟩, fun v => by rw [g1.1 68 (by omega)]; exact d9 v, hj', fun r' hr' => ?_, als, lacks.1, lacks.2⟩, hS.on hE (g1.2.1 32 (by omega)) (g1.2.1 33 (by omega)), ⟨hnl, hna, hns⟩, g3⟩
  · obtain ⟨⟨m, a1⟩, a2, a3, a4⟩ := d6 o ho
    rw [g1.1 8 (by omega), g1.1 10 (by omega)]
    exact ⟨⟨m, hE.ew a1⟩, a2, a3, a4⟩
  · have e9 : mN σ' o = mN σ o := by unfold mN; rw [hE.1 9 (by decide)]
    rw [e9] at hi
    obtain ⟨v, v1, v2, v3⟩ := d8b o i ho hi
    refine ⟨v, v1, by rw [hE.1 17 (by decide)]; exact v2, ?_⟩
    have eF : fF σ' v = fF σ v := by unfold fF; rw [hE.1 24 (by decide)]
    rw [eF, hE.vc, hE.vc]; exact v3
  · have eF : fF σ' v = fF σ v := by unfold fF; rw [hE.1 24 (by decide)]
    rw [eF]; exact d8d v hv
  · by_cases c : r' = r
    · rw [c, prU_r]; omega
    · rw [prU_o c]; exact d11 r' hr'
end RSS
