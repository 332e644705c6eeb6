/-! ===== the reference: one lack is told; its credit ===== -/
section LKT
variable {σ σ' : rf_S} {bk nr te nv ne na ns ks nl now r e f0 s hh j0 p0 p1 t mk kc : Nat} {x k n w q L pr lr le tm gf gg Mc : Nat → Nat} {dp : Nat → Nat → Nat} {tr : (r c : Nat) → cT (dp r c)} {ud : Nat → Nat} {ut : (r : Nat) → Option (cT (ud r))}
theorem wct_ov (h69 : σ.2.2.1 69 j0 = nI r) (h0 : σ.2.2.1 71 j0 = 0) (hj : j0 < nl) : wct (rf_ua σ 71 j0 1) r nl + 1 ≤ wct σ r nl := by
  unfold wct
  have h := sS_cmp (P := fun j => σ.2.2.1 69 j = nI r ∧ σ.2.2.1 71 j = 0) (P' := fun j => (rf_ua σ 71 j0 1).2.2.1 69 j = nI r ∧ (rf_ua σ 71 j0 1).2.2.1 71 j = 0) (v := fun _ => 1) (v' := fun _ => 1) (t := fun y => if y = j0 then -1 else 0) (lo := 0) nl (fun y _ hy => by
    by_cases c : y = j0
    · subst c
      rw [if_pos rfl, one_n (fun z => by
        have z2 := z.2
        rw [r3ua, if_pos ⟨rfl, rfl⟩] at z2
        exact absurd z2 (by decide)), one_y ⟨h69, h0⟩]
      simp
    · rw [if_neg c, r3ua, if_neg (fun z => absurd z.1 (by decide)), r3ua, if_neg (fun z => c z.2)]
      omega)
  rw [sS_sng, if_pos (by omega)] at h
  omega
/-- a lack is over -/
theorem RD.ov (hD : RD σ bk nr x n w te nv ne na ns nl now pr lr le tm) : RD (rf_ua σ 71 j0 1) bk nr x n w te nv ne na ns nl now pr lr le tm := by
  obtain ⟨⟨d1, d2, d3, d4, d5⟩, d6, d7, ⟨d8a, d8, d8b, d8c, d8d⟩, d9, d10, d11, d12, d13, d14⟩ := hD
  have hl : l71 σ (rf_ua σ 71 j0 1) := l71.rfl.ua
  have hE : eV σ (rf_ua σ 71 j0 1) := hl.ge.ev
  have r3 := hl.2.2.1
  refine ⟨⟨d1, d2, d3, d4, d5⟩, fun o ho => ?_, d7, ⟨d8a.ev hE rfl, d8.on hE, fun o i ho hi => ?_, d8c, fun v hv => ?_⟩, fun v => by rw [r3 68 (by decide)]; exact d9 v, (d10.ans (r := 0) (e := 0) hl (fun j _ => ?_)).1, d11, fun r f hr hf hk => ?_, fun j hj h0 => ?_, d14⟩
  · obtain ⟨⟨m, a1⟩, a2, a3, a4⟩ := d6 o ho
    rw [hE.1 8 (by decide), hE.1 10 (by decide)]
    exact ⟨⟨m, hE.ew a1⟩, a2, a3, a4⟩
  · have e9 : mN (rf_ua σ 71 j0 1) o = mN σ o := by unfold mN; rw [hE.1 9 (by decide)]
    rw [e9] at hi
    obtain ⟨v, v1, v2, v3⟩ := d8b o i ho hi
    have eF : fF (rf_ua σ 71 j0 1) v = fF σ v := by unfold fF; rw [hE.1 24 (by decide)]
    exact ⟨v, v1, by rw [hE.1 17 (by decide)]; exact v2, by rw [eF, hE.vc, hE.vc]; exact v3⟩
  · have eF : fF (rf_ua σ 71 j0 1) v = fF σ v := by unfold fF; rw [hE.1 24 (by decide)]
    rw [eF]; exact d8d v hv
  · rw [r3ua]
    by_cases c : j = j0
    · exact Or.inl (if_pos ⟨rfl, c⟩)
    · exact Or.inr (if_neg (fun z => c z.2))
  · rw [r3 65 (by decide), r3 66 (by decide)]
    refine d12 r f hr hf (fun z => hk ⟨z.1, ?_⟩)
    rw [r3 63 (by decide)]; exact z.2
  · refine d13 j hj ?_
    rw [r3ua] at h0
    by_cases c : j = j0
    · rw [if_pos ⟨rfl, c⟩] at h0; exact absurd h0 (by decide)
    · rw [if_neg (fun z => c z.2)] at h0; exact h0
/-- something is found, of a key that stands -/
theorem RD.fnd {na' ns' : Nat} (hD : RD σ bk nr x n w te nv ne na ns nl now pr lr le tm) (hr : r < nr) (hsl : slk σ r (pr r - 1) nl) (hp1 : 1 ≤ pr r) (hK0 : KfO σ r (pr r) f0) (hg : gE σ σ') (hrow : ∀ kk, (kk = 63 ∨ kk = 64 ∨ kk = 69 ∨ kk = 70 ∨ kk = 71) → σ'.2.2.1 kk = σ.2.2.1 kk) (h67 : ∀ j, σ'.2.2.1 67 j = if j = r then σ.2.2.1 67 r + 1 else σ.2.2.1 67 j)
    (h65 : ∀ j, σ'.2.2.1 65 j = σ.2.2.1 65 j ∨ (j = 4000 * r + f0 ∧ ∃ la, la ≤ 2000000000 ∧ σ'.2.2.1 65 j = nI la)) (h66 : ∀ j, σ'.2.2.1 66 j = σ.2.2.1 66 j ∨ (j = 4000 * r + f0 ∧ (σ'.2.2.1 66 j = 0 ∨ σ'.2.2.1 66 j = σ.2.2.1 66 j + 1))) (h72 : σ'.1 72 = σ.1 72) (h78 : σ'.1 78 = nI na') (hna : na' ≤ na + 1) (h83 : σ'.1 83 = nI ns') (hns : ns' ≤ ns + 1) : RD σ' bk nr x n w te nv ne na' ns' nl now pr lr le tm := by
  obtain ⟨⟨d1, d2, d3, d4, d5⟩, d6, d7, ⟨d8a, d8, d8b, d8c, d8d⟩, d9, d10, d11, d12, d13, d14⟩ := hD
  have hE := hg.ev
  have hp4 := (d10.1 r hr).1
  have hf := hK0.1
  refine ⟨⟨by rw [hg.2.1 19 (by omega)]; exact d1, d2, d3, by rw [hg.2.1 21 (by omega)]; exact d4, d5⟩, fun o ho => ?_, d7, ⟨d8a.ev hE (hg.2.1 26 (by omega)), d8.on hE, fun o i ho hi => ?_, d8c, fun v hv => ?_⟩, fun v => by rw [hg.1 68 (by omega)]; exact d9 v, d10.fnd (e := pr r - 1) (f := f0) hr hsl (by omega) (by omega) (by omega) hE hrow h67 h65 h66 h72 h78 hna h83 hns, d11, fun r' f hr' hf' hk => ?_, fun j hj h0 => d13 j hj (by rw [← hrow 71 (by omega)]; exact h0), d14⟩
  · obtain ⟨⟨m, a1⟩, a2, a3, a4⟩ := d6 o ho
    rw [hE.1 8 (by decide), hE.1 10 (by decide)]
    exact ⟨⟨m, hE.ew a1⟩, a2, a3, a4⟩
  · have e9 : mN σ' o = mN σ o := by unfold mN; rw [hE.1 9 (by decide)]
    rw [e9] at hi
    obtain ⟨v, v1, v2, v3⟩ := d8b o i ho hi
    have eF : fF σ' v = fF σ v := by unfold fF; rw [hE.1 24 (by decide)]
    exact ⟨v, v1, by rw [hE.1 17 (by decide)]; exact v2, by rw [eF, hE.vc, hE.vc]; exact v3⟩
  · have eF : fF σ' v = fF σ v := by unfold fF; rw [hE.1 24 (by decide)]
    rw [eF]; exact d8d v hv
  · have hne : 4000 * r' + f ≠ 4000 * r + f0 := fun z => by
      have h9 : r' = r ∧ f = f0 := by omega
      refine hk ?_
      rw [h9.1, h9.2]
      exact ⟨hf, by rw [hrow 63 (by omega)]; exact hK0.2⟩
    have a1 : σ'.2.2.1 65 (4000 * r' + f) = σ.2.2.1 65 (4000 * r' + f) := by
      rcases h65 (4000 * r' + f) with z | ⟨z, -⟩
      · exact z
      · exact absurd z hne
    have a2 : σ'.2.2.1 66 (4000 * r' + f) = σ.2.2.1 66 (4000 * r' + f) := by
      rcases h66 (4000 * r' + f) with z | ⟨z, -⟩
      · exact z
      · exact absurd z hne
    rw [a1, a2]
    refine d12 r' f hr' hf' (fun z => hk ⟨z.1, ?_⟩)
    rw [hrow 63 (by omega)]; exact z.2
theorem fnH_g {kk h : Nat} : gE σ (fnH σ r kk h) := by
  unfold fnH
  exact ((gE.rfl.ua (by omega)).ua (by omega)).ui (by omega)
theorem fnA_g {kk h : Nat} : gE σ (fnA σ r e t s kk h na ns) := by
  have hK : gE σ (fnK σ r e t s kk h na) := by
    unfold fnK
    split
    · exact ((((((gE.rfl.ua (by omega)).ua (by omega)).ua (by omega)).ua (by omega)).ua (by omega)).ua (by omega))
    · exact gE.rfl.ua (by omega)
  unfold fnA
  exact (((((hK.ui (by omega)).ua (by omega)).ua (by omega)).ua (by omega)).ua (by omega)).ui (by omega)
/-- the credit of a lack that is over -/
theorem CB.ov (hj : j0 < nl) (h0 : σ.2.2.1 71 j0 = 0) : CB p0 p1 t mk kc gf (rf_ua σ 71 j0 1) nr na ns ks nl n pr lr le + (lcB p0 p1 t mk σ (lr j0) (le j0) : Int) ≤ CB p0 p1 t mk kc gf σ nr na ns ks nl n pr lr le := by
  have hl : l71 σ (rf_ua σ 71 j0 1) := l71.rfl.ua
  have hE : eV σ (rf_ua σ 71 j0 1) := hl.ge.ev
  have r3 := hl.2.2.1
  have hK : ∀ r p, KfO (rf_ua σ 71 j0 1) r p = KfO σ r p := fun r p => funext fun f => propext (by unfold KfO; rw [r3 63 (by decide)])
  have e1 : sS (fun r => n r = 0 ∧ ∀ f, ¬ KfO (rf_ua σ 71 j0 1) r (pr r) f) (fun _ => (kc : Int)) 0 nr = sS (fun r => n r = 0 ∧ ∀ f, ¬ KfO σ r (pr r) f) (fun _ => (kc : Int)) 0 nr := sS_cong _ (fun y _ _ => ⟨by rw [hK], fun _ => rfl⟩)
  have e3 : sS (fun k => (rf_ua σ 71 j0 1).2.2.1 10 ((rf_ua σ 71 j0 1).2.2.1 82 k).toNatClampNeg = -1) (fun k => (scB p0 p1 t (rf_ua σ 71 j0 1) ((rf_ua σ 71 j0 1).2.2.1 81 k).toNatClampNeg ((rf_ua σ 71 j0 1).2.2.1 82 k).toNatClampNeg : Int)) ks (ns - ks) = sS (fun k => σ.2.2.1 10 (σ.2.2.1 82 k).toNatClampNeg = -1) (fun k => (scB p0 p1 t σ (σ.2.2.1 81 k).toNatClampNeg (σ.2.2.1 82 k).toNatClampNeg : Int)) ks (ns - ks) := sS_cong _ (fun y _ _ => ⟨by rw [r3 82 (by decide), r3 10 (by decide)], fun _ => by rw [r3 82 (by decide), r3 81 (by decide), hE.scb]⟩)
  have e2 := sS_cmp (P := fun j => σ.2.2.1 71 j = 0) (P' := fun j => (rf_ua σ 71 j0 1).2.2.1 71 j = 0) (v := fun j => (lcB p0 p1 t mk σ (lr j) (le j) : Int)) (v' := fun j => (lcB p0 p1 t mk (rf_ua σ 71 j0 1) (lr j) (le j) : Int)) (t := fun y => if y = j0 then -(lcB p0 p1 t mk σ (lr j0) (le j0) : Int) else 0) (lo := 0) nl (fun y _ hy => by
    by_cases c : y = j0
    · subst c
      rw [if_pos rfl, one_n (fun z => by
        rw [r3ua, if_pos ⟨rfl, rfl⟩] at z
        exact absurd z (by decide)), one_y h0]
      simp only [Int.natCast_zero, Int.zero_mul, Int.natCast_one, Int.one_mul]
      omega
    · rw [if_neg c, r3ua, if_neg (fun z => c z.2), hE.lcb]
      omega)
  rw [sS_sng, if_pos (by omega)] at e2
  unfold CB
  rw [e1, e3]
  omega
theorem CB.hush : CB p0 p1 t mk kc gf (fnH σ r (4000 * r + f0) hh) nr na ns ks nl n pr lr le = CB p0 p1 t mk kc gf σ nr na ns ks nl n pr lr le := by
  obtain ⟨f1, -⟩ := fnH_r (σ := σ) (r := r) (kk := 4000 * r + f0) (h := hh)
  have hE : eV σ (fnH σ r (4000 * r + f0) hh) := fnH_g.ev
  have hK : ∀ r' p, KfO (fnH σ r (4000 * r + f0) hh) r' p = KfO σ r' p := fun r' p => funext fun f => propext (by unfold KfO; rw [f1 63 (by decide) (by decide)])
  have e1 : sS (fun r' => n r' = 0 ∧ ∀ f, ¬ KfO (fnH σ r (4000 * r + f0) hh) r' (pr r') f) (fun _ => (kc : Int)) 0 nr = sS (fun r' => n r' = 0 ∧ ∀ f, ¬ KfO σ r' (pr r') f) (fun _ => (kc : Int)) 0 nr := sS_cong _ (fun y _ _ => ⟨by rw [hK], fun _ => rfl⟩)
  have e2 : sS (fun j => (fnH σ r (4000 * r + f0) hh).2.2.1 71 j = 0) (fun j => (lcB p0 p1 t mk (fnH σ r (4000 * r + f0) hh) (lr j) (le j) : Int)) 0 nl = sS (fun j => σ.2.2.1 71 j = 0) (fun j => (lcB p0 p1 t mk σ (lr j) (le j) : Int)) 0 nl := sS_cong _ (fun y _ _ => ⟨by rw [f1 71 (by decide) (by decide)], fun _ => by rw [hE.lcb]⟩)
  have e3 : sS (fun k => (fnH σ r (4000 * r + f0) hh).2.2.1 10 ((fnH σ r (4000 * r + f0) hh).2.2.1 82 k).toNatClampNeg = -1) (fun k => (scB p0 p1 t (fnH σ r (4000 * r + f0) hh) ((fnH σ r (4000 * r + f0) hh).2.2.1 81 k).toNatClampNeg ((fnH σ r (4000 * r + f0) hh).2.2.1 82 k).toNatClampNeg : Int)) ks (ns - ks) = sS (fun k => σ.2.2.1 10 (σ.2.2.1 82 k).toNatClampNeg = -1) (fun k => (scB p0 p1 t σ (σ.2.2.1 81 k).toNatClampNeg (σ.2.2.1 82 k).toNatClampNeg : Int)) ks (ns - ks) := sS_cong _ (fun y _ _ => ⟨by rw [f1 82 (by decide) (by decide), f1 10 (by decide) (by decide)], fun _ => by rw [f1 82 (by decide) (by decide), f1 81 (by decide) (by decide), hE.scb]⟩)
  unfold CB
  rw [e1, e2, e3]
theorem CB.told (hks : ks ≤ ns) (hr : r < 12) (he : e < 4000) : CB p0 p1 t mk kc gf (fnA σ r e now s (4000 * r + f0) hh na ns) nr (na + 1) (ns + 1) ks nl n pr lr le + (gf (min na 500) : Int) = CB p0 p1 t mk kc gf σ nr na ns ks nl n pr lr le + (gf (min (na + 1) 500) : Int) + (if σ.2.2.1 10 e = -1 then (scB p0 p1 t σ r e : Int) else 0) := by
  obtain ⟨f1, f2, f3, f4, f5, f6, f7, f8, f9, -⟩ := fnA_r (σ := σ) (r := r) (e := e) (t := now) (s := s) (kk := 4000 * r + f0) (h := hh) (na := na) (ns := ns)
  have hE : eV σ (fnA σ r e now s (4000 * r + f0) hh na ns) := fnA_ev
  generalize fnA σ r e now s (4000 * r + f0) hh na ns = σ' at *
  have hK : ∀ r' p, KfO σ' r' p = KfO σ r' p := fun r' p => funext fun f => propext (by unfold KfO; rw [f1 63 (by decide) (by decide) (by decide) (by decide)])
  have e1 : sS (fun r' => n r' = 0 ∧ ∀ f, ¬ KfO σ' r' (pr r') f) (fun _ => (kc : Int)) 0 nr = sS (fun r' => n r' = 0 ∧ ∀ f, ¬ KfO σ r' (pr r') f) (fun _ => (kc : Int)) 0 nr := sS_cong _ (fun y _ _ => ⟨by rw [hK], fun _ => rfl⟩)
  have e2 : sS (fun j => σ'.2.2.1 71 j = 0) (fun j => (lcB p0 p1 t mk σ' (lr j) (le j) : Int)) 0 nl = sS (fun j => σ.2.2.1 71 j = 0) (fun j => (lcB p0 p1 t mk σ (lr j) (le j) : Int)) 0 nl := sS_cong _ (fun y _ _ => ⟨by rw [f1 71 (by decide) (by decide) (by decide) (by decide)], fun _ => by rw [hE.lcb]⟩)
  have e3 : sS (fun k => σ'.2.2.1 10 (σ'.2.2.1 82 k).toNatClampNeg = -1) (fun k => (scB p0 p1 t σ' (σ'.2.2.1 81 k).toNatClampNeg (σ'.2.2.1 82 k).toNatClampNeg : Int)) ks (ns - ks) = sS (fun k => σ.2.2.1 10 (σ.2.2.1 82 k).toNatClampNeg = -1) (fun k => (scB p0 p1 t σ (σ.2.2.1 81 k).toNatClampNeg (σ.2.2.1 82 k).toNatClampNeg : Int)) ks (ns - ks) := sS_cong _ (fun y z1 z2 => ⟨by rw [f9, if_neg (by omega), hE.1 10 (by decide)], fun _ => by rw [f9, f8, if_neg (by omega), if_neg (by omega), hE.scb]⟩)
  unfold CB
  rw [e1, e2, show ns + 1 - ks = (ns - ks) + 1 from by omega, sS, e3, show ks + (ns - ks) = ns from by omega, f9, f8, if_pos rfl, if_pos rfl, nI_clamp (by omega), nI_clamp (by omega), hE.1 10 (by decide), hE.scb]
  by_cases c : σ.2.2.1 10 e = -1
  · rw [one_y c, if_pos c]; simp only [Int.natCast_one, Int.one_mul]; omega
  · rw [one_n c, if_neg c]; simp only [Int.natCast_zero, Int.zero_mul]; omega
/-- what a lack that is told may cost -/
theorem CB.lack (hj : j0 < nl) (h0 : σ.2.2.1 71 j0 = 0) (hks : ks ≤ ns) (hr : lr j0 < 12) (he : le j0 < 4000) (hgg : ∀ i, i < 500 → gg i + gf (i + 1) ≤ gf i) (hM : Mc (n (lr j0)) ≤ mk) : ((((if na < 500 then t + gg na else 0) + (if σ.2.2.1 10 (le j0) = -1 then Mc (n (lr j0)) else 0) : Nat)) : Int) + CB p0 p1 t mk kc gf (fnA (rf_ua σ 71 j0 1) (lr j0) (le j0) now s (4000 * lr j0 + f0) hh na ns) nr (na + 1) (ns + 1) ks nl n pr lr le ≤ CB p0 p1 t mk kc gf σ nr na ns ks nl n pr lr le := by
  have hl : l71 σ (rf_ua σ 71 j0 1) := l71.rfl.ua
  have hE : eV σ (rf_ua σ 71 j0 1) := hl.ge.ev
  have h1 := CB.ov (p0 := p0) (p1 := p1) (t := t) (mk := mk) (kc := kc) (gf := gf) (nr := nr) (na := na) (ns := ns) (ks := ks) (n := n) (pr := pr) (lr := lr) (le := le) hj h0
  have h2 := CB.told (σ := rf_ua σ 71 j0 1) (p0 := p0) (p1 := p1) (t := t) (mk := mk) (kc := kc) (gf := gf) (nr := nr) (na := na) (nl := nl) (n := n) (pr := pr) (lr := lr) (le := le) (now := now) (s := s) (f0 := f0) (hh := hh) hks hr he
  rw [hE.1 10 (by decide), hE.scb] at h2
  have gr : (if na < 500 then t + gg na else 0) + gf (min (na + 1) 500) ≤ gf (min na 500) + t := by
    by_cases c : na < 500
    · rw [if_pos c, Nat.min_eq_left (by omega), Nat.min_eq_left (by omega)]
      have := hgg na c
      omega
    · rw [if_neg c, Nat.min_eq_right (by omega), Nat.min_eq_right (by omega)]
      omega
  have hlcv : lcB p0 p1 t mk σ (lr j0) (le j0) = t + (if σ.2.2.1 10 (le j0) = -1 then mk + scB p0 p1 t σ (lr j0) (le j0) else 0) := rfl
  generalize CB p0 p1 t mk kc gf (fnA (rf_ua σ 71 j0 1) (lr j0) (le j0) now s (4000 * lr j0 + f0) hh na ns) nr (na + 1) (ns + 1) ks nl n pr lr le = X at *
  generalize CB p0 p1 t mk kc gf (rf_ua σ 71 j0 1) nr na ns ks nl n pr lr le = Y at *
  generalize CB p0 p1 t mk kc gf σ nr na ns ks nl n pr lr le = Z at *
  by_cases c : σ.2.2.1 10 (le j0) = -1
  · rw [if_pos c] at h2 hlcv
    rw [if_pos c]
    omega
  · rw [if_neg c] at h2 hlcv
    rw [if_neg c]
    omega
end LKT
