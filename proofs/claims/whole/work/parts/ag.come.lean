/-! ===== all rules look at one event ===== -/
theorem eV.alb {σ σ' : rf_S} {p0 p1 t mk : Nat} (hE : eV σ σ') (e r : Nat) : alB p0 p1 t mk σ' e r = alB p0 p1 t mk σ e r := by
  unfold alB
  rw [hE.pc, hE.lcb]
/-- the steps: each of them of a rule that looked at its event -/
def SQ (σ : rf_S) (nr : Nat) (pr : Nat → Nat) (ks ns : Nat) : Prop := ∀ k, ks ≤ k → k < ns → ∃ r e f, r < nr ∧ σ.2.2.1 81 k = nI r ∧ σ.2.2.1 82 k = nI e ∧ e < pr r ∧ f ≤ e ∧ σ.2.2.1 63 (4000 * r + e) = nI f
section LKS
variable {bk nr te nv ne ks now e : Nat} {x k n w q L : Nat → Nat} {dp : Nat → Nat → Nat} {tr : (r c : Nat) → cT (dp r c)} {ud : Nat → Nat} {ut : (r : Nat) → Option (cT (ud r))} {tm : Nat → Nat}
theorem LK (hne : ne = e + 1) (hnow : tm e = now) : ∀ d r (σ : rf_S) (na ns nl : Nat) (pr lr le : Nat → Nat), r + d = nr → RS0 σ bk nr x k n w q L dp tr ud ut → RD σ bk nr x n w te nv ne na ns nl now pr lr le tm → (∀ r', r ≤ r' → r' < nr → pr r' ≤ e) → ks ≤ ns →
    ∃ (σ1 : rf_S) (na1 ns1 nl1 : Nat) (pr1 lr1 le1 : Nat → Nat) (c s : Nat), gE σ σ1 ∧ RS0 σ1 bk nr x k n w q L dp tr ud ut ∧ RD σ1 bk nr x n w te nv ne na1 ns1 nl1 now pr1 lr1 le1 tm ∧ ns ≤ ns1 ∧ (∀ r', r' < r → pr1 r' = pr r') ∧ (∀ r', r ≤ r' → r' < nr → pr1 r' = e + 1) ∧
      (c : Int) + CB 1 5 1 3 2 gP σ1 nr na1 ns1 ks nl1 n pr1 lr1 le1 ≤ CB 1 5 1 3 2 gP σ nr na ns ks nl n pr lr le + sS (fun _ => True) (fun r' => (alB 1 5 1 3 σ e r' : Int)) r d ∧
      (s : Int) + CB 6 43 6 13 15 gT σ1 nr na1 ns1 ks nl1 n pr1 lr1 le1 ≤ CB 6 43 6 13 15 gT σ nr na ns ks nl n pr lr le + sS (fun _ => True) (fun r' => (alB 6 43 6 13 σ e r' : Int)) r d ∧
      (∀ kk, kk < ns → σ1.2.2.1 81 kk = σ.2.2.1 81 kk ∧ σ1.2.2.1 82 kk = σ.2.2.1 82 kk) ∧
      (∀ kk, ns ≤ kk → kk < ns1 → σ1.2.2.1 82 kk = nI e) ∧ (SQ σ nr pr ks ns → SQ σ1 nr pr1 ks ns1) ∧ (∀ r' o, r' < nr → o < pr r' → σ1.2.2.1 63 (4000 * r' + o) = σ.2.2.1 63 (4000 * r' + o)) ∧ (nl ≤ nl1 ∧ ∀ j, j < nl → σ1.2.2.1 71 j = 1 ∨ σ1.2.2.1 71 j = σ.2.2.1 71 j) ∧
      (∀ Q : rf_S → Prop, Q σ1 → w_X12_looked_2 Q (d + 1) σ (nI e) (nI r)) ∧
      ∀ (P0 : Nat → Prop) (S0 : cs_S) (G : Nat → Nat) (S : cs_S) (post : cs_S → Prop) (mc ms u v wa rr lt tl : Nat) (ra ev : Nat → Nat), CW P0 S0 G S σ wa rr lt tl bk nr ra x k n w q L dp tr ud ut te ne na ns ks nl now pr lr le tm ev → u + c ≤ mc → v + s ≤ ms → (∀ S', CW P0 S0 G S' σ1 wa rr lt tl bk nr ra x k n w q L dp tr ud ut te ne na1 ns1 ks nl1 now pr1 lr1 le1 tm ev → post S') → w_X10_come_38 post G mc ms (d + 1) S u v wa (some (ev e)) (nI r) := by
  intro d
  induction d with
  | zero =>
    intro r σ na ns nl pr lr le hr hS hD hp hks
    have hrn : r = nr := by omega
    have h12 := hS.2.2.2.1
    refine ⟨σ, na, ns, nl, pr, lr, le, 0, 0, gE.rfl, hS, hD, Nat.le_refl _, fun _ _ => rfl, fun r' z1 z2 => absurd z1 (by omega), by rw [sS]; omega, by rw [sS]; omega, fun _ _ => ⟨rfl, rfl⟩, fun kk z1 z2 => absurd z1 (by omega), fun z => z, fun _ _ _ _ => rfl, ⟨Nat.le_refl _, fun _ _ => Or.inr rfl⟩, fun Q hQ => ⟨fun _ => hQ, fun z => ?_⟩, fun P0 S0 G S post mc ms u v wa rr lt tl ra ev hW hu hv hpost => ?_⟩
    · rw [hS.2.2.1] at z
      exact absurd (nI_le (a := nr) (b := r) (by omega) (by omega)) z
    · have hWc := id hW
      obtain ⟨ko, Ow, al, ed, wl, hSH, -⟩ := hWc
      refine ⟨by omega, by omega, hSH.1.1, fun _ => hpost S hW, fun z => ?_⟩
      rw [hSH.1.2.2.2.2.1] at z
      exact absurd (nI_le (a := nr) (b := r) (by omega) (by omega)) z
  | succ d ih =>
    intro r σ na ns nl pr lr le hr hS hD hp hks
    have h12 := hS.2.2.2.1
    have hrn : r < nr := by omega
    obtain ⟨σ', nl', na', ns', lr', le', g1, g2, hD', hS', ⟨b1, b2, b3⟩, g3⟩ := RS hS hD hrn (hp r (Nat.le_refl _) hrn) hne hnow
    obtain ⟨KK, LL, TT, c1, c2, c3, c4, c5⟩ := bud (p0 := 1) (p1 := 5) (t := 1) (mk := 3) (kc := 2) (gf := gP) (gg := gC) (Kc := fun _ => 2) (Mc := fun _ => 3) (L0 := 1) (L1 := 3) hS hD hrn (hp r (Nat.le_refl _) hrn) hne hks g2 g1 hD' (fun i hi => (cpF_a i hi).2.2.2.1) (Nat.le_refl _) (fun _ _ => Nat.le_refl _) (by omega) (Nat.le_refl _) (fun _ _ => Nat.le_refl _)
    obtain ⟨KS, LS, TS, t1, t2, t3, t4, t5⟩ := bud (p0 := 6) (p1 := 43) (t := 6) (mk := 13) (kc := 15) (gf := gT) (gg := gS) (Kc := fun i => i + 15) (Mc := fun i => 2 * i + 7) (L0 := 6) (L1 := 25) hS hD hrn (hp r (Nat.le_refl _) hrn) hne hks g2 g1 hD' (fun i hi => (cpF_a i hi).2.2.2.2) (Nat.le_refl _) (fun i hi => by show i + 15 + 25 ≤ 43; omega) (by omega) (Nat.le_refl _) (fun i hi => by show 2 * i + 7 ≤ 13; omega)
    have hE := g1.ev
    -- the steps that were there
    have h63 : ∀ r' o, r' < nr → o < pr r' → σ'.2.2.1 63 (4000 * r' + o) = σ.2.2.1 63 (4000 * r' + o) := fun r' o hr' ho => by
      obtain ⟨-, -, -, bpr, -⟩ := hD.bnd h12
      have b1' := bpr r' hr'
      have d2 := hD.1.2.1
      have hpe := hp r (Nat.le_refl _) hrn
      have hne' : 4000 * r' + o ≠ 4000 * r + e := fun z => by
        have h9 : r' = r ∧ o = e := by omega
        rw [h9.1] at ho
        omega
      rcases g2.y with ⟨-, hσ⟩ | ⟨f0, B, σ1, res, hY⟩
      · rw [hσ, r3ua, if_neg (fun z => hne' z.2)]
      · rw [(hY.rows).1, hY.2.2.1.2.2.2.2.1, if_neg hne']
    have h71 : nl ≤ nl' ∧ ∀ j, j < nl → σ'.2.2.1 71 j = 1 ∨ σ'.2.2.1 71 j = σ.2.2.1 71 j := by
      obtain ⟨bnl, -⟩ := hD.bnd h12
      obtain ⟨bnl', -⟩ := hD'.bnd h12
      have e72 := hD.2.2.2.2.2.1.2.1.1
      have e72' := hD'.2.2.2.2.2.1.2.1.1
      rcases g2.y with ⟨-, hσ⟩ | ⟨f0, B, σ1, res, hY⟩
      · have hi : σ'.1 = σ.1 := by rw [hσ]; rfl
        rw [hi, e72] at e72'
        have := (nI_eq (by omega) (by omega)).mp e72'
        exact ⟨by omega, fun j _ => Or.inr (by rw [hσ, r3ua, if_neg (fun z => absurd z.1 (by decide))])⟩
      · obtain ⟨-, -, -, -, z5, z6⟩ := hY.rows
        refine ⟨?_, fun j hj => (z5 j hj).1⟩
        rcases z6 with z6 | ⟨-, z6, -⟩
        · rw [z6, e72] at e72'
          have := (nI_eq (by omega) (by omega)).mp e72'
          omega
        · rw [z6] at e72'
          have := (nI_eq (by omega) (by omega)).mp e72'
          omega
    have hst : ns ≤ ns' ∧ (∀ kk, kk < ns → σ'.2.2.1 81 kk = σ.2.2.1 81 kk ∧ σ'.2.2.1 82 kk = σ.2.2.1 82 kk) ∧ ∀ kk, ns ≤ kk → kk < ns' → σ'.2.2.1 81 kk = nI r ∧ σ'.2.2.1 82 kk = nI e ∧ ∃ f, f ≤ e ∧ σ'.2.2.1 63 (4000 * r + e) = nI f := by
      obtain ⟨-, bna, bns, -⟩ := hD.bnd h12
      obtain ⟨-, bna', bns', -⟩ := hD'.bnd h12
      have e83 := hD.2.2.2.2.2.1.2.2.2.2.1
      have e83' := hD'.2.2.2.2.2.1.2.2.2.2.1
      rcases g2.y with ⟨-, hσ⟩ | ⟨f0, B, σ1, res, hY⟩
      · have hi : σ'.1 = σ.1 := by rw [hσ]; rfl
        rw [hi, e83] at e83'
        have := (nI_eq (by omega) (by omega)).mp e83'
        refine ⟨by omega, fun kk _ => ⟨by rw [hσ, r3ua, if_neg (fun z => absurd z.1 (by decide))], by rw [hσ, r3ua, if_neg (fun z => absurd z.1 (by decide))]⟩, fun kk z1 z2 => absurd z1 (by omega)⟩
      · obtain ⟨y1, y2, hU, yB, ybits, yb5, yres, yres4, y9⟩ := id hY
        have q1' := hU.2.2.2.1 81 (by decide) (by decide) (by decide)
        have q2' := hU.2.2.2.1 82 (by decide) (by decide) (by decide)
        rcases y9 with ⟨x4, σ4, q1, q2, q3⟩ | ⟨x4, q1, q2⟩ | ⟨x4, s, hh, q1, q2, q3, q4⟩
        · obtain ⟨l1, l2, l3, l4⟩ := id q1
          rcases q3 with ⟨b0, z⟩ | ⟨b0, z⟩
          · obtain ⟨w1, w2, w3, w4, w5, w6⟩ := wtS_r (σ := σ4) (r := r) (e := e) (nl := nl)
            rw [z, w5 83 (by decide), l1, hU.1, e83] at e83'
            have := (nI_eq (by omega) (by omega)).mp e83'
            refine ⟨by omega, fun kk _ => ⟨by rw [z, w1 81 (by decide) (by decide) (by decide), l3 81 (by decide), q1'], by rw [z, w1 82 (by decide) (by decide) (by decide), l3 82 (by decide), q2']⟩, fun kk z1 z2 => absurd z1 (by omega)⟩
          · rw [z, l1, hU.1, e83] at e83'
            have := (nI_eq (by omega) (by omega)).mp e83'
            refine ⟨by omega, fun kk _ => ⟨by rw [z, l3 81 (by decide), q1'], by rw [z, l3 82 (by decide), q2']⟩, fun kk z1 z2 => absurd z1 (by omega)⟩
        · rw [q2, hU.1, e83] at e83'
          have := (nI_eq (by omega) (by omega)).mp e83'
          exact ⟨by omega, fun kk _ => ⟨by rw [q2, q1'], by rw [q2, q2']⟩, fun kk z1 z2 => absurd z1 (by omega)⟩
        · rcases q4 with ⟨-, m2⟩ | ⟨-, m2⟩
          · obtain ⟨f1, f2, f3, f4, f5⟩ := fnH_r (σ := σ1) (r := r) (kk := 4000 * r + f0) (h := hh)
            rw [m2, f4 83 (by decide), hU.1, e83] at e83'
            have := (nI_eq (by omega) (by omega)).mp e83'
            exact ⟨by omega, fun kk _ => ⟨by rw [m2, f1 81 (by decide) (by decide), q1'], by rw [m2, f1 82 (by decide) (by decide), q2']⟩, fun kk z1 z2 => absurd z1 (by omega)⟩
          · obtain ⟨f1, f2, f3, f4, f5, f6, f7, f8, f9, -⟩ := fnA_r (σ := σ1) (r := r) (e := e) (t := tm e) (s := s) (kk := 4000 * r + f0) (h := hh) (na := na) (ns := ns)
            rw [m2, f7] at e83'
            have := (nI_eq (by omega) (by omega)).mp e83'
            exact ⟨by omega, fun kk hk => ⟨by rw [m2, f8, if_neg (by omega), q1'], by rw [m2, f9, if_neg (by omega), q2']⟩, fun kk z1 z2 => by
              have hkn : kk = ns := by omega
              have hf0 : f0 ≤ e := by rcases y2 with z | z <;> omega
              rw [hkn, m2, f8, if_pos rfl, f9, if_pos rfl]
              exact ⟨rfl, rfl, f0, hf0, by rw [f1 63 (by decide) (by decide) (by decide) (by decide)]; exact hU.e63⟩⟩
    obtain ⟨σ1, na1, ns1, nl1, pr1, lr1, le1, c, s, i1, i2, i3, i4, i5, i6, i7, i8, i9, i9a, i9b, i9c, i9d, i10, i11⟩ := ih (r + 1) σ' na' ns' nl' (prU pr r (e + 1)) lr' le' (by omega) hS' hD' (fun r' z1 z2 => by rw [prU_o (by omega)]; exact hp r' (by omega) z2) (by omega)
    have es : ∀ p0 p1 t mk, sS (fun _ => True) (fun r' => (alB p0 p1 t mk σ' e r' : Int)) (r + 1) d = sS (fun _ => True) (fun r' => (alB p0 p1 t mk σ e r' : Int)) (r + 1) d := fun p0 p1 t mk => sS_cong _ (fun y _ _ => ⟨Iff.rfl, fun _ => by show (alB p0 p1 t mk σ' e y : Int) = alB p0 p1 t mk σ e y; rw [hE.alb]⟩)
    have ed : ∀ p0 p1 t mk, sS (fun _ => True) (fun r' => (alB p0 p1 t mk σ e r' : Int)) r (d + 1) = (alB p0 p1 t mk σ e r : Int) + sS (fun _ => True) (fun r' => (alB p0 p1 t mk σ e r' : Int)) (r + 1) d := fun p0 p1 t mk => by
      rw [sS_down, one_y (P := True) trivial]
      simp only [Int.natCast_one, Int.one_mul]
    rw [es] at i7 i8
    refine ⟨σ1, na1, ns1, nl1, pr1, lr1, le1, KK + LL + TT + c, KS + LS + TS + s, g1.trans i1, i2, i3, by omega, fun r' hr' => by rw [i5 r' (by omega), prU_o (by omega)], fun r' z1 z2 => ?_, by rw [ed]; omega, by rw [ed]; omega, fun kk hk => ?_, fun kk z1 z2 => ?_, fun hq => i9b (fun kk z1 z2 => ?_), fun r' o hr' ho => ?_, ⟨Nat.le_trans h71.1 i9d.1, fun j hj => ?_⟩, fun Q hQ => g3 Q (d + 1) (i10 Q hQ), fun P0 S0 G S post mc ms u v wa rr lt tl ra ev hW hu hv hpost => ?_⟩
    · by_cases cr : r' = r
      · rw [cr, i5 r (by omega), prU_r]
      · exact i6 r' (by omega) z2
    · obtain ⟨m1, m2⟩ := i9 kk (by omega)
      obtain ⟨m3, m4⟩ := hst.2.1 kk hk
      exact ⟨m1.trans m3, m2.trans m4⟩
    · by_cases cn : kk < ns'
      · rw [(i9 kk cn).2]; exact (hst.2.2 kk z1 cn).2.1
      · exact i9a kk (by omega) z2
    · by_cases cn : kk < ns
      · obtain ⟨r0, e0, f0, q1, q2, q3, q4, q5, q6⟩ := hq kk z1 cn
        obtain ⟨m3, m4⟩ := hst.2.1 kk cn
        refine ⟨r0, e0, f0, q1, m3.trans q2, m4.trans q3, ?_, q5, (h63 r0 e0 q1 q4).trans q6⟩
        by_cases cr : r0 = r
        · rw [cr, prU_r]; rw [cr] at q4; have := hp r (Nat.le_refl _) hrn; omega
        · rw [prU_o cr]; exact q4
      · obtain ⟨m3, m4, f0, m5, m6⟩ := hst.2.2 kk (by omega) z2
        exact ⟨r, e, f0, hrn, m3, m4, by rw [prU_r]; omega, m5, m6⟩
    · refine (i9c r' o hr' ?_).trans (h63 r' o hr' ho)
      by_cases cr : r' = r
      · rw [cr, prU_r]; rw [cr] at ho; have := hp r (Nat.le_refl _) hrn; omega
      · rw [prU_o cr]; exact ho
    · rcases i9d.2 j (Nat.lt_of_lt_of_le hj h71.1) with z | z
      · exact Or.inl z
      · rw [z]; exact h71.2 j hj
    · refine CS (qK := KK) (qL := LL) (qT := TT) (sK := KS) (sL := LS) (sT := TS) hW hS hD hrn (hp r (Nat.le_refl _) hrn) hne hnow hks g2 hD' (by omega) (by omega) (fun z1 z2 => ⟨c1 z1 z2, t1 z1 z2⟩) (fun z => ⟨c2 z, t2 z⟩) (fun z1 z2 z3 => ⟨c3 z1 z2 z3, t3 z1 z2 z3⟩) (fun z => ⟨c4 z, t4 z⟩) (fun S' u' v' hu' hv' hW' => ?_)
      exact i11 P0 S0 G S' post mc ms u' v' wa rr lt tl ra ev hW' (by omega) (by omega) hpost
end LKS
