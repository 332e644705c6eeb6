/-! ===== become against advance ===== -/
noncomputable def ovc (σ : rf_S) (nl : Nat) : Int := sS (fun j => ¬ σ.2.2.1 71 j = 0) (fun _ => 1) 0 nl
theorem ovc_le {σ : rf_S} {nl : Nat} : 0 ≤ ovc σ nl ∧ ovc σ nl ≤ nl := sS_cn
theorem ovc_up {σ σ' : rf_S} {nl nl' j0 : Nat} (hl : nl ≤ nl') (hm : ∀ j, j < nl → σ'.2.2.1 71 j = 1 ∨ σ'.2.2.1 71 j = σ.2.2.1 71 j) (hj : j0 < nl) (h0 : σ.2.2.1 71 j0 = 0) (h1 : ¬ σ'.2.2.1 71 j0 = 0) : ovc σ nl + 1 ≤ ovc σ' nl' := by
  have a := sS_cmp (P := fun j => ¬ σ'.2.2.1 71 j = 0) (P' := fun j => ¬ σ.2.2.1 71 j = 0) (v := fun _ => 1) (v' := fun _ => 1) (t := fun y => if y = j0 then -1 else 0) (lo := 0) nl (fun y _ hy => by
    by_cases c : y = j0
    · subst c
      rw [if_pos rfl, one_n (fun z => z h0), one_y h1]
      simp
    · rw [if_neg c]
      by_cases z : σ.2.2.1 71 y = 0
      · rw [one_n (fun z' => z' z)]
        have : (0 : Int) ≤ (oneIf (¬ σ'.2.2.1 71 y = 0) : Int) := by omega
        simp only [Int.natCast_zero, Int.zero_mul, Int.mul_one]
        omega
      · have z2 : ¬ σ'.2.2.1 71 y = 0 := by
          rcases hm y (by omega) with e | e
          · rw [e]; decide
          · rw [e]; exact z
        rw [one_y z, one_y z2]
        simp)
  rw [sS_sng, if_pos (by omega)] at a
  have ext : ∀ d, sS (fun j => ¬ σ'.2.2.1 71 j = 0) (fun _ => 1) 0 nl ≤ sS (fun j => ¬ σ'.2.2.1 71 j = 0) (fun _ => 1) 0 (nl + d) := by
    intro d
    induction d with
    | zero => exact Int.le_refl _
    | succ d ih =>
      rw [← Nat.add_assoc, sS]
      have : (0 : Int) ≤ (oneIf (¬ σ'.2.2.1 71 (0 + (nl + d)) = 0) : Int) := by omega
      omega
  have b := ext (nl' - nl)
  rw [show nl + (nl' - nl) = nl' from by omega] at b
  unfold ovc
  omega
section BCS
variable {bk nr te t : Nat} {x k n w q L : Nat → Nat} {dp : Nat → Nat → Nat} {tr : (r c : Nat) → cT (dp r c)} {ud : Nat → Nat} {ut : (r : Nat) → Option (cT (ud r))}
theorem BC (ht : t ≤ 2000000000) : ∀ (m : Nat) (σ : rf_S) (nv ne na nl now : Nat) (pr lr le tm : Nat → Nat), (48000 : Int) - ovc σ nl ≤ m → now ≤ t → RS0 σ bk nr x k n w q L dp tr ud ut → RB σ bk nr n → RD σ bk nr x n w te nv ne na 0 nl now pr lr le tm →
    ∃ (σ1 : rf_S) (nv1 ne1 na1 nl1 : Nat) (pr1 lr1 le1 tm1 : Nat → Nat) (c s : Nat), lF σ σ1 ∧ RS0 σ1 bk nr x k n w q L dp tr ud ut ∧ RB σ1 bk nr n ∧ RD σ1 bk nr x n w te nv1 ne1 na1 0 nl1 t pr1 lr1 le1 tm1 ∧ ne ≤ ne1 ∧
      (c : Int) + CB 1 5 1 3 2 gP σ1 nr na1 0 0 nl1 n pr1 lr1 le1 ≤ CB 1 5 1 3 2 gP σ nr na 0 0 nl n pr lr le ∧
      (s : Int) + CB 6 43 6 13 15 gT σ1 nr na1 0 0 nl1 n pr1 lr1 le1 ≤ CB 6 43 6 13 15 gT σ nr na 0 0 nl n pr lr le ∧
      (∀ Q : rf_S → Prop, Q σ1 → w_X12_become_2 Q (m + 2) σ (nI t) 1) ∧
      ∀ (P0 : Nat → Prop) (S0 : cs_S) (G : Nat → Nat) (S : cs_S) (post : cs_S → Prop) (mc ms u v wa rr lt tl kc : Nat) (ra ev : Nat → Nat), CW P0 S0 G S σ wa rr lt tl bk nr ra x k n w q L dp tr ud ut te ne na 0 0 nl now pr lr le tm ev → u + c ≤ mc → v + s ≤ ms → kc + m < 1000000 → (∀ S' ev', CW P0 S0 G S' σ1 wa rr lt tl bk nr ra x k n w q L dp tr ud ut te ne1 na1 0 0 nl1 t pr1 lr1 le1 tm1 ev' → post S') → w_X10_advance_2 post G mc ms (m + 1) S u v wa (nI t) (nI kc) := by
  intro m
  induction m with
  | zero =>
    intro σ nv ne na nl now pr lr le tm hm hnow hS hB hD
    have s4 := hS.2.2.2.1
    obtain ⟨bnl, bna, bns, bpr, blk⟩ := hD.bnd s4
    have hov := ovc_le (σ := σ) (nl := nl)
    -- all are over
    have hall : ∀ j, j < nl → ¬ σ.2.2.1 71 j = 0 := fun j hj h0 => by
      have := ovc_up (σ := σ) (σ' := rf_ua σ 71 j 1) (nl := nl) (nl' := nl) (j0 := j) (Nat.le_refl _) (fun j' _ => by
        rw [r3ua]
        by_cases c : j' = j
        · exact Or.inl (if_pos ⟨rfl, c⟩)
        · exact Or.inr (if_neg (fun z => c z.2))) hj h0 (by rw [r3ua, if_pos ⟨rfl, rfl⟩]; decide)
      have h2 := ovc_le (σ := rf_ua σ 71 j 1) (nl := nl)
      omega
    obtain ⟨md, a1, a2, a3, a4⟩ := RM hS hD ht nl 0 t (by omega) (Nat.le_refl _) (fun j hj => absurd hj (by omega)) (Or.inl rfl)
    have emd : md = t := by
      rcases a3 with z | ⟨j, z1, z2, -⟩
      · exact z
      · exact absurd z2 (hall j z1)
    have hn : nwF σ (rf_ui σ 21 (nI t)) := ⟨rfl, fun kk z1 z2 => by rw [r1ui, if_neg z1]⟩
    have hD1 := hD.atT hn (by rw [r1ui, if_pos rfl]) hnow ht (fun j hj h0 => absurd h0 (hall j hj))
    refine ⟨rf_ui σ 21 (nI t), nv, ne, na, nl, pr, lr, le, tm, 0, 0, hn.lf', hS.on hn.vv rfl rfl, hB.ev hn.vv, hD1, Nat.le_refl _, by rw [CB.nf hn]; omega, by rw [CB.nf hn]; omega, fun Q hQ => ⟨fun z => absurd z (by decide), fun _ => ⟨nl + 1, ?_⟩⟩, fun P0 S0 G S post mc ms u v wa rr lt tl kc ra ev hW hu hv hkc hpost => ?_⟩
    · rw [show (nI t).toInt64 = Int64.ofNat t from i32_64 t (by omega)]
      exact a4 Q _ (fun _ => ⟨fun z => absurd rfl z, fun _ => ⟨fun _ => hQ, fun z => absurd rfl z⟩⟩) (fun z => absurd emd (by omega))
    · refine ⟨by omega, by omega, fun z => absurd z (show ¬ (1000000 : Int32) ≤ nI kc from nI_ge (a := kc) (b := 1000000) (by omega) (by omega)), fun _ => ⟨?_, _, CWld hS hD ht nr 0 S (-1) (by omega) hW (Or.inl ⟨rfl, fun j hj hl => absurd hl (by omega)⟩) (fun S' v' hW' hv' => ?_)⟩⟩
      · obtain ⟨_, _, _, _, _, hSH, -⟩ := hW
        exact hSH.1.1
      · rcases hv' with ⟨v1, -⟩ | ⟨j, v1, v2, -⟩
        · rw [v1]
          obtain ⟨k12, hW2⟩ := hW'.atT hn hnow bpr (fun j hj => (blk j hj).2)
          exact ⟨fun z => absurd rfl z, fun _ => ⟨by omega, by omega, k12, fun S15 e15 => by rw [e15]; exact hpost _ _ hW2⟩⟩
        · exact absurd v2 (hall j v1)
  | succ m ih =>
    intro σ nv ne na nl now pr lr le tm hm hnow hS hB hD
    have s4 := hS.2.2.2.1
    obtain ⟨bnl, bna, bns, bpr, blk⟩ := hD.bnd s4
    obtain ⟨md, a1, a2, a3, a4⟩ := RM hS hD ht nl 0 t (by omega) (Nat.le_refl _) (fun j hj => absurd hj (by omega)) (Or.inl rfl)
    by_cases emd : md = t
    · -- nothing is due
      have hn : nwF σ (rf_ui σ 21 (nI t)) := ⟨rfl, fun kk z1 z2 => by rw [r1ui, if_neg z1]⟩
      have hD1 := hD.atT hn (by rw [r1ui, if_pos rfl]) hnow ht (fun j hj h0 => by rw [← emd]; exact a2 j hj h0)
      refine ⟨rf_ui σ 21 (nI t), nv, ne, na, nl, pr, lr, le, tm, 0, 0, hn.lf', hS.on hn.vv rfl rfl, hB.ev hn.vv, hD1, Nat.le_refl _, by rw [CB.nf hn]; omega, by rw [CB.nf hn]; omega, fun Q hQ => ⟨fun z => absurd z (by decide), fun _ => ⟨nl + 1, ?_⟩⟩, fun P0 S0 G S post mc ms u v wa rr lt tl kc ra ev hW hu hv hkc hpost => ?_⟩
      · rw [show (nI t).toInt64 = Int64.ofNat t from i32_64 t (by omega)]
        exact a4 Q _ (fun _ => ⟨fun z => absurd rfl z, fun _ => ⟨fun _ => hQ, fun z => absurd rfl z⟩⟩) (fun z => absurd emd (by omega))
      · refine ⟨by omega, by omega, fun z => absurd z (show ¬ (1000000 : Int32) ≤ nI kc from nI_ge (a := kc) (b := 1000000) (by omega) (by omega)), fun _ => ⟨?_, _, CWld hS hD ht nr 0 S (-1) (by omega) hW (Or.inl ⟨rfl, fun j hj hl => absurd hl (by omega)⟩) (fun S' v' hW' hv' => ?_)⟩⟩
        · obtain ⟨_, _, _, _, _, hSH, -⟩ := hW
          exact hSH.1.1
        · rcases hv' with ⟨v1, -⟩ | ⟨j, v1, v2, v3, v4, -⟩
          · rw [v1]
            obtain ⟨k12, hW2⟩ := hW'.atT hn hnow bpr (fun j hj => (blk j hj).2)
            exact ⟨fun z => absurd rfl z, fun _ => ⟨by omega, by omega, k12, fun S15 e15 => by rw [e15]; exact hpost _ _ hW2⟩⟩
          · have := a2 j v1 v2
            omega
    · -- a round
      have hmd : md < t := by omega
      obtain ⟨j0, b1, b2, b3⟩ : ∃ j, j < nl ∧ σ.2.2.1 71 j = 0 ∧ tm (le j) + w (lr j) = md := by
        rcases a3 with z | z
        · exact absurd z emd
        · exact z
      have hmn : now ≤ md := by
        have := hD.2.2.2.2.2.2.2.2.1 j0 b1 b2
        omega
      have hn : nwF σ (rf_ui (rf_ui σ 21 (nI md)) 80 (σ.1 78)) := ⟨rfl, fun kk z1 z2 => by rw [r1ui, if_neg z2, r1ui, if_neg z1]⟩
      have hDa := hD.atT hn (by rw [r1ui, if_neg (by decide), r1ui, if_pos rfl]) hmn (by omega) a2
      have hSa := hS.on hn.vv rfl rfl
      have hBa := hB.ev hn.vv
      obtain ⟨σb, nab, nsb, cb, sb, m1, m2, m3, m4, m5, m6, m7, m8, m9, m10⟩ := BL nr 0 _ na 0 (by omega) hSa hDa (fun kk _ z => absurd z (by omega))
      have hBb := hBa.ev m1.ev
      have h83 := m3.2.2.2.2.2.1.2.2.2.2.1
      obtain ⟨-, -, bnsb, -⟩ := m3.bnd s4
      obtain ⟨σc, nvc, nec, nac, nlc, prc, lrc, lec, tmc, cc, sc, f1, f2, f3, f4, f5, f6, f7, f8, f9, f10⟩ := FW (n0 := nsb) nsb 0 σb nv ne nab nsb nl pr lr le tm (by omega) (Nat.le_refl _) m2 hBb m3 m4 (fun kk z1 z2 => absurd z1 (by omega))
      have mono : ∀ j, j < nl → σc.2.2.1 71 j = 1 ∨ σc.2.2.1 71 j = σ.2.2.1 71 j := fun j hj => by
        rcases f6.2 j hj with z | z
        · exact Or.inl z
        · rw [z]
          rcases m5 j hj with y | y
          · exact Or.inl y
          · exact Or.inr y
      have hup := ovc_up f6.1 mono b1 b2 (fun z => by
        refine m6 j0 b1 (by omega) ?_ b3
        rcases f6.2 j0 b1 with y | y
        · rw [y] at z; exact absurd z (by decide)
        · rw [← y]; exact z)
      obtain ⟨σ1, nv1, ne1, na1, nl1, pr1, lr1, le1, tm1, c, s, i1, i2, i3, i4, i5, i6, i7, i8, i9⟩ := ih σc nvc nec nac nlc md prc lrc lec tmc (by omega) (by omega) f2 f3 f4
      have cb1 := CB.nf (p0 := 1) (p1 := 5) (t := 1) (mk := 3) (kc := 2) (gf := gP) (nr := nr) (na := na) (ns := 0) (ks := 0) (nl := nl) (n := n) (pr := pr) (lr := lr) (le := le) hn
      have cb2 := CB.nf (p0 := 6) (p1 := 43) (t := 6) (mk := 13) (kc := 15) (gf := gT) (nr := nr) (na := na) (ns := 0) (ks := 0) (nl := nl) (n := n) (pr := pr) (lr := lr) (le := le) hn
      refine ⟨σ1, nv1, ne1, na1, nl1, pr1, lr1, le1, tm1, cb + cc + c, sb + sc + s, (hn.lf'.trans m1.lf').trans (f1.trans i1), i2, i3, i4, by omega, by omega, by omega, fun Q hQ => ⟨fun z => absurd z (by decide), fun _ => ⟨nl + 1, ?_⟩⟩, fun P0 S0 G S post mc ms u v wa rr lt tl kc ra ev hW hu hv hkc hpost => ?_⟩
      · rw [show (nI t).toInt64 = Int64.ofNat t from i32_64 t (by omega)]
        refine a4 Q _ (fun z => absurd z emd) (fun _ => ⟨fun _ => ⟨nr + 1, ?_⟩, fun z => absurd z (by decide)⟩)
        rw [i64_32 (by omega)]
        refine m9 Q _ (nI t) 1 ⟨nsb + 1, ?_⟩
        rw [h83]
        exact f9 _ (i8 Q hQ)
      · refine ⟨by omega, by omega, fun z => absurd z (show ¬ (1000000 : Int32) ≤ nI kc from nI_ge (a := kc) (b := 1000000) (by omega) (by omega)), fun _ => ⟨?_, _, CWld hS hD ht nr 0 S (-1) (by omega) hW (Or.inl ⟨rfl, fun j hj hl => absurd hl (by omega)⟩) (fun S' v' hW' hv' => ?_)⟩⟩
        · obtain ⟨_, _, _, _, _, hSH, -⟩ := hW
          exact hSH.1.1
        · have ev' : v' = nI md := by
            rcases hv' with ⟨-, v2⟩ | ⟨j, v1, v2, v3, v4, v5⟩
            · have := v2 j0 b1 b2
              omega
            · have h1 := a2 j v1 v2
              have h2 := v5 j0 b1 b2
              rw [v3]
              have : tm (le j) + w (lr j) = md := by omega
              rw [this]
          rw [ev']
          obtain ⟨k12, hW2⟩ := hW'.atT hn hmn bpr (fun j hj => (blk j hj).2)
          refine ⟨fun _ => ⟨k12, fun S26 e26 => ⟨nr + 1, ?_⟩⟩, fun z => absurd z (nI_m md (by omega))⟩
          rw [e26]
          refine m10 P0 S0 G _ post _ mc ms u v wa rr lt tl (nI t) (nI kc) ra ev hW2 (by omega) (by omega) (fun S'' hW'' => ⟨cc, sc, by omega, by omega, nsb + 1, ?_⟩)
          refine f10 P0 S0 G S'' _ cc sc 0 0 wa rr lt tl 0 (nsb + 1) ra ev hW'' (by omega) (by omega) (by omega) (by omega) (fun S3 ev3 hW3 => ?_)
          rw [nI_1]
          exact i9 P0 S0 G S3 post mc ms (u + cb + cc) (v + sb + sc) wa rr lt tl (kc + 1) ra ev3 hW3 (by omega) (by omega) (by omega) hpost
end BCS
