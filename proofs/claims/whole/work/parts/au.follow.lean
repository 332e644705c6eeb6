/-! ===== follow against comeWaiting ===== -/
section FWS
variable {bk nr te now n0 : Nat} {x k n w q L : Nat → Nat} {dp : Nat → Nat → Nat} {tr : (r c : Nat) → cT (dp r c)} {ud : Nat → Nat} {ut : (r : Nat) → Option (cT (ud r))}
theorem FW : ∀ d ks (σ : rf_S) (nv ne na ns nl : Nat) (pr lr le tm : Nat → Nat), ks + d = n0 → n0 ≤ ns → RS0 σ bk nr x k n w q L dp tr ud ut → RB σ bk nr n → RD σ bk nr x n w te nv ne na ns nl now pr lr le tm → SQ σ nr pr ks ns → (∀ kk, n0 ≤ kk → kk < ns → ¬ σ.2.2.1 10 (σ.2.2.1 82 kk).toNatClampNeg = -1) →
    ∃ (σ1 : rf_S) (nv1 ne1 na1 nl1 : Nat) (pr1 lr1 le1 tm1 : Nat → Nat) (c s : Nat), lF σ σ1 ∧ RS0 σ1 bk nr x k n w q L dp tr ud ut ∧ RB σ1 bk nr n ∧ RD σ1 bk nr x n w te nv1 ne1 na1 0 nl1 now pr1 lr1 le1 tm1 ∧ ne ≤ ne1 ∧ (nl ≤ nl1 ∧ ∀ j, j < nl → σ1.2.2.1 71 j = 1 ∨ σ1.2.2.1 71 j = σ.2.2.1 71 j) ∧
      (c : Int) + CB 1 5 1 3 2 gP σ1 nr na1 0 0 nl1 n pr1 lr1 le1 ≤ CB 1 5 1 3 2 gP σ nr na ns ks nl n pr lr le ∧
      (s : Int) + CB 6 43 6 13 15 gT σ1 nr na1 0 0 nl1 n pr1 lr1 le1 ≤ CB 6 43 6 13 15 gT σ nr na ns ks nl n pr lr le ∧
      (∀ Q : rf_S → Prop, Q σ1 → w_X12_follow_7 Q (d + 1) σ (nI n0) (nI ks)) ∧
      ∀ (P0 : Nat → Prop) (S0 : cs_S) (G : Nat → Nat) (S : cs_S) (post : cs_S → Prop) (mc ms u v wa rr lt tl kc j : Nat) (ra ev : Nat → Nat), CW P0 S0 G S σ wa rr lt tl bk nr ra x k n w q L dp tr ud ut te ne na ns ks nl now pr lr le tm ev → u + c ≤ mc → v + s ≤ ms → kc + d < 1000000 → d < j → (∀ S' ev', CW P0 S0 G S' σ1 wa rr lt tl bk nr ra x k n w q L dp tr ud ut te ne1 na1 0 0 nl1 now pr1 lr1 le1 tm1 ev' → post S') → w_X10_comeWaiting_2 post G mc ms j S u v wa (nI kc) := by
  intro d
  induction d with
  | zero =>
    intro ks σ nv ne na ns nl pr lr le tm hks hn0 hS hB hD hQ hmk
    obtain ⟨bnl, bna, bns, bpr, blk⟩ := hD.bnd hS.2.2.2.1
    have hE : eV σ (rf_ui σ 83 0) := ⟨fun _ _ => rfl, rfl⟩
    refine ⟨rf_ui σ 83 0, nv, ne, na, nl, pr, lr, le, tm, 0, 0, ⟨fun kk _ _ _ _ z => by rw [r1ui, if_neg (by omega)], rfl, fun _ _ _ _ _ _ _ => rfl, fun _ _ _ _ => rfl⟩, hS.on hE rfl rfl, hB.ev hE, hD.st0, Nat.le_refl _, ⟨Nat.le_refl _, fun _ _ => Or.inr rfl⟩, ?_, ?_, fun Q hQ' => ⟨fun _ => hQ', fun z => ?_⟩, fun P0 S0 G S post mc ms u v wa rr lt tl kc j ra ev hW hu hv hkc hj hpost => ?_⟩
    · have := CB.st0 (p0 := 1) (p1 := 5) (t := 1) (mk := 3) (kc := 2) (gf := gP) (σ := σ) (nr := nr) (na := na) (ns := ns) (ks := ks) (nl := nl) (n := n) (pr := pr) (lr := lr) (le := le)
      omega
    · have := CB.st0 (p0 := 6) (p1 := 43) (t := 6) (mk := 13) (kc := 15) (gf := gT) (σ := σ) (nr := nr) (na := na) (ns := ns) (ks := ks) (nl := nl) (n := n) (pr := pr) (lr := lr) (le := le)
      omega
    · exact absurd (nI_le (a := n0) (b := ks) (by omega) (by omega)) z
    · obtain ⟨g1, g2, g3⟩ := hW.end0 (fun kk z1 z2 => hmk kk (by omega) z2) bpr (fun j hj => (blk j hj).2)
      obtain ⟨j, rfl⟩ : ∃ j', j = j' + 1 := ⟨j - 1, by omega⟩
      refine ⟨by omega, by omega, fun z => ⟨by omega, by omega, g1, fun S17 e17 => ?_⟩, fun _ => ⟨g1, fun r19 e19 => ⟨fun _ => ⟨by omega, by omega, g1, fun S17 e17 => ?_⟩, fun b20 z => ?_⟩⟩⟩
      · rw [e17]; exact hpost _ _ g3
      · rw [e17]; exact hpost _ _ g3
      · rw [e19, g2] at z; cases z
  | succ d ih =>
    intro ks σ nv ne na ns nl pr lr le tm hks hn0 hS hB hD hQ hmk
    have h12 := hS.2.2.2.1
    obtain ⟨bnl, bna, bns, bpr, blk⟩ := hD.bnd h12
    obtain ⟨r, e, f, q1, q2, q3, q4, q5, q6⟩ := hQ ks (Nat.le_refl _) (by omega)
    have hd11 := hD.2.2.2.2.2.2.1
    have d2 := hD.1.2.1
    have d1 := hD.1.1
    have d6 := hD.2.1
    have hpr := hd11 r q1
    have he : e < ne := by omega
    have ce : (σ.2.2.1 82 ks).toNatClampNeg = e := by rw [q3, nI_clamp (by omega)]
    have cks : (nI ks).toNatClampNeg = ks := nI_clamp (by omega)
    have nle : ¬ nI n0 ≤ nI ks := fun z => absurd z (nI_ge (by omega) (by omega))
    have in82 : vp_in (nI ks) (rf_n 82) := nI_in (N := 48000) (by omega) (by decide)
    have in10 : vp_in (σ.2.2.1 82 ks) (rf_n 10) := by rw [q3]; exact nI_in (N := 4001) (by omega) (by decide)
    have in81 : vp_in (nI ks) (rf_n 81) := nI_in (N := 48000) (by omega) (by decide)
    -- nothing comes
    by_cases hno : ¬ σ.2.2.1 10 e = -1 ∨ ne = 4000
    · obtain ⟨σ1, nv1, ne1, na1, nl1, pr1, lr1, le1, tm1, c, s, i1, i2, i3, i4, i5, i6, i7, i8, i9, i10⟩ := ih (ks + 1) σ nv ne na ns nl pr lr le tm (by omega) hn0 hS hB hD (fun kk z1 z2 => hQ kk (by omega) z2) hmk
      have hp1 := CB.pop (p0 := 1) (p1 := 5) (t := 1) (mk := 3) (kc := 2) (gf := gP) (σ := σ) (nr := nr) (na := na) (nl := nl) (n := n) (pr := pr) (lr := lr) (le := le) (show ks < ns by omega)
      have hp2 := CB.pop (p0 := 6) (p1 := 43) (t := 6) (mk := 13) (kc := 15) (gf := gT) (σ := σ) (nr := nr) (na := na) (nl := nl) (n := n) (pr := pr) (lr := lr) (le := le) (show ks < ns by omega)
      refine ⟨σ1, nv1, ne1, na1, nl1, pr1, lr1, le1, tm1, c, s, i1, i2, i3, i4, i5, i6, ?_, ?_, fun Q hQ' => ⟨fun z => absurd z nle, fun _ => ⟨in82, by rw [cks]; exact in10, fun _ => ?_, fun zm => ⟨fun _ => ?_, fun z4 => ?_⟩⟩⟩, fun P0 S0 G S post mc ms u v wa rr lt tl kc j ra ev hW hu hv hkc hj hpost => ?_⟩
      · split at hp1 <;> omega
      · split at hp2 <;> omega
      · show w_X12_follow_7 Q (d + 1) σ (nI n0) (nI ks + 1)
        rw [nI_1]; exact i9 Q hQ'
      · show w_X12_follow_7 Q (d + 1) σ (nI n0) (nI ks + 1)
        rw [nI_1]; exact i9 Q hQ'
      · rw [cks, ce] at zm
        exfalso
        rcases hno with z | z
        · obtain ⟨-, -, -, m1 | ⟨mk, m1, m2⟩⟩ := d6 e he
          · exact z m1
          · rw [m2] at zm
            exact zm (nI_pos' (by omega))
        · rw [d1, z] at z4
          exact z4 (by decide)
      · by_cases cm : σ.2.2.1 10 e = -1
        · have hfull : ne = 4000 := by
            rcases hno with z | z
            · exact absurd cm z
            · exact z
          obtain ⟨q0, g1, g2, g3⟩ := hW.drop (by omega) (by rw [ce]; exact cm)
          have hSH := g3
          obtain ⟨ko, Ow, al, ed, wl, hSH, -⟩ := hSH
          have k12 : cs_k S wa = 12 := hSH.1.1
          have i1104 : cs_i (cs_ur (cs_ur S 1110 wa (cs_r S 406 q0)) 406 q0 none) 1104 wa = nI ne := hSH.2.1.1
          obtain ⟨j, rfl⟩ : ∃ j', j = j' + 1 := ⟨j - 1, by omega⟩
          have h9 := i10 P0 S0 G _ post mc ms u v wa rr lt tl (kc + 1) j ra ev g3 hu hv (by omega) (by omega) hpost
          refine ⟨by omega, by omega, fun z => ?_, fun _ => ⟨k12, fun r19 e19 => ⟨fun z => ?_, fun b20 e20 r21 e21 => ⟨q0, e21.trans g1, g2, fun r24 e24 S25 e25 => ⟨by rw [e25]; exact g2, fun S27 e27 => ?_⟩⟩⟩⟩⟩
          · exact absurd z (show ¬ (1000000 : Int32) ≤ nI kc from nI_ge (a := kc) (b := 1000000) (by omega) (by omega))
          · rw [e19, g1] at z; cases z
          · have eS : S27 = cs_ur (cs_ur S 1110 wa (cs_r S 406 q0)) 406 q0 none := by rw [e27, e25, e24]
            rw [eS]
            refine ⟨k12, fun _ => ⟨by omega, by omega, by rw [nI_1]; exact h9⟩, fun z => ?_⟩
            rw [i1104, hfull] at z
            exact absurd (by decide) z
        · exact i10 P0 S0 G S post mc ms u v wa rr lt tl kc j ra ev (hW.skip (by omega) (by rw [ce]; exact cm)) hu hv (by omega) (by omega) hpost
    · have hm : σ.2.2.1 10 e = -1 := by
        by_cases c : σ.2.2.1 10 e = -1
        · exact c
        · exact absurd (Or.inl c) hno
      have hne : ne < 4000 := by
        by_cases c : ne = 4000
        · exact absurd (Or.inr c) hno
        · omega
      obtain ⟨σ0, nv0, na0, ns0, nl0, pr0, lr0, le0, c0, s0, m1, m2, m3, m4, m5, m6, m7, m8, m9, m9a, m10, m11, m12, m13⟩ := MK hS hB hD hQ (by omega) (by rw [ce]; exact hm) hne
      obtain ⟨σ1, nv1, ne1, na1, nl1, pr1, lr1, le1, tm1, c, s, i1, i2, i3, i4, i5, i6, i7, i8, i9, i10⟩ := ih (ks + 1) σ0 nv0 (ne + 1) na0 ns0 nl0 pr0 lr0 le0 (prU tm ne now) (by omega) (by omega) m2 m3 m4 m6 (fun kk z1 z2 => by
        by_cases c : kk < ns
        · rw [(m7 kk c).2]
          obtain ⟨r', e', f', t1, t2, t3, t4, t5, t6⟩ := hQ kk (by omega) c
          have := hd11 r' t1
          have h9 := hmk kk z1 c
          rw [t3, nI_clamp (by omega)] at h9 ⊢
          rw [m9 e' (by omega)]
          exact h9
        · exact m8 kk (by omega) z2)
      refine ⟨σ1, nv1, ne1, na1, nl1, pr1, lr1, le1, tm1, c0 + c, s0 + s, m1.trans i1, i2, i3, i4, by omega, ⟨Nat.le_trans m9a.1 i6.1, fun j hj => ?_⟩, by omega, by omega, fun Q hQ' => ⟨fun z => absurd z nle, fun _ => ⟨in82, by rw [cks]; exact in10, fun z => ?_, fun zm => ⟨fun z4 => ?_, fun z4 => ⟨in81, ?_⟩⟩⟩⟩, fun P0 S0 G S post mc ms u v wa rr lt tl kc j ra ev hW hu hv hkc hj hpost => ?_⟩
      · rcases i6.2 j (Nat.lt_of_lt_of_le hj m9a.1) with z | z
        · exact Or.inl z
        · rw [z]; exact m9a.2 j hj
      · rw [cks, ce, hm] at z
        exact absurd z (by decide)
      · rw [d1] at z4
        exact absurd z4 (show ¬ (4000 : Int32) ≤ nI ne from nI_ge (a := ne) (b := 4000) (by omega) (by omega))
      · rw [cks]
        refine m12 _ ?_
        show w_X12_follow_7 Q (d + 1) σ0 (nI n0) (nI ks + 1)
        rw [nI_1]; exact i9 Q hQ'
      · have hWc := hW
        obtain ⟨ko, Ow, al, ed, wl, hSH, -⟩ := hWc
        have k12 : cs_k S wa = 12 := hSH.1.1
        have i1104 : cs_i S 1104 wa = nI ne := hSH.2.1.1
        obtain ⟨j, rfl⟩ : ∃ j', j = j' + 1 := ⟨j - 1, by omega⟩
        obtain ⟨q0, g1, g2, g3⟩ := m13 P0 S0 G S (fun S30 => w_X10_comeWaiting_58 post G mc ms (w_X10_comeWaiting_2 post G mc ms j) S30 (u + c0) (v + s0) wa (nI kc)) c0 s0 wa rr lt tl ra ev hW (Nat.le_refl _) (Nat.le_refl _) (fun S' ev' hW' => ⟨by omega, by omega, by
          rw [nI_1]
          exact i10 P0 S0 G S' post mc ms (u + c0) (v + s0) wa rr lt tl (kc + 1) j ra ev' hW' (by omega) (by omega) (by omega) (by omega) hpost⟩)
        refine ⟨by omega, by omega, fun z => ?_, fun _ => ⟨k12, fun r19 e19 => ⟨fun z => ?_, fun b20 e20 r21 e21 => ⟨q0, e21.trans g1, g2, fun r24 e24 S25 e25 => ⟨by rw [e25]; exact g2, fun S27 e27 => ?_⟩⟩⟩⟩⟩
        · exact absurd z (show ¬ (1000000 : Int32) ≤ nI kc from nI_ge (a := kc) (b := 1000000) (by omega) (by omega))
        · rw [e19, g1] at z; cases z
        · have eS : S27 = cs_ur (cs_ur S 1110 wa (cs_r S 406 q0)) 406 q0 none := by rw [e27, e25, e24]
          rw [eS]
          refine ⟨k12, fun z => ?_, fun _ S29 e29 => ⟨by rw [e29]; exact k12, c0, s0, by omega, by omega, g3 S29 e29⟩⟩
          have i9' : cs_i (cs_ur (cs_ur S 1110 wa (cs_r S 406 q0)) 406 q0 none) 1104 wa = nI ne := i1104
          rw [i9'] at z
          exact absurd z (show ¬ (4000 : Int32) ≤ nI ne from nI_ge (a := ne) (b := 4000) (by omega) (by omega))
end FWS
