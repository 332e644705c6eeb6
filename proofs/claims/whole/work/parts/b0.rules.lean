/-! ===== the lacks of all rules that are due ===== -/
section BLS
variable {bk nr te nv ne nl now : Nat} {x k n w q L : Nat → Nat} {dp : Nat → Nat → Nat} {tr : (r c : Nat) → cT (dp r c)} {ud : Nat → Nat} {ut : (r : Nat) → Option (cT (ud r))} {pr lr le tm : Nat → Nat}
theorem BL : ∀ d r (σ : rf_S) (na ns : Nat), r + d = nr → RS0 σ bk nr x k n w q L dp tr ud ut → RD σ bk nr x n w te nv ne na ns nl now pr lr le tm → SQ σ nr pr 0 ns →
    ∃ (σ1 : rf_S) (na1 ns1 c s : Nat), gE σ σ1 ∧ RS0 σ1 bk nr x k n w q L dp tr ud ut ∧ RD σ1 bk nr x n w te nv ne na1 ns1 nl now pr lr le tm ∧ SQ σ1 nr pr 0 ns1 ∧ (∀ j, j < nl → σ1.2.2.1 71 j = 1 ∨ σ1.2.2.1 71 j = σ.2.2.1 71 j) ∧ (∀ j, j < nl → r ≤ lr j → σ1.2.2.1 71 j = 0 → tm (le j) + w (lr j) ≠ now) ∧
      (c : Int) + CB 1 5 1 3 2 gP σ1 nr na1 ns1 0 nl n pr lr le ≤ CB 1 5 1 3 2 gP σ nr na ns 0 nl n pr lr le ∧ (s : Int) + CB 6 43 6 13 15 gT σ1 nr na1 ns1 0 nl n pr lr le ≤ CB 6 43 6 13 15 gT σ nr na ns 0 nl n pr lr le ∧
      (∀ (Q : rf_S → Prop) (k2 : rf_S → Int32 → Int32 → Prop) (x1 x2 : Int32), wp_X12_follow (fun σ7 => k2 σ7 x1 x2) σ1 → w_X12_become_85 Q k2 (d + 1) σ x1 x2 (Int64.ofNat now) (nI r)) ∧
      ∀ (P0 : Nat → Prop) (S0 : cs_S) (G : Nat → Nat) (S : cs_S) (post : cs_S → Prop) (k2 : cs_S → Nat → Nat → Nat → Int32 → Int32 → Prop) (mc ms u v wa rr lt tl : Nat) (x1 x2 : Int32) (ra ev : Nat → Nat), CW P0 S0 G S σ wa rr lt tl bk nr ra x k n w q L dp tr ud ut te ne na ns 0 nl now pr lr le tm ev → u + c ≤ mc → v + s ≤ ms → (∀ S', CW P0 S0 G S' σ1 wa rr lt tl bk nr ra x k n w q L dp tr ud ut te ne na1 ns1 0 nl now pr lr le tm ev → ∃ m17 n17, u + c + m17 ≤ mc ∧ v + s + n17 ≤ ms ∧ wp_X10_comeWaiting (fun S17 => k2 S17 (u + c + m17) (v + s + n17) wa x1 (x2 + 1)) G m17 n17 S' wa) → w_X10_advance_30 post G mc ms k2 (d + 1) S u v wa x1 x2 (nI now) (nI r) := by
  intro d
  induction d with
  | zero =>
    intro r σ na ns hr hS hD hQ
    have s4 := hS.2.2.2.1
    have hlr := (hD.bnd s4).2.2.2.2
    refine ⟨σ, na, ns, 0, 0, gE.rfl, hS, hD, hQ, fun _ _ => Or.inr rfl, fun j hj z => ?_, by omega, by omega, fun Q k2 x1 x2 h => ⟨fun _ => h, fun z => ?_⟩, fun P0 S0 G S post k2 mc ms u v wa rr lt tl x1 x2 ra ev hW hu hv hpost => ?_⟩
    · have := (hlr j hj).1
      omega
    · rw [hS.2.2.1] at z
      exact absurd (nI_le (a := nr) (b := r) (by omega) (by omega)) z
    · have hWc := hW
      obtain ⟨_, _, _, _, _, hSH, -⟩ := hWc
      refine ⟨by omega, by omega, hSH.1.1, fun _ => hpost S hW, fun z => ?_⟩
      rw [hSH.1.2.2.2.2.1] at z
      exact absurd (nI_le (a := nr) (b := r) (by omega) (by omega)) z
  | succ d ih =>
    intro r σ na ns hr hS hD hQ
    have s4 := hS.2.2.2.1
    have hrn : r < nr := by omega
    obtain ⟨bnl, -⟩ := hD.bnd s4
    obtain ⟨σ0, na0, ns0, c0, s0, m1, m2, m3, m4, m5, m6, m7, m8, m9, m10, m11⟩ := BR hrn nl 0 σ na ns (by omega) hS hD hQ (fun j hj => absurd hj (by omega))
    obtain ⟨σ1, na1, ns1, c, s, j1, j2, j3, j4, j5, j6, j7, j8, j9, j10⟩ := ih (r + 1) σ0 na0 ns0 (by omega) m2 m3 m4
    refine ⟨σ1, na1, ns1, c0 + c, s0 + s, m1.trans j1, j2, j3, j4, fun j hj => ?_, fun j hj hjr h0 => ?_, by omega, by omega, fun Q k2 x1 x2 h => ⟨fun z => ?_, fun _ => ⟨nl + 1, ?_⟩⟩, fun P0 S0 G S post k2 mc ms u v wa rr lt tl x1 x2 ra ev hW hu hv hpost => ?_⟩
    · rcases j5 j hj with z | z
      · exact Or.inl z
      · rw [z]; exact m6 j hj
    · by_cases cr : lr j = r
      · rw [cr]
        refine m7 j hj cr ?_
        rcases j5 j hj with z | z
        · rw [z] at h0; exact absurd h0 (by decide)
        · rw [← z]; exact h0
      · exact j6 j hj (by omega) h0
    · rw [hS.2.2.1] at z
      exact absurd z (nI_ge (by omega) (by omega))
    · exact m10 Q k2 (w_X12_become_85 Q k2 (d + 1)) x1 x2 (j9 Q k2 x1 x2 h)
    · have hWc := hW
      obtain ⟨_, _, _, _, _, hSH, hCR, -⟩ := hWc
      obtain ⟨w1, w2, w3, w4, w5, w6, w7, w8, w9, w10⟩ := hSH.1
      refine ⟨by omega, by omega, w1, fun z => ?_, fun _ r18 e18 => ⟨rr, e18.trans w2, w3, nI_in (by omega) (by omega), fun r21 e21 => ⟨c0, s0, by omega, by omega, ra r, ?_, (hCR r hrn).1.1, ?_⟩⟩⟩
      · rw [w5] at z; exact absurd z (nI_ge (by omega) (by omega))
      · rw [e21, nI_clamp (by omega)]; exact w10 r hrn
      · refine m11 P0 S0 G S _ _ c0 s0 0 0 wa rr lt tl 0 (nl + 1) ra ev (fun r25 S25 z => ⟨_, z⟩) hW (by omega) (by omega) (fun j _ _ _ => by omega) (by omega) (fun S' hW' => ?_)
        rw [nI_1]
        refine j10 P0 S0 G S' post k2 mc ms (u + c0) (v + s0) wa rr lt tl x1 x2 ra ev hW' (by omega) (by omega) (fun S'' hW'' => ?_)
        obtain ⟨m17, n17, z1, z2, z3⟩ := hpost S'' hW''
        refine ⟨m17, n17, by omega, by omega, ?_⟩
        rw [show u + c0 + c = u + (c0 + c) from by omega, show v + s0 + s = v + (s0 + s) from by omega]
        exact z3
end BLS
