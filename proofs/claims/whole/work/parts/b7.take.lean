/-! ===== take: the loop over records ===== -/
/-- outside of the watch all is as it was, but the reader's own numbers -/
def oF (PX : Nat → Prop) (rc : Nat) (S S' : cs_S) : Prop := ∀ a, PX a → cs_k S' a = cs_k S a ∧ cs_n S' a = cs_n S a ∧ (∀ f, (a = rc → f ≠ 700 ∧ f ≠ 701 ∧ f ≠ 706) → cs_i S' f a = cs_i S f a) ∧ (∀ f, cs_l S' f a = cs_l S f a) ∧ (∀ f, cs_r S' f a = cs_r S f a) ∧ (∀ j, cs_ai S' a j = cs_ai S a j) ∧ (∀ j, cs_al S' a j = cs_al S a j) ∧ ∀ j, cs_ar S' a j = cs_ar S a j
/-- .. and so in the reference -/
def qF (σ σ' : rf_S) : Prop := σ'.1 0 = σ.1 0 ∧ σ'.1 2 = σ.1 2 ∧ σ'.1 85 = σ.1 85 ∧ (∀ j, σ'.2.2.1 84 j = σ.2.2.1 84 j) ∧ eR σ σ'
/-- where no fault is noted, the place rests -/
def K7 (G : Nat → Nat) (rc : Nat) : Prop := ∀ (S : cs_S) (bs nw : Int32) (post : Option Nat → cs_S → Prop), cs_i S 700 rc = 0 → wp_X6_readRecord (fun r S' => (cs_i S' 700 rc = 0 → cs_i S' 701 rc = cs_i S 701 rc) → post r S') G 19 247 S rc bs nw → wp_X6_readRecord post G 19 247 S rc bs nw
section TLS
variable {PX P0 : Nat → Prop} {S S1 S2 : cs_S} {σ σ1 σ2 : rf_S} {rc nr ne te q e m : Nat} {Ow : Nat → Nat → Prop} {ev : Nat → Nat} {wl : List Nat}
theorem oF.trans (h : oF PX rc S S1) (g : oF PX rc S1 S2) : oF PX rc S S2 := fun a ha => by
  obtain ⟨h1, h2, h3, h4, h5, h6, h7, h8⟩ := h a ha
  obtain ⟨g1, g2, g3, g4, g5, g6, g7, g8⟩ := g a ha
  exact ⟨g1.trans h1, g2.trans h2, fun f hf => (g3 f hf).trans (h3 f hf), fun f => (g4 f).trans (h4 f), fun f => (g5 f).trans (h5 f), fun j => (g6 j).trans (h6 j), fun j => (g7 j).trans (h7 j), fun j => (g8 j).trans (h8 j)⟩
theorem oF.rfl : oF PX rc S S := fun _ _ => ⟨Eq.refl _, Eq.refl _, fun _ _ => Eq.refl _, fun _ => Eq.refl _, fun _ => Eq.refl _, fun _ => Eq.refl _, fun _ => Eq.refl _, fun _ => Eq.refl _⟩
theorem rg.of (h : rg rc S S1) (hl : ∀ a, PX a → cs_k S a ≠ 0) : oF PX rc S S1 := fun a ha => by
  obtain ⟨h1, h2, h3, h4, h5, h6, h7, h8⟩ := h a (hl a ha)
  exact ⟨h1, h2, h5, h3, h4, h6, h7, h8⟩
theorem FR.of (h : FR P0 S S1 nr Ow ne ev wl) (hp : ∀ a, PX a → P0 a) (h5 : ∀ a, PX a → cs_k S a ≠ 5) : oF PX rc S S1 := fun a ha => by
  obtain ⟨-, ⟨h1, h2, h3, h4⟩, -⟩ := h.2 a (hp a ha)
  have h9 := h5 a ha
  exact ⟨h1, h2, fun f _ => (h3 f (fun z => absurd z h9)).1, fun f => (h3 f (fun z => absurd z h9)).2.1, fun f => (h3 f (fun z => absurd z h9)).2.2, fun j => (h4 h9 j).1, fun j => (h4 h9 j).2.1, fun j => (h4 h9 j).2.2⟩
theorem qF.trans (h : qF σ σ1) (g : qF σ1 σ2) : qF σ σ2 := ⟨g.1.trans h.1, g.2.1.trans h.2.1, g.2.2.1.trans h.2.2.1, fun j => (g.2.2.2.1 j).trans (h.2.2.2.1 j), fun k a b => (g.2.2.2.2.1 k a b).trans (h.2.2.2.2.1 k a b), fun k a => (g.2.2.2.2.2 k a).trans (h.2.2.2.2.2 k a)⟩
theorem sg.qf {te : Nat} (h : sg 4000 32000 te σ σ1) : qF σ σ1 := ⟨h.1 0 (by decide) (by decide) (by decide) (by decide) (by decide) (by decide), h.1 2 (by decide) (by decide) (by decide) (by decide) (by decide) (by decide), h.1 85 (by decide) (by decide) (by decide) (by decide) (by decide) (by decide), fun j => h.2.2.1 84 j (by omega) (by omega) (by omega), fun k h1 h2 => funext fun j => h.2.2.1 k j (by omega) (by omega) (by omega), fun k h1 => funext fun j => h.2.2.2 k j (by omega) (by omega)⟩
theorem tF.qf (h : tF σ σ1) : qF σ σ1 := ⟨h.1 0 (by decide) (by decide) (by decide) (by decide) (by decide) (by omega), h.1 2 (by decide) (by decide) (by decide) (by decide) (by decide) (by omega), h.1 85 (by decide) (by decide) (by decide) (by decide) (by decide) (by omega), fun j => h.2.2.1 84 j (by decide) (by decide) (by omega) (by omega) (by omega), fun k h1 h2 => funext fun j => h.2.2.1 k j (by omega) (by omega) (Or.inl h2) (by omega) (by omega), fun k h1 => funext fun j => h.2.2.2 k j (by omega) (by omega)⟩
/-- an event that has been read stays as it is -/
theorem evR.fr (h : evR S σ te q e m) (hq : P0 q) (hv : ∀ vs, cs_r S 404 q = some vs → P0 vs) (hk : ∀ a, cs_k S a = 11 ∨ cs_k S a = 20 ∨ cs_k S a = 21 → P0 a) (hF : FR P0 S S1 nr Ow ne ev wl) : evR S1 σ te q e m := by
  obtain ⟨g1, ⟨n, g2, g3⟩, g4, g5, nm, vs, g6, g7, g8, g9, g10, g11, g12⟩ := h
  obtain ⟨-, ⟨a1, -, a3, -⟩, -⟩ := hF.2 q hq
  obtain ⟨-, ⟨b1, b2, -, b4⟩, -⟩ := hF.2 nm (hk nm (by omega))
  obtain ⟨-, ⟨c1, c2, -, c4⟩, -⟩ := hF.2 vs (hv vs g9)
  refine ⟨a1.trans g1, ⟨n, g2, by rw [(a3 401 (by omega)).2.1]; exact g3⟩, g4, g5, nm, vs, (a3 403 (by omega)).2.2.trans g6, b1.trans g7, b2.trans g8, (a3 404 (by omega)).2.2.trans g9, c1.trans g10, c2.trans g11, fun j hj => ?_⟩
  obtain ⟨d1, ⟨va, d2, d3⟩, d4⟩ := g12 j hj
  have bj := fun j => (b4 (by omega) j).2.1
  refine ⟨by rw [bj]; exact d1, ⟨va, (c4 (by omega) j).2.2.trans d2, d3.on (fun a ha => ?_) rfl rfl rfl (fun _ _ => rfl) (Nat.le_refl _)⟩, fun z => by rw [bj, bj]; exact d4 z⟩
  obtain ⟨-, ⟨u1, u2, u3, u4⟩, -⟩ := hF.2 a (hk a (by omega))
  exact ⟨u1, u2, (u3 1000 (by omega)).1, (u3 1001 (by omega)).1, (u3 1003 (by omega)).1, (u3 1002 (by omega)).2.2, fun _ j => (u4 (by omega) j).1⟩
theorem evR.rows {σ' : rf_S} {te' : Nat} (h : evR S σ te q e m) (h9 : σ'.2.2.1 9 e = σ.2.2.1 9 e) (hw : ∀ k, k = 11 ∨ k = 12 → σ'.2.2.2 k e = σ.2.2.2 k e) (h13 : ∀ j, j < m → σ'.2.2.2 13 (8 * e + j) = σ.2.2.2 13 (8 * e + j)) (hr : ∀ k j, k = 14 ∨ k = 15 ∨ k = 16 → j < m → σ'.2.2.1 k (8 * e + j) = σ.2.2.1 k (8 * e + j)) (h18 : ∀ j, j < te → σ'.2.2.1 18 j = σ.2.2.1 18 j) (hte : te ≤ te') : evR S σ' te' q e m := by
  obtain ⟨g1, ⟨n, g2, g3⟩, g4, g5, nm, vs, g6, g7, g8, g9, g10, g11, g12⟩ := h
  refine ⟨g1, ⟨n, g2, by rw [hw 11 (by omega), hw 12 (by omega)]; exact g3⟩, g4, h9.trans g5, nm, vs, g6, g7, g8, g9, g10, g11, fun j hj => ?_⟩
  obtain ⟨⟨a, l, b1, b2, b3⟩, ⟨va, d2, d3⟩, d4⟩ := g12 j hj
  exact ⟨⟨a, l, b1, b2, by rw [h13 j hj]; exact b3⟩, ⟨va, d2, d3.on (fun y hy => ⟨rfl, rfl, rfl, rfl, rfl, rfl, fun _ _ => rfl⟩) (hr 14 j (by omega) hj) (hr 15 j (by omega) hj) (hr 16 j (by omega) hj) h18 hte⟩, d4⟩
end TLS
section TLP
variable {bk nr rc tp z : Nat} {bf : Nat → Nat} {G : Nat → Nat} {x k n w q L : Nat → Nat} {dp : Nat → Nat → Nat} {tr : (r c : Nat) → cT (dp r c)} {ud : Nat → Nat} {ut : (r : Nat) → Option (cT (ud r))}
theorem TL (hK7 : K7 G rc) (hz : z ≤ 2100) (hbf : ∀ j, j < z → bf j < 256) (hM : ∀ (σ : rf_S) (p : Nat), rdR σ p z → (∀ j, j < z → σ.2.2.1 1 j &&& 255 = nI (bf j)) → ∃ S0, rdJ S0 σ rc tp z p bf ∧ fs S0 ∧ cs_k S0 (G 0) = 20 ∧ cs_n S0 (G 0) = 0) : ∀ d p (σ : rf_S) (te nv ne na nl now : Nat) (pr lr le tm : Nat → Nat), z - p ≤ d → RS0 σ bk nr x k n w q L dp tr ud ut → RB σ bk nr n → RD σ bk nr x n w te nv ne na 0 nl now pr lr le tm → rdR σ p z → (∀ j, j < z → σ.2.2.1 1 j &&& 255 = nI (bf j)) → σ.1 20 = nI te → te + (z - p) ≤ 20000 → σ.1 5 = 0 → σ.1 7 = -1 →
    ∃ (σ1 : rf_S) (te1 nv1 ne1 na1 nl1 now1 : Nat) (pr1 lr1 le1 tm1 : Nat → Nat) (cnt c s : Nat), RS0 σ1 bk nr x k n w q L dp tr ud ut ∧ RB σ1 bk nr n ∧ RD σ1 bk nr x n w te1 nv1 ne1 na1 0 nl1 now1 pr1 lr1 le1 tm1 ∧ σ1.1 20 = nI te1 ∧ te1 ≤ te + (z - p) ∧ qF σ σ1 ∧
      (c : Int) + CB 1 5 1 3 2 gP σ1 nr na1 0 0 nl1 n pr1 lr1 le1 ≤ CB 1 5 1 3 2 gP σ nr na 0 0 nl n pr lr le + ((58 * (z - p) + 19 : Nat) : Int) ∧
      (s : Int) + CB 6 43 6 13 15 gT σ1 nr na1 0 0 nl1 n pr1 lr1 le1 ≤ CB 6 43 6 13 15 gT σ nr na 0 0 nl n pr lr le + ((600 * (z - p) + 247 : Nat) : Int) ∧
      (∀ (Q : Int32 → rf_S → Prop) (x1 : Int32), Q (x1 + nI cnt) σ1 → w_X12_take_35 Q (d + 1) σ x1) ∧
      ∀ (PX : Nat → Prop) (S0 : cs_S) (S : cs_S) (post : Int32 → cs_S → Prop) (mc ms u v xo wa rr lt tl kc : Nat) (x1 : Int32) (ra ev : Nat → Nat), CW PX S0 G S σ wa rr lt tl bk nr ra x k n w q L dp tr ud ut te ne na 0 0 nl now pr lr le tm ev → (PX xo ∧ PX rc ∧ PX tp ∧ PX (G 0) ∧ ∀ a, PX a → cs_k S a ≠ 5) → (cs_k S xo = 13 ∧ cs_r S 1205 xo = some rc ∧ cs_r S 1206 xo = some wa) → rdJ S σ rc tp z p bf → cs_i S 701 rc = -1 → cs_k S (G 0) = 20 ∧ cs_n S (G 0) = 0 → kc ≤ p → u + c ≤ mc → v + s ≤ ms →
        (∀ S' u' v' ev', u' ≤ mc → v' ≤ ms → CW PX S' G S' σ1 wa rr lt tl bk nr ra x k n w q L dp tr ud ut te1 ne1 na1 0 0 nl1 now1 pr1 lr1 le1 tm1 ev' → oF PX rc S S' ∧ (∀ a, cs_k S a ≠ 0 → cs_k S' a = cs_k S a ∧ cs_n S' a = cs_n S a) → σ1.1 5 = cs_i S' 700 rc → σ1.1 7 = cs_i S' 701 rc → w_X11_take_104 post G mc ms S' u' v' xo (x1 + nI cnt)) → w_X11_take_24 post G mc ms (d + 1) S u v xo x1 (nI kc) := by
  intro d
  have ends : ∀ d p (σ : rf_S) (te nv ne na nl now : Nat) (pr lr le tm : Nat → Nat), z ≤ p → RS0 σ bk nr x k n w q L dp tr ud ut → RB σ bk nr n → RD σ bk nr x n w te nv ne na 0 nl now pr lr le tm → rdR σ p z → σ.1 20 = nI te → σ.1 5 = 0 → σ.1 7 = -1 →
    ∃ (σ1 : rf_S) (te1 nv1 ne1 na1 nl1 now1 : Nat) (pr1 lr1 le1 tm1 : Nat → Nat) (cnt c s : Nat), RS0 σ1 bk nr x k n w q L dp tr ud ut ∧ RB σ1 bk nr n ∧ RD σ1 bk nr x n w te1 nv1 ne1 na1 0 nl1 now1 pr1 lr1 le1 tm1 ∧ σ1.1 20 = nI te1 ∧ te1 ≤ te + (z - p) ∧ qF σ σ1 ∧
      (c : Int) + CB 1 5 1 3 2 gP σ1 nr na1 0 0 nl1 n pr1 lr1 le1 ≤ CB 1 5 1 3 2 gP σ nr na 0 0 nl n pr lr le + ((58 * (z - p) + 19 : Nat) : Int) ∧
      (s : Int) + CB 6 43 6 13 15 gT σ1 nr na1 0 0 nl1 n pr1 lr1 le1 ≤ CB 6 43 6 13 15 gT σ nr na 0 0 nl n pr lr le + ((600 * (z - p) + 247 : Nat) : Int) ∧
      (∀ (Q : Int32 → rf_S → Prop) (x1 : Int32), Q (x1 + nI cnt) σ1 → w_X12_take_35 Q (d + 1) σ x1) ∧
      ∀ (PX : Nat → Prop) (S0 : cs_S) (S : cs_S) (post : Int32 → cs_S → Prop) (mc ms u v xo wa rr lt tl kc : Nat) (x1 : Int32) (ra ev : Nat → Nat), CW PX S0 G S σ wa rr lt tl bk nr ra x k n w q L dp tr ud ut te ne na 0 0 nl now pr lr le tm ev → (PX xo ∧ PX rc ∧ PX tp ∧ PX (G 0) ∧ ∀ a, PX a → cs_k S a ≠ 5) → (cs_k S xo = 13 ∧ cs_r S 1205 xo = some rc ∧ cs_r S 1206 xo = some wa) → rdJ S σ rc tp z p bf → cs_i S 701 rc = -1 → cs_k S (G 0) = 20 ∧ cs_n S (G 0) = 0 → kc ≤ p → u + c ≤ mc → v + s ≤ ms →
        (∀ S' u' v' ev', u' ≤ mc → v' ≤ ms → CW PX S' G S' σ1 wa rr lt tl bk nr ra x k n w q L dp tr ud ut te1 ne1 na1 0 0 nl1 now1 pr1 lr1 le1 tm1 ev' → oF PX rc S S' ∧ (∀ a, cs_k S a ≠ 0 → cs_k S' a = cs_k S a ∧ cs_n S' a = cs_n S a) → σ1.1 5 = cs_i S' 700 rc → σ1.1 7 = cs_i S' 701 rc → w_X11_take_104 post G mc ms S' u' v' xo (x1 + nI cnt)) → w_X11_take_24 post G mc ms (d + 1) S u v xo x1 (nI kc) := by
    intro d p σ te nv ne na nl now pr lr le tm hzp hS hB hD hR h20 h5 h7
    have epz : p = z := by have := hR.2.2.2; omega
    refine ⟨σ, te, nv, ne, na, nl, now, pr, lr, le, tm, 0, 0, 0, hS, hB, hD, h20, by omega, ⟨rfl, rfl, rfl, fun _ => rfl, fun _ _ _ => rfl, fun _ _ => rfl⟩, by omega, by omega, fun Q x1 h => ⟨fun _ => ?_, fun y => ?_⟩, fun PX S0 S post mc ms u v xo wa rr lt tl kc x1 ra ev hW hPX hxo hJ h701 hG0 hkc hu hv hpost => ?_⟩
    · have e0 : x1 + nI 0 = x1 := by simp [nI]
      rw [e0] at h; exact h
    · rw [hR.1, hR.2.1] at y
      exact absurd (nI_le (a := z) (b := p) (by omega) (by omega)) y
    · obtain ⟨⟨k1, k2, k3, k4, k5, k6, k7, k8⟩, -, k700, -⟩ := id hJ
      have e0 : x1 + nI 0 = x1 := by simp [nI]
      have fin : w_X11_take_104 post G mc ms S u v xo x1 := by
        have h9 := hpost S u v ev (by omega) (by omega) (hW.out (E := fun _ _ _ => False) fX.rfl (fun _ _ _ y => y.elim) (fun a ha => Or.inl ha)) ⟨oF.rfl, fun _ _ => ⟨rfl, rfl⟩⟩ (by rw [h5, k700]) (by rw [h7, h701])
        rw [e0] at h9; exact h9
      refine ⟨by omega, by omega, fun _ => fin, fun _ => ⟨hxo.1, fun r58 e58 => ⟨rc, e58.trans hxo.2.1, k1, k1, fun y => absurd k700 y, fun _ => ⟨fun _ => ⟨rfl, fun _ => fin, fun y => absurd rfl y⟩, fun y => ?_⟩⟩⟩⟩
      rw [k5, k6] at y
      exact absurd (nI_le (a := z) (b := p) (by omega) (by omega)) y
  induction d with
  | zero =>
    intro p σ te nv ne na nl now pr lr le tm hd hS hB hD hR ht h20 hte h5 h7
    exact ends 0 p σ te nv ne na nl now pr lr le tm (by omega) hS hB hD hR h20 h5 h7
  | succ d ih =>
    intro p σ te nv ne na nl now pr lr le tm hd hS hB hD hR ht h20 hte h5 h7
    by_cases hpz : z ≤ p
    · exact ends (d + 1) p σ te nv ne na nl now pr lr le tm hpz hS hB hD hR h20 h5 h7
    have hp : p < z := by omega
    have s4 := hS.2.2.2.1
    obtain ⟨bnl, bna, bns, bpr, blk⟩ := hD.bnd s4
    obtain ⟨⟨d1, d2, d3, d4, d5⟩, d6, d7, d8, d9, d10, d11, d12, d13, d14⟩ := id hD
    obtain ⟨Sm, hJm, hfs, hGm⟩ := hM σ p hR ht
    have nle : ¬ σ.1 3 ≤ σ.1 4 := by rw [hR.1, hR.2.1]; exact nI_ge hp (by omega)
    -- the class comes to the reading
    have enter : ∀ (PX : Nat → Prop) (S0 : cs_S) (S : cs_S) (post : Int32 → cs_S → Prop) (mc ms u v xo wa rr lt tl kc fu : Nat) (x1 : Int32) (ra ev : Nat → Nat), CW PX S0 G S σ wa rr lt tl bk nr ra x k n w q L dp tr ud ut te ne na 0 0 nl now pr lr le tm ev → (cs_k S xo = 13 ∧ cs_r S 1205 xo = some rc ∧ cs_r S 1206 xo = some wa) → rdJ S σ rc tp z p bf → kc ≤ p → u + 19 ≤ mc → v + 247 ≤ ms → wp_X6_readRecord (fun r71 S71 => (r71 = none → w_X11_take_104 post G mc ms S71 (u + 19) (v + 247) xo x1) ∧ (∀ b73, r71 = some b73 → cs_k S71 xo = 13 ∧ ∀ r75, r75 = cs_r S71 1206 xo → cs_k S71 b73 = 5 ∧ ∃ b77, r75 = some b77 ∧ cs_k S71 b77 = 12 ∧ ∃ m78 n78, u + 19 + m78 ≤ mc ∧ v + 247 + n78 ≤ ms ∧ wp_X10_advance (fun S78 => cs_k S78 xo = 13 ∧ ∀ r81, r81 = cs_r S78 1206 xo → ∃ b82, r81 = some b82 ∧ cs_k S78 b82 = 12 ∧ ∃ m83 n83, u + 19 + m78 + m83 ≤ mc ∧ v + 247 + n78 + n83 ≤ ms ∧ wp_X10_arrive (fun r83 S83 => (¬ r83 = 0 → w_X11_take_24 post G mc ms fu S83 (u + 19 + m78 + m83) (v + 247 + n78 + n83) xo (x1 + 1) (nI kc + 1)) ∧ (r83 = 0 → w_X11_take_104 post G mc ms S83 (u + 19 + m78 + m83) (v + 247 + n78 + n83) xo x1)) G m83 n83 S78 b82 (some b73)) G m78 n78 S71 b77 (cs_i S71 400 b73))) G 19 247 S rc (σ.1 22) (nI now) → w_X11_take_24 post G mc ms (fu + 1) S u v xo x1 (nI kc) := by
      intro PX S0 S post mc ms u v xo wa rr lt tl kc fu x1 ra ev hW hxo hJ hkc hu hv h
      obtain ⟨⟨k1, k2, k3, k4, k5, k6, k7, k8⟩, -, k700, -⟩ := id hJ
      obtain ⟨_, _, _, _, _, hSH, -⟩ := hW
      have kw := hSH.1.1
      have i1108 : cs_i S 1108 wa = nI now := hSH.2.1.2.2.2.2.1
      have i1109 : cs_i S 1109 wa = σ.1 22 := hSH.2.1.2.2.2.2.2
      refine ⟨by omega, by omega, fun y => absurd y (show ¬ (2100 : Int32) ≤ nI kc from nI_ge (a := kc) (b := 2100) (by omega) (by omega)), fun _ => ⟨hxo.1, fun r58 e58 => ⟨rc, e58.trans hxo.2.1, k1, k1, fun y => absurd k700 y, fun _ => ⟨fun y => ?_, fun _ => ⟨rfl, fun y => absurd y (by decide), fun _ => ⟨hxo.1, fun r63 e63 r64 e64 => ⟨wa, e64.trans hxo.2.2, kw, fun r67 e67 => ⟨wa, e67.trans hxo.2.2, kw, rc, e63.trans hxo.2.1, k1, 19, 247, hu, hv, ?_⟩⟩⟩⟩⟩⟩⟩⟩
      · rw [k5, k6] at y
        exact absurd y (nI_ge (by omega) (by omega))
      · rw [i1108, i1109]
        exact h
    rcases xrec hJm hfs hp hGm h20 (by omega) d5 rfl d4 with ⟨σa, p', te', m, tn, a1, a2, a3, a4, a5, a6, a7, a8, a9, a10, a11, a12, a13⟩ | ⟨σa, a1, a2, a3⟩
    · -- a record
      have ha5 : σa.1 5 = σ.1 5 := by
        obtain ⟨r, s, ⟨hr1, hs1⟩, h9, -⟩ := td_rec (P := fun r s => r = 1 ∧ s = σa) (a12 (fun r s => r = 1 ∧ s = σa) ⟨rfl, rfl⟩)
        rw [hs1] at h9
        exact h9 (by rw [hr1]; decide)
      have hE := a5.eb (nv := nv) d2 (Nat.le_refl te)
      have sgi : ∀ kk, kk ≠ 4 → kk ≠ 5 → kk ≠ 6 → kk ≠ 20 → kk ≠ 28 → kk ≠ 31 → σa.1 kk = σ.1 kk := a5.1
      have hDa := hD.eb2 hE (sgi 19 (by decide) (by decide) (by decide) (by decide) (by decide) (by decide)) (sgi 21 (by decide) (by decide) (by decide) (by decide) (by decide) (by decide)) (sgi 26 (by decide) (by decide) (by decide) (by decide) (by decide) (by decide)) (fun j => a5.2.2.1 25 j (by omega) (by omega) (by omega))
      have hSa := hS.er hE.er (sgi 32 (by decide) (by decide) (by decide) (by decide) (by decide) (by decide)) (sgi 33 (by decide) (by decide) (by decide) (by decide) (by decide) (by decide))
      have hBa : RB σa bk nr n := fun r' hr' i j hi hj he => hB r' hr' i j hi hj (by rw [hE.er.2 37 (by decide)] at he; exact he)
      have hte24 : te' ≤ 20000 := by omega
      have hm8 := a11.2.1
      obtain ⟨σb, nvb, neb, nab, nlb, prb, lrb, leb, tmb, cb, sb, b1, b2, b3, b4, b5, b6, b7, b8, b9⟩ := BC (t := tn) a4 48000 σa nv ne na nl now pr lr le tm (by have := (ovc_le (σ := σa) (nl := nl)).1; omega) a3 hSa hBa hDa
      have cba : ∀ {p0 p1 t mk kc : Nat} {gf : Nat → Nat}, CB p0 p1 t mk kc gf σa nr na 0 0 nl n pr lr le = CB p0 p1 t mk kc gf σ nr na 0 0 nl n pr lr le := fun {p0 p1 t mk kc gf} => CB.eb hE (fun j hj => by
        obtain ⟨c1, c2⟩ := blk j hj
        have := d11 (lr j) c1
        omega) (fun k _ y => absurd y (by omega))
      rw [cba] at b6 b7
      have f1b := b1.1
      have tapeb : ∀ j, j < z → σb.2.2.1 1 j &&& 255 = nI (bf j) := fun j hj => by
        rw [b1.2.2.1 1 j (by decide) (by decide) (by omega) (by omega) (by omega), a5.2.2.1 1 j (by omega) (by omega) (by omega)]
        exact ht j hj
      have rdb : rdR σb p' z := ⟨(f1b 3 (by decide) (by decide) (by decide) (by decide) (by omega)).trans a6.1, (f1b 4 (by decide) (by decide) (by decide) (by decide) (by omega)).trans a6.2.1, a6.2.2⟩
      have hneb : neb ≤ 4000 := b4.1.2.1
      have d1b := b4.1.1
      have h31b : σb.1 31 = nI tn := (f1b 31 (by decide) (by decide) (by decide) (by decide) (by omega)).trans a10
      have hspb : eW σb te' 4000 m := by
        obtain ⟨e1, e2, e3, e4⟩ := a11
        exact ⟨e1, e2, (b1.2.2.1 9 4000 (by decide) (by decide) (by omega) (by omega) (by omega)).trans e3, fun kk hkk => (e4 kk hkk).on (e4 kk hkk).1 (Nat.le_refl _) (b1.2.2.1 14 _ (by decide) (by decide) (by omega) (by omega) (by omega)) (b1.2.2.1 15 _ (by decide) (by decide) (by omega) (by omega) (by omega)) (b1.2.2.1 16 _ (by decide) (by decide) (by omega) (by omega) (by omega))⟩
      -- the class, as far as behind advance
      have toAdv : ∀ (PX : Nat → Prop) (S0 S1 : cs_S) (S : cs_S) (q0 wa rr lt tl : Nat) (ra ev : Nat → Nat) (post : cs_S → Prop), CW PX S0 G S σ wa rr lt tl bk nr ra x k n w q L dp tr ud ut te ne na 0 0 nl now pr lr le tm ev → cs_k S rc = 8 → rg rc S S1 → cs_k S q0 = 0 → (∀ vs, cs_r S1 404 q0 = some vs → cs_k S vs = 0) → evR S1 σa te' q0 4000 m → cs_i S1 400 q0 = nI tn → cs_i S1 402 q0 = -1 → (∀ S2 ev2, CW (fun a => PX a ∨ (cs_k S a = 0 ∧ (a = q0 ∨ cs_r S1 404 q0 = some a)) ∨ cs_k S1 a = 11 ∨ cs_k S1 a = 20 ∨ cs_k S1 a = 21) S1 G S2 σb wa rr lt tl bk nr ra x k n w q L dp tr ud ut te neb nab 0 0 nlb tn prb lrb leb tmb ev2 → evR S2 σb te' q0 4000 m → cs_i S2 400 q0 = nI tn → cs_i S2 402 q0 = -1 → (∀ vs, cs_r S2 404 q0 = some vs → cs_r S1 404 q0 = some vs ∧ cs_k S vs = 0) → post S2) → wp_X10_advance post G cb sb S1 wa (nI tn) := by
        intro PX S0 S1 S q0 wa rr lt tl ra ev post hW hrc hrg hq0 hvs hev h400 h402 hpost
        have k5 := hev.1
        have hF : fX (fun s f a => s = 0 ∧ a = rc) S S1 := fun a ha => by
          obtain ⟨g1, g2, g3, g4, g5, g6, g7, g8⟩ := hrg a ha
          exact ⟨g1, g2, fun f hf => g5 f (fun y => absurd ⟨rfl, y⟩ hf), fun f _ => g3 f, fun f _ => g4 f, fun j _ => g6 j, fun j _ => g7 j, fun j _ => g8 j⟩
        have hW1 := hW.out (P1 := fun a => PX a ∨ (cs_k S a = 0 ∧ (a = q0 ∨ cs_r S1 404 q0 = some a)) ∨ cs_k S1 a = 11 ∨ cs_k S1 a = 20 ∨ cs_k S1 a = 21) hF (fun s f a y => Or.inl (by rw [y.2]; exact hrc)) (fun a ha => by
          rcases ha with y | ⟨y1, y2⟩ | y
          · exact Or.inl y
          · refine Or.inr ⟨Or.inl y1, ?_⟩
            rcases y2 with y2 | y2
            · rw [y2]; omega
            · obtain ⟨-, -, -, -, nm, vs, -, -, -, g9, g10, -⟩ := id hev
              rw [g9] at y2
              cases y2
              omega
          · exact Or.inr ⟨Or.inr (by omega), by omega⟩)
        have hW2 := hW1.eb2 hS hD hE (sgi 22 (by decide) (by decide) (by decide) (by decide) (by decide) (by decide)) (sgi 23 (by decide) (by decide) (by decide) (by decide) (by decide) (by decide))
        refine ⟨_, b9 _ S1 G S1 post cb sb 0 0 wa rr lt tl 0 ra ev hW2 (by omega) (by omega) (by omega) (fun S2 ev2 hW3 => ?_)⟩
        have hWc := hW3
        obtain ⟨_, _, _, _, _, -, -, -, hFR⟩ := hWc
        have hP0 : PX q0 ∨ (cs_k S q0 = 0 ∧ (q0 = q0 ∨ cs_r S1 404 q0 = some q0)) ∨ cs_k S1 q0 = 11 ∨ cs_k S1 q0 = 20 ∨ cs_k S1 q0 = 21 := Or.inr (Or.inl ⟨hq0, Or.inl rfl⟩)
        obtain ⟨-, ⟨u1, -, u3, -⟩, -⟩ := hFR.2 q0 hP0
        have e2 := hev.fr hP0 (fun vs hv => Or.inr (Or.inl ⟨hvs vs hv, Or.inr hv⟩)) (fun a ha => Or.inr (Or.inr ha)) hFR
        refine hpost S2 ev2 hW3 (e2.rows (b1.2.2.1 9 4000 (by decide) (by decide) (by omega) (by omega) (by omega)) (fun kk hk => b1.2.2.2 kk 4000 (by omega) (by omega)) (fun j hj => b1.2.2.2 13 _ (by omega) (by omega)) (fun kk j hk hj => b1.2.2.1 kk _ (by omega) (by omega) (by omega) (by omega) (by omega)) (fun j _ => b1.2.2.1 18 j (by decide) (by decide) (by omega) (by omega) (by omega)) (Nat.le_refl _)) ((u3 400 (by omega)).1.trans h400) ((u3 402 (by omega)).1.trans h402) (fun vs hv => ?_)
        rw [(u3 404 (by omega)).2.2] at hv
        exact ⟨hv, hvs vs hv⟩
      have outS2 : ∀ (PX : Nat → Prop) (S S1 S2 : cs_S) (q0 : Nat) (Ow : Nat → Nat → Prop) (ev2 : Nat → Nat) (wl : List Nat), (∀ a, PX a → cs_k S a ≠ 0 ∧ cs_k S a ≠ 5) → rg rc S S1 → FR (fun a => PX a ∨ (cs_k S a = 0 ∧ (a = q0 ∨ cs_r S1 404 q0 = some a)) ∨ cs_k S1 a = 11 ∨ cs_k S1 a = 20 ∨ cs_k S1 a = 21) S1 S2 nr Ow neb ev2 wl → oF PX rc S S2 ∧ oF PX rc S1 S2 := fun PX S S1 S2 q0 Ow ev2 wl hl hrg hFR => by
        have h1 : oF PX rc S S1 := hrg.of (fun a ha => (hl a ha).1)
        have h2 : oF PX rc S1 S2 := hFR.of (fun a ha => Or.inl ha) (fun a ha => by have := (h1 a ha).1; have := (hl a ha).2; omega)
        exact ⟨h1.trans h2, h2⟩
      by_cases hfull : neb = 4000
      · -- one too many
        have hE0 : eB σb (rf_ui σb 20 (σ.1 20)) neb nvb te := ⟨fun kk hk => by rw [r1ui, if_neg (by omega)], fun _ _ _ _ _ _ _ _ => rfl, fun _ _ _ _ _ => rfl⟩
        have hV0 : eV σb (rf_ui σb 20 (σ.1 20)) := ⟨fun _ _ => rfl, rfl⟩
        have hD1 := b4.eb2 hE0 rfl rfl rfl (fun _ => rfl)
        have e0 : ∀ x1 : Int32, x1 + nI 0 = x1 := fun x1 => by simp [nI]
        refine ⟨rf_ui σb 20 (σ.1 20), te, nvb, neb, nab, nlb, tn, prb, lrb, leb, tmb, 0, 19 + cb, 247 + sb, b2.on hV0 rfl rfl, b3.ev hV0, hD1, by rw [r1ui, if_pos rfl]; exact h20, by omega, a5.qf.trans ((lF.tf b1).qf), ?_, ?_, fun Q x1 h => ⟨fun y => absurd y nle, fun _ => a12 _ ⟨fun _ => ?_, fun y => absurd y (by decide)⟩⟩, fun PX S0 S post mc ms u v xo wa rr lt tl kc x1 ra ev hW hPX hxo hJ h701 hG0 hkc hu hv hpost => ?_⟩
        · show ((19 + cb : Nat) : Int) + CB 1 5 1 3 2 gP σb nr nab 0 0 nlb n prb lrb leb ≤ _
          omega
        · show ((247 + sb : Nat) : Int) + CB 6 43 6 13 15 gT σb nr nab 0 0 nlb n prb lrb leb ≤ _
          omega
        · rw [a10]
          refine ⟨48002, b8 _ ⟨fun y => absurd (by rw [d1b, hfull]; rfl) y, fun _ => ?_⟩⟩
          rw [e0] at h; exact h
        · obtain ⟨⟨k1, k2, k3, k4, k5, k6, k7, k8⟩, -, k700, -⟩ := id hJ
          have hWc := hW
          obtain ⟨_, _, _, _, _, hSH, -, -, hFR0⟩ := hWc
          have kw := hSH.1.1
          have hl : ∀ a, PX a → cs_k S a ≠ 0 ∧ cs_k S a ≠ 5 := fun a ha => ⟨by have := (hFR0.2 a ha).1; have := (hFR0.2 a ha).2.1.1; omega, hPX.2.2.2.2 a ha⟩
          refine enter PX S0 S post mc ms u v xo wa rr lt tl kc (d + 1) x1 ra ev hW hxo hJ hkc (by omega) (by omega) (hK7 S _ _ _ k700 (a13 S _ hJ hG0 (fun q0 S1 c1 c2 c3 c4 c5 c6 c7 h7' => ⟨fun y => (nomatch y), fun b73 e73 => ?_⟩)))
          cases e73
          have hx1 := c2 xo (by omega)
          have hw1 := c2 wa (by omega)
          refine ⟨hx1.1.trans hxo.1, fun r75 e75 => ⟨c7.1, wa, (e75.trans (hx1.2.2.2.1 1206)).trans hxo.2.2, hw1.1.trans kw, cb, sb, by omega, by omega, ?_⟩⟩
          rw [c4]
          refine toAdv PX S0 S1 S q0 wa rr lt tl ra ev _ hW k1 c2 c3 c6 c7 c4 c5 (fun S2 ev2 hW3 g1 g2 g3 g4 => ?_)
          have hWd := hW3
          obtain ⟨_, Ow2, _, _, wl2, hSH2, -, -, hFR2⟩ := hWd
          obtain ⟨o1, o2⟩ := outS2 PX S S1 S2 q0 Ow2 ev2 wl2 hl c2 hFR2
          have ox := o1 xo hPX.1
          obtain ⟨-, ⟨-, -, u3, -⟩, -⟩ := hFR2.2 rc (Or.inl hPX.2.1)
          have k8' : cs_k S1 rc = 8 := (c2 rc (by omega)).1.trans k1
          have e700 : cs_i S2 700 rc = 0 := (u3 700 (by omega)).1.trans c1.2.2.1
          have e701 : cs_i S2 701 rc = -1 := ((u3 701 (by omega)).1.trans (h7' c1.2.2.1)).trans h701
          refine ⟨ox.1.trans hxo.1, fun r81 e81 => ⟨wa, (e81.trans (ox.2.2.2.2.1 1206)).trans hxo.2.2, hSH2.1.1, 0, 0, by omega, by omega, hSH2.1.1, fun y => ?_, fun _ => ⟨fun y => absurd rfl y, fun _ => ?_⟩⟩⟩
          · rw [hSH2.2.1.1, hfull] at y
            exact absurd y (by decide)
          · have hW4 := (hW3.eb2 b2 b4 hE0 rfl rfl).out (P1 := PX) (E := fun _ _ _ => False) fX.rfl (fun _ _ _ y => y.elim) (fun a ha => Or.inl (Or.inl ha))
            have h9 := hpost S2 (u + 19 + cb + 0) (v + 247 + sb + 0) ev2 (by omega) (by omega) hW4 ⟨o1, fun a ha => by
              obtain ⟨y1, y2, -⟩ := c2 a ha
              obtain ⟨y3, y4⟩ := hFR2.1 a (by omega)
              exact ⟨y3.trans y1, y4.trans y2⟩⟩ (by rw [e700]; show σb.1 5 = 0; rw [f1b 5 (by decide) (by decide) (by decide) (by decide) (by omega), ha5, h5]) (by rw [e701]; show σb.1 7 = -1; rw [f1b 7 (by decide) (by decide) (by decide) (by decide) (by omega), sgi 7 (by decide) (by decide) (by decide) (by decide) (by decide) (by decide), h7])
            rw [e0] at h9
            exact h9
      · -- it comes
        obtain ⟨σc, nvc, nec, nac, nlc, prc, lrc, lec, tmc, cc, sc, g1, g2, g3, g4, g5, g6, g7, g8, g9⟩ := AR b2 b3 b4 (by omega) hspb a8 (by omega) h31b
        have gi := g1.1
        obtain ⟨σ1, te1, nv1, ne1, na1, nl1, now1, pr1, lr1, le1, tm1, cnt, c, s, i1, i2, i3, i4, i5, i6, i7, i8, i9, i10⟩ := ih p' σc te' nvc nec nac nlc tn prc lrc lec tmc (by omega) g2 g3 g4 ⟨(gi 3 (by decide) (by decide) (by decide) (by decide) (by decide) (by omega)).trans rdb.1, (gi 4 (by decide) (by decide) (by decide) (by decide) (by decide) (by omega)).trans rdb.2.1, rdb.2.2⟩ (fun j hj => by
          rw [g1.2.2.1 1 j (by decide) (by decide) (by omega) (by omega) (by omega)]
          exact tapeb j hj) ((gi 20 (by decide) (by decide) (by decide) (by decide) (by decide) (by omega)).trans ((f1b 20 (by decide) (by decide) (by decide) (by decide) (by omega)).trans a7)) (by omega) ((gi 5 (by decide) (by decide) (by decide) (by decide) (by decide) (by omega)).trans ((f1b 5 (by decide) (by decide) (by decide) (by decide) (by omega)).trans (ha5.trans h5))) ((gi 7 (by decide) (by decide) (by decide) (by decide) (by decide) (by omega)).trans ((f1b 7 (by decide) (by decide) (by decide) (by decide) (by omega)).trans ((sgi 7 (by decide) (by decide) (by decide) (by decide) (by decide) (by decide)).trans h7)))
        have ec : ∀ x1 : Int32, x1 + 1 + nI cnt = x1 + nI (cnt + 1) := fun x1 => by rw [← nI_1, Int32.add_assoc, Int32.add_comm 1]
        refine ⟨σ1, te1, nv1, ne1, na1, nl1, now1, pr1, lr1, le1, tm1, cnt + 1, 19 + cb + cc + c, 247 + sb + sc + s, i1, i2, i3, i4, by omega, (a5.qf.trans (lF.tf b1).qf).trans (g1.qf.trans i6), by omega, by omega, fun Q x1 h => ⟨fun y => absurd y nle, fun _ => a12 _ ⟨fun _ => ?_, fun y => absurd y (by decide)⟩⟩, fun PX S0 S post mc ms u v xo wa rr lt tl kc x1 ra ev hW hPX hxo hJ h701 hG0 hkc hu hv hpost => ?_⟩
        · rw [a10]
          refine ⟨48002, b8 _ ⟨fun _ => ?_, fun y => absurd y ?_⟩⟩
          · have i4' : ∀ kk N, rf_n kk = N → N = 4001 → vp_in (nI neb) (rf_n kk) := fun kk N h1 h2 => by rw [h1, h2]; exact nI_in (by omega) (by decide)
            rw [d1b]
            refine ⟨i4' 8 _ rfl (by decide), i4' 10 _ rfl (by decide), ?_, i4' 11 _ rfl (by decide), ?_, i4' 12 _ rfl (by decide), ?_, i4' 9 _ rfl (by decide), ?_⟩
            · exact nI_in (c := 4000) (N := 4001) (by omega) (by decide)
            · exact nI_in (c := 4000) (N := 4001) (by omega) (by decide)
            · exact nI_in (c := 4000) (N := 4001) (by omega) (by decide)
            · have h9 := g8 Q (w_X12_take_35 Q (d + 1)) x1 (i9 Q (x1 + 1) (by rw [ec]; exact h))
              rw [d1b] at h9
              exact h9
          · rw [d1b]
            exact fun y => hfull ((nI_eq (a := neb) (b := 4000) (by omega) (by omega)).mp y)
        · obtain ⟨⟨k1, k2, k3, k4, k5, k6, k7, k8⟩, -, k700, kbf, ktp, -⟩ := id hJ
          have hWc := hW
          obtain ⟨_, _, _, _, _, hSH, -, -, hFR0⟩ := hWc
          have kw := hSH.1.1
          have hl : ∀ a, PX a → cs_k S a ≠ 0 ∧ cs_k S a ≠ 5 := fun a ha => ⟨by have := (hFR0.2 a ha).1; have := (hFR0.2 a ha).2.1.1; omega, hPX.2.2.2.2 a ha⟩
          refine enter PX S0 S post mc ms u v xo wa rr lt tl kc (d + 1) x1 ra ev hW hxo hJ hkc (by omega) (by omega) (hK7 S _ _ _ k700 (a13 S _ hJ hG0 (fun q0 S1 c1 c2 c3 c4 c5 c6 c7 h7' => ⟨fun y => (nomatch y), fun b73 e73 => ?_⟩)))
          cases e73
          have hx1 := c2 xo (by omega)
          have hw1 := c2 wa (by omega)
          refine ⟨hx1.1.trans hxo.1, fun r75 e75 => ⟨c7.1, wa, (e75.trans (hx1.2.2.2.1 1206)).trans hxo.2.2, hw1.1.trans kw, cb, sb, by omega, by omega, ?_⟩⟩
          rw [c4]
          refine toAdv PX S0 S1 S q0 wa rr lt tl ra ev _ hW k1 c2 c3 c6 c7 c4 c5 (fun S2 ev2 hW3 u1 u2 u3 u4 => ?_)
          have hWd := hW3
          obtain ⟨_, Ow2, _, _, wl2, hSH2, -, -, hFR2⟩ := hWd
          obtain ⟨o1, o2⟩ := outS2 PX S S1 S2 q0 Ow2 ev2 wl2 hl c2 hFR2
          have ox := o1 xo hPX.1
          have nq0 : ¬ PX q0 := fun y => (hl q0 y).1 c3
          refine ⟨ox.1.trans hxo.1, fun r81 e81 => ⟨wa, (e81.trans (ox.2.2.2.2.1 1206)).trans hxo.2.2, hSH2.1.1, cc, sc, by omega, by omega, ?_⟩⟩
          refine g9 _ S1 G S2 _ cc sc wa rr lt tl q0 ra ev2 hW3 (Or.inr (Or.inl ⟨c3, Or.inl rfl⟩)) u1 u2 u3 (fun vs hv => Or.inr (Or.inl ⟨(u4 vs hv).2, Or.inr (u4 vs hv).1⟩)) (Nat.le_refl _) (Nat.le_refl _) (fun S3 ev3 hW4 => ⟨fun _ => ?_, fun y => absurd y (by decide)⟩)
          have hWe := hW4
          obtain ⟨_, Ow3, _, _, wl3, -, -, -, hFR3⟩ := hWe
          have o3 : oF PX rc S1 S3 := hFR3.of (fun a ha => ⟨Or.inl ha, fun y => nq0 (by rw [← y]; exact ha)⟩) (fun a ha => by have := ((c2.of (PX := PX) (fun a ha => (hl a ha).1)) a ha).1; have := (hl a ha).2; omega)
          have o13 : oF PX rc S S3 := (c2.of (fun a ha => (hl a ha).1)).trans o3
          have frc := hFR3.2 rc ⟨Or.inl hPX.2.1, fun y => nq0 (by rw [← y]; exact hPX.2.1)⟩
          obtain ⟨-, ⟨-, -, v3, -⟩, -⟩ := frc
          have k8' : cs_k S1 rc = 8 := (c2 rc (by omega)).1.trans k1
          have i700 := (v3 700 (by omega)).1
          have i701 := (v3 701 (by omega)).1
          have i706 := (v3 706 (by omega)).1
          have orc := o13 rc hPX.2.1
          have otp := o13 tp hPX.2.2.1
          have og0 := o13 (G 0) hPX.2.2.2.1
          have hW5 := hW4.out (P1 := PX) (E := fun _ _ _ => False) fX.rfl (fun _ _ _ y => y.elim) (fun a ha => Or.inl ⟨Or.inl ha, fun y => nq0 (by rw [← y]; exact ha)⟩)
          have hJ3 : rdJ S3 σc rc tp z p' bf := by
            refine ⟨⟨orc.1.trans k1, (orc.2.2.2.2.1 704).trans k2, otp.1.trans k3, otp.2.1.trans k4, (orc.2.2.1 705 (fun _ => by decide)).trans k5, i706.trans c1.1.2.2.2.2.2.1, k7, a2⟩, ⟨(gi 3 (by decide) (by decide) (by decide) (by decide) (by decide) (by omega)).trans rdb.1, (gi 4 (by decide) (by decide) (by decide) (by decide) (by decide) (by omega)).trans rdb.2.1, rdb.2.2⟩, i700.trans c1.2.2.1, kbf, fun j hj => (otp.2.2.2.2.2.1 j).trans (ktp j hj), fun j hj => ?_⟩
            rw [g1.2.2.1 1 j (by decide) (by decide) (by omega) (by omega) (by omega)]
            exact tapeb j hj
          have ox3 := o13 xo hPX.1
          rw [nI_1]
          refine i10 PX S3 S3 post mc ms _ _ xo wa rr lt tl (kc + 1) (x1 + 1) ra ev3 hW5 ⟨hPX.1, hPX.2.1, hPX.2.2.1, hPX.2.2.2.1, fun a ha => by rw [(o13 a ha).1]; exact (hl a ha).2⟩ ⟨ox3.1.trans hxo.1, (ox3.2.2.2.2.1 1205).trans hxo.2.1, (ox3.2.2.2.2.1 1206).trans hxo.2.2⟩ hJ3 (i701.trans ((h7' c1.2.2.1).trans h701)) ⟨og0.1.trans hG0.1, og0.2.1.trans hG0.2⟩ (by omega) (by omega) (by omega) (fun S' u' v' ev' q1 q2 q3 q4 q5 q6 => ?_)
          rw [ec]
          exact hpost S' u' v' ev' q1 q2 q3 ⟨o13.trans q4.1, fun a ha => by
            obtain ⟨y1, y2, -⟩ := c2 a ha
            obtain ⟨y3, y4⟩ := hFR3.1 a (by omega)
            obtain ⟨y5, y6⟩ := q4.2 a (by omega)
            exact ⟨y5.trans (y3.trans y1), y6.trans (y4.trans y2)⟩⟩ q5 q6
    · -- no record
      have hE := a1.eb (nv := nv) d2 (Nat.le_refl te)
      have sgi : ∀ kk, kk ≠ 4 → kk ≠ 5 → kk ≠ 6 → kk ≠ 20 → kk ≠ 28 → kk ≠ 31 → σa.1 kk = σ.1 kk := a1.1
      have hE0 : eB σ (rf_ui (rf_ui σa 20 (σ.1 20)) 7 (σa.1 6)) ne nv te := ⟨fun kk hk => by rw [r1ui, if_neg (by omega), r1ui, if_neg (by omega)]; exact hE.1 kk hk, hE.2.1, hE.2.2⟩
      have si : ∀ kk, kk ≠ 4 → kk ≠ 5 → kk ≠ 6 → kk ≠ 7 → kk ≠ 20 → kk ≠ 28 → kk ≠ 31 → (rf_ui (rf_ui σa 20 (σ.1 20)) 7 (σa.1 6)).1 kk = σ.1 kk := fun kk h1 h2 h3 h3' h4 h5 h6 => by rw [r1ui, if_neg h3', r1ui, if_neg h4]; exact sgi kk h1 h2 h3 h4 h5 h6
      have hDa := hD.eb2 hE0 (si 19 (by decide) (by decide) (by decide) (by decide) (by decide) (by decide) (by decide)) (si 21 (by decide) (by decide) (by decide) (by decide) (by decide) (by decide) (by decide)) (si 26 (by decide) (by decide) (by decide) (by decide) (by decide) (by decide) (by decide)) (fun j => a1.2.2.1 25 j (by omega) (by omega) (by omega))
      have hSa := hS.er hE0.er (si 32 (by decide) (by decide) (by decide) (by decide) (by decide) (by decide) (by decide)) (si 33 (by decide) (by decide) (by decide) (by decide) (by decide) (by decide) (by decide))
      have hBa : RB (rf_ui (rf_ui σa 20 (σ.1 20)) 7 (σa.1 6)) bk nr n := fun r' hr' i j hi hj he => hB r' hr' i j hi hj (by rw [hE0.er.2 37 (by decide)] at he; exact he)
      have e0 : ∀ x1 : Int32, x1 + nI 0 = x1 := fun x1 => by simp [nI]
      have cba : ∀ {p0 p1 t mk kc : Nat} {gf : Nat → Nat}, CB p0 p1 t mk kc gf (rf_ui (rf_ui σa 20 (σ.1 20)) 7 (σa.1 6)) nr na 0 0 nl n pr lr le = CB p0 p1 t mk kc gf σ nr na 0 0 nl n pr lr le := fun {p0 p1 t mk kc gf} => CB.eb hE0 (fun j hj => by
        obtain ⟨c1, c2⟩ := blk j hj
        have := d11 (lr j) c1
        omega) (fun k _ y => absurd y (by omega))
      refine ⟨rf_ui (rf_ui σa 20 (σ.1 20)) 7 (σa.1 6), te, nv, ne, na, nl, now, pr, lr, le, tm, 0, 19, 247, hSa, hBa, hDa, by rw [r1ui, if_neg (by decide), r1ui, if_pos rfl]; exact h20, by omega, a1.qf, by rw [cba]; omega, by rw [cba]; omega, fun Q x1 h => ⟨fun y => absurd y nle, fun _ => a2 _ ⟨fun y => absurd rfl y, fun _ => ?_⟩⟩, fun PX S0 S post mc ms u v xo wa rr lt tl kc x1 ra ev hW hPX hxo hJ h701 hG0 hkc hu hv hpost => ?_⟩
      · rw [e0] at h; exact h
      · obtain ⟨⟨k1, k2, k3, k4, k5, k6, k7, k8⟩, -, k700, -⟩ := id hJ
        have hWc := hW
        obtain ⟨_, _, _, _, _, hSH, -, -, hFR0⟩ := hWc
        have hl : ∀ a, PX a → cs_k S a ≠ 0 := fun a ha => by have := (hFR0.2 a ha).1; have := (hFR0.2 a ha).2.1.1; omega
        refine enter PX S0 S post mc ms u v xo wa rr lt tl kc (d + 1) x1 ra ev hW hxo hJ hkc (by omega) (by omega) (a3 S _ hJ hG0 (fun S1 hb => ⟨fun _ => ?_, fun b73 e73 => (nomatch e73)⟩))
        obtain ⟨hrg, -, hb1, hb2, hb3⟩ := hb
        have hF : fX (fun s f a => s = 0 ∧ a = rc) S S1 := fun a ha => by
          obtain ⟨g1, g2, g3, g4, g5, g6, g7, g8⟩ := hrg a ha
          exact ⟨g1, g2, fun f hf => g5 f (fun y => absurd ⟨rfl, y⟩ hf), fun f _ => g3 f, fun f _ => g4 f, fun j _ => g6 j, fun j _ => g7 j, fun j _ => g8 j⟩
        have hW1 := (hW.out (P1 := PX) hF (fun s f a y => Or.inl (by rw [y.2]; exact k1)) (fun a ha => Or.inl ha)).eb2 hS hD hE0 (si 22 (by decide) (by decide) (by decide) (by decide) (by decide) (by decide) (by decide)) (si 23 (by decide) (by decide) (by decide) (by decide) (by decide) (by decide) (by decide))
        have h9 := hpost S1 (u + 19) (v + 247) ev (by omega) (by omega) hW1 ⟨hrg.of hl, fun a ha => ⟨(hrg a ha).1, (hrg a ha).2.1⟩⟩ (by rw [r1ui, if_neg (by decide), r1ui, if_neg (by decide)]; exact hb2) (by rw [r1ui, if_pos rfl]; exact hb3)
        rw [e0] at h9
        exact h9
end TLP
