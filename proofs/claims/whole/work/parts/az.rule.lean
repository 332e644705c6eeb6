/-! ===== the lacks of one rule that are due ===== -/
section BRS
variable {bk nr te nv ne nl now r : Nat} {x k n w q L : Nat → Nat} {dp : Nat → Nat → Nat} {tr : (r c : Nat) → cT (dp r c)} {ud : Nat → Nat} {ut : (r : Nat) → Option (cT (ud r))} {pr lr le tm : Nat → Nat}
/-- one of them -/
theorem BR1 {σ : rf_S} {na ns j0 f : Nat} (hr : r < nr) (hS : RS0 σ bk nr x k n w q L dp tr ud ut) (hD : RD σ bk nr x n w te nv ne na ns nl now pr lr le tm) (hQ : SQ σ nr pr 0 ns) (hj : j0 < nl) (hjr : lr j0 = r) (h0 : σ.2.2.1 71 j0 = 0) (hf : f ≤ le j0) (h63 : σ.2.2.1 63 (4000 * r + le j0) = nI f) :
    ∃ (σ' : rf_S) (na' ns' c s : Nat), gE σ σ' ∧ RS0 σ' bk nr x k n w q L dp tr ud ut ∧ RD σ' bk nr x n w te nv ne na' ns' nl now pr lr le tm ∧ SQ σ' nr pr 0 ns' ∧ ns ≤ ns' ∧ (∀ j, σ'.2.2.1 71 j = if j = j0 then 1 else σ.2.2.1 71 j) ∧
      (c : Int) + CB 1 5 1 3 2 gP σ' nr na' ns' 0 nl n pr lr le ≤ CB 1 5 1 3 2 gP σ nr na ns 0 nl n pr lr le ∧ (s : Int) + CB 6 43 6 13 15 gT σ' nr na' ns' 0 nl n pr lr le ≤ CB 6 43 6 13 15 gT σ nr na ns 0 nl n pr lr le ∧
      (∀ Q : rf_S → Prop, Q σ' → wp_X12_finds Q (rf_ua σ 71 j0 1) (nI r) (nI (le j0)) (nI now) (nI (le j0))) ∧
      ∀ (P0 : Nat → Prop) (S0 : cs_S) (G : Nat → Nat) (S : cs_S) (post : cs_S → Prop) (mc ms wa rr lt tl ed : Nat) (ra ev al : Nat → Nat) (ko : Nat → Nat → Nat) (Ow : Nat → Nat → Prop) (wl : List Nat), SHR G S (rf_ua σ 71 j0 1) wa rr lt tl bk nr ra n te ne na ns 0 now pr tm ev ko Ow al ed wl → (∀ r, r < nr → CR S (rf_ua σ 71 j0 1) (Ow r) r (ra r) bk (x r) (k r) (n r) (w r) (q r) (L r) (dp r) (tr r) (ud r) (ut r) tm ev (ko r) nl lr le now (pr r)) → (∀ r r' a, r < nr → r' < nr → Ow r a → Ow r' a → r = r') → FR P0 S0 S nr Ow ne ev wl → c ≤ mc → s ≤ ms → (∀ S', CW P0 S0 G S' σ' wa rr lt tl bk nr ra x k n w q L dp tr ud ut te ne na' ns' 0 nl now pr lr le tm ev → post S') → wp_X10_tell post G mc ms S wa (some (ra r)) (some (ko r f)) (nI now) (some (ev (le j0))) (nI (le j0)) := by
  obtain ⟨s1, s2, s3, s4, s5⟩ := id hS
  obtain ⟨bnl, bna, bns, bpr, blk⟩ := hD.bnd s4
  obtain ⟨⟨d1, d2, d3, d4, d5⟩, d6, d7, -, -, d10, d11, d12, d13, d14⟩ := id hD
  obtain ⟨b1, b2⟩ := blk j0 hj
  rw [hjr] at b2
  have hp4 := bpr r hr
  have hprn := d11 r hr
  obtain ⟨jp, jK, j63, jB, F, jF, jF2, jH⟩ := d10.1 r hr
  have h69 : σ.2.2.1 69 j0 = nI r := by rw [← hjr]; exact (d10.2.1.2.2 j0 hj).2.2.1
  have hl : l71 σ (rf_ua σ 71 j0 1) := l71.rfl.ua
  have hE0 : eV σ (rf_ua σ 71 j0 1) := hl.ge.ev
  have r3 := hl.2.2.1
  have hS0 : RS0 (rf_ua σ 71 j0 1) bk nr x k n w q L dp tr ud ut := hS.on hE0 rfl rfl
  have hD0 : RD (rf_ua σ 71 j0 1) bk nr x n w te nv ne na ns nl now pr lr le tm := hD.ov
  have hw0 : 0 ≤ wct (rf_ua σ 71 j0 1) r nl := sS_nn (fun _ => by decide) nl
  have hw1 := wct_ov h69 h0 hj
  have hsl : slk (rf_ua σ 71 j0 1) r (pr r - 1) nl := ⟨F, by rw [r3 67 (by decide)]; exact jF, by omega⟩
  have hK0 : KfO σ r (pr r) f := by
    have h1 := (hD.ky hr).1 (le j0) b2 (fun z => by rw [h63] at z; exact absurd z (nI_m f (by omega)))
    have : kfO σ r (le j0) = f := by unfold kfO; rw [h63, nI_clamp (by omega)]
    rw [this] at h1
    exact h1
  have hK1 : KfO (rf_ua σ 71 j0 1) r (pr r) f := ⟨hK0.1, by rw [r3 63 (by decide)]; exact hK0.2⟩
  have h63' : (rf_ua σ 71 j0 1).2.2.1 63 (4000 * r + le j0) = nI f := by rw [r3 63 (by decide)]; exact h63
  obtain ⟨jH1, hh, jH2, jH3⟩ := jH f (by omega)
  have hF4 : F ≤ 4000 := by omega
  have h66' : (rf_ua σ 71 j0 1).2.2.1 66 (4000 * r + f) = nI hh := by rw [r3 66 (by decide)]; exact jH3
  have i78 : (rf_ua σ 71 j0 1).1 78 = nI na := d10.2.2.1
  have i83 : (rf_ua σ 71 j0 1).1 83 = nI ns := d10.2.2.2.2.1
  have q71 : ∀ j, (rf_ua σ 71 j0 1).2.2.1 71 j = if j = j0 then 1 else σ.2.2.1 71 j := fun j => by
    rw [r3ua]
    by_cases c : j = j0
    · rw [if_pos ⟨rfl, c⟩, if_pos c]
    · rw [if_neg (fun z => c z.2), if_neg c]
  have hruW := (s5 r hr).1
  -- told
  obtain ⟨f1, f2, f3, f4, f5, f6, f7, f8, f9, -⟩ := fnA_r (σ := rf_ua σ 71 j0 1) (r := r) (e := le j0) (t := now) (s := le j0) (kk := 4000 * r + f) (h := hh) (na := na) (ns := ns)
  have hDA : RD (fnA (rf_ua σ 71 j0 1) r (le j0) now (le j0) (4000 * r + f) hh na ns) bk nr x n w te nv ne (na + 1) (ns + 1) nl now pr lr le tm := by
    refine hD0.fnd hr hsl (by omega) hK1 fnA_g (fun kk hk => f1 kk (by omega) (by omega) (by omega) (by omega)) f4 (fun j => ?_) (fun j => ?_) (f5 72 (by decide) (by decide)) f6 (Nat.le_refl _) f7 (Nat.le_refl _)
    · rw [f2]
      by_cases c : j = 4000 * r + f
      · rw [if_pos c]; exact Or.inr ⟨c, now, d5, rfl⟩
      · rw [if_neg c]; exact Or.inl rfl
    · rw [f3]
      by_cases c : j = 4000 * r + f
      · rw [if_pos c]; exact Or.inr ⟨c, Or.inl rfl⟩
      · rw [if_neg c]; exact Or.inl rfl
  obtain ⟨-, bna', bns', -⟩ := hDA.bnd s4
  have rf : ∀ Q : rf_S → Prop, (hsh (rf_ua σ 71 j0 1) (4000 * r + f) now (q r) → Q (fnH (rf_ua σ 71 j0 1) r (4000 * r + f) hh)) → (¬ hsh (rf_ua σ 71 j0 1) (4000 * r + f) now (q r) → Q (fnA (rf_ua σ 71 j0 1) r (le j0) now (le j0) (4000 * r + f) hh na ns)) → wp_X12_finds Q (rf_ua σ 71 j0 1) (nI r) (nI (le j0)) (nI now) (nI (le j0)) := fun Q h1 h2 => rfn (b := 12 * bk + r) (bk := bk) s1 s2 (by omega) rfl (by omega) (by omega) (by omega) d5 h63' (by rw [r3 65 (by decide)]; exact jH1) (by rw [hE0.1 45 (by decide)]; exact hruW.2.2.2.2.2.2.2.1) hruW.2.2.2.2.2.2.2.2.1 h66' (by omega) i78 (by omega) i83 (by omega) h1 h2
  by_cases hs : hsh (rf_ua σ 71 j0 1) (4000 * r + f) now (q r)
  · obtain ⟨g1, g2, g3, g4, g5⟩ := fnH_r (σ := rf_ua σ 71 j0 1) (r := r) (kk := 4000 * r + f) (h := hh)
    have hDH : RD (fnH (rf_ua σ 71 j0 1) r (4000 * r + f) hh) bk nr x n w te nv ne na ns nl now pr lr le tm := by
      refine hD0.fnd hr hsl (by omega) hK1 fnH_g (fun kk hk => g1 kk (by omega) (by omega)) g3 (fun j => ?_) (fun j => ?_) (g4 72 (by decide)) ((g4 78 (by decide)).trans i78) (by omega) ((g4 83 (by decide)).trans i83) (by omega)
      · rw [g1 65 (by decide) (by decide)]; exact Or.inl rfl
      · rw [g2]
        by_cases c : j = 4000 * r + f
        · rw [if_pos c, c, h66']; exact Or.inr ⟨rfl, Or.inr (nI_1 hh).symm⟩
        · rw [if_neg c]; exact Or.inl rfl
    have hE1 : eV (rf_ua σ 71 j0 1) (fnH (rf_ua σ 71 j0 1) r (4000 * r + f) hh) := fnH_g.ev
    refine ⟨fnH (rf_ua σ 71 j0 1) r (4000 * r + f) hh, na, ns, 0, 0, hl.ge.trans fnH_g, hS0.on hE1 (g4 32 (by decide)) (g4 33 (by decide)), hDH, fun kk z1 z2 => ?_, Nat.le_refl _, fun j => by rw [g1 71 (by decide) (by decide)]; exact q71 j, ?_, ?_, fun Q hQ' => rf Q (fun _ => hQ') (fun z => absurd hs z), fun P0 S0 G S post mc ms wa rr lt tl ed ra ev al ko Ow wl hSH hCR hdis hFR hc hms hpost => ?_⟩
    · obtain ⟨r', e', f', t1, t2, t3, t4, t5, t6⟩ := hQ kk z1 z2
      exact ⟨r', e', f', t1, by rw [g1 81 (by decide) (by decide), r3 81 (by decide)]; exact t2, by rw [g1 82 (by decide) (by decide), r3 82 (by decide)]; exact t3, t4, t5, by rw [g1 63 (by decide) (by decide), r3 63 (by decide)]; exact t6⟩
    · have h1 := CB.ov (p0 := 1) (p1 := 5) (t := 1) (mk := 3) (kc := 2) (gf := gP) (nr := nr) (na := na) (ns := ns) (ks := 0) (n := n) (pr := pr) (lr := lr) (le := le) hj h0
      rw [CB.hush]
      omega
    · have h1 := CB.ov (p0 := 6) (p1 := 43) (t := 6) (mk := 13) (kc := 15) (gf := gT) (nr := nr) (na := na) (ns := ns) (ks := 0) (n := n) (pr := pr) (lr := lr) (le := le) hj h0
      rw [CB.hush]
      omega
    · exact TT hSH hCR hdis hFR hS0 hD0 hr b2 h63' hf hK1 (by omega) h66' (fun z => absurd hs z) (fun _ S' hW => hpost S' hW) (fun z => absurd hs z)
  · have hE1 : eV (rf_ua σ 71 j0 1) (fnA (rf_ua σ 71 j0 1) r (le j0) now (le j0) (4000 * r + f) hh na ns) := fnA_ev
    have c1 := CB.lack (σ := σ) (p0 := 1) (p1 := 5) (t := 1) (mk := 3) (kc := 2) (gf := gP) (gg := gC) (Mc := fun _ => 3) (nr := nr) (na := na) (ns := ns) (ks := 0) (n := n) (pr := pr) (lr := lr) (le := le) (now := now) (s := le j0) (f0 := f) (hh := hh) hj h0 (by omega) (by omega) (by omega) (fun i hi => (cpF_a i hi).2.2.2.1) (Nat.le_refl _)
    have c2 := CB.lack (σ := σ) (p0 := 6) (p1 := 43) (t := 6) (mk := 13) (kc := 15) (gf := gT) (gg := gS) (Mc := fun i => 2 * i + 7) (nr := nr) (na := na) (ns := ns) (ks := 0) (n := n) (pr := pr) (lr := lr) (le := le) (now := now) (s := le j0) (f0 := f) (hh := hh) hj h0 (by omega) (by omega) (by omega) (fun i hi => (cpF_a i hi).2.2.2.2) (by have := (s5 (lr j0) b1).1.2.2.2.1; show 2 * n (lr j0) + 7 ≤ 13; omega)
    rw [hjr] at c1 c2
    refine ⟨fnA (rf_ua σ 71 j0 1) r (le j0) now (le j0) (4000 * r + f) hh na ns, na + 1, ns + 1, (if na < 500 then 1 + gC na else 0) + (if σ.2.2.1 10 (le j0) = -1 then 3 else 0), (if na < 500 then 6 + gS na else 0) + (if σ.2.2.1 10 (le j0) = -1 then 2 * n r + 7 else 0), hl.ge.trans fnA_g, hS0.on hE1 (f5 32 (by decide) (by decide)) (f5 33 (by decide) (by decide)), hDA, fun kk z1 z2 => ?_, by omega, fun j => by rw [f1 71 (by decide) (by decide) (by decide) (by decide)]; exact q71 j, c1, c2, fun Q hQ' => rf Q (fun z => absurd z hs) (fun _ => hQ'), fun P0 S0 G S post mc ms wa rr lt tl ed ra ev al ko Ow wl hSH hCR hdis hFR hc hms hpost => ?_⟩
    · have e63 : (fnA (rf_ua σ 71 j0 1) r (le j0) now (le j0) (4000 * r + f) hh na ns).2.2.1 63 = σ.2.2.1 63 := (f1 63 (by decide) (by decide) (by decide) (by decide)).trans (r3 63 (by decide))
      by_cases c : kk = ns
      · exact ⟨r, le j0, f, hr, by rw [f8, if_pos c], by rw [f9, if_pos c], b2, hf, by rw [e63]; exact h63⟩
      · obtain ⟨r', e', f', t1, t2, t3, t4, t5, t6⟩ := hQ kk z1 (by omega)
        exact ⟨r', e', f', t1, by rw [f8, if_neg c, r3 81 (by decide)]; exact t2, by rw [f9, if_neg c, r3 82 (by decide)]; exact t3, t4, t5, by rw [e63]; exact t6⟩
    · exact TT hSH hCR hdis hFR hS0 hD0 hr b2 h63' hf hK1 (by omega) h66' (fun _ => by rw [hE0.1 10 (by decide)]; exact ⟨hc, hms⟩) (fun z => absurd z hs) (fun _ S' hW => hpost S' hW)
theorem BR (hr : r < nr) : ∀ d kk (σ : rf_S) (na ns : Nat), kk + d = nl → RS0 σ bk nr x k n w q L dp tr ud ut → RD σ bk nr x n w te nv ne na ns nl now pr lr le tm → SQ σ nr pr 0 ns → (∀ j, j < kk → lr j = r → σ.2.2.1 71 j = 0 → tm (le j) + w r ≠ now) →
    ∃ (σ1 : rf_S) (na1 ns1 c s : Nat), gE σ σ1 ∧ RS0 σ1 bk nr x k n w q L dp tr ud ut ∧ RD σ1 bk nr x n w te nv ne na1 ns1 nl now pr lr le tm ∧ SQ σ1 nr pr 0 ns1 ∧ ns ≤ ns1 ∧ (∀ j, j < nl → σ1.2.2.1 71 j = 1 ∨ σ1.2.2.1 71 j = σ.2.2.1 71 j) ∧ (∀ j, j < nl → lr j = r → σ1.2.2.1 71 j = 0 → tm (le j) + w r ≠ now) ∧
      (c : Int) + CB 1 5 1 3 2 gP σ1 nr na1 ns1 0 nl n pr lr le ≤ CB 1 5 1 3 2 gP σ nr na ns 0 nl n pr lr le ∧ (s : Int) + CB 6 43 6 13 15 gT σ1 nr na1 ns1 0 nl n pr lr le ≤ CB 6 43 6 13 15 gT σ nr na ns 0 nl n pr lr le ∧
      (∀ (Q : rf_S → Prop) (k2 : rf_S → Int32 → Int32 → Prop) (k85 : rf_S → Int32 → Int32 → Int64 → Int32 → Prop) (x1 x2 : Int32), k85 σ1 x1 x2 (Int64.ofNat now) (nI (r + 1)) → w_X12_become_97 Q k2 k85 (d + 1) σ x1 x2 (Int64.ofNat now) (nI r) (nI kk)) ∧
      ∀ (P0 : Nat → Prop) (S0 : cs_S) (G : Nat → Nat) (S : cs_S) (post : cs_S → Prop) (K : Option Nat → cs_S → Prop) (mc ms u v wa rr lt tl kc fu : Nat) (ra ev : Nat → Nat), (∀ r25 S25, w_X10_tellLacks_9 post G mc ms fu S25 u v wa (some (ra r)) (nI now) r25 (nI kc) → K r25 S25) → CW P0 S0 G S σ wa rr lt tl bk nr ra x k n w q L dp tr ud ut te ne na ns 0 nl now pr lr le tm ev → u + c ≤ mc → v + s ≤ ms → (∀ j, kk ≤ j → j < nl → lr j = r → kc ≤ le j) → d < fu → (∀ S', CW P0 S0 G S' σ1 wa rr lt tl bk nr ra x k n w q L dp tr ud ut te ne na1 ns1 0 nl now pr lr le tm ev → post S') → wp_X7_takeDue K G S (ra r) (nI now) := by
  intro d
  induction d with
  | zero =>
    intro kk σ na ns hkk hS hD hQ hno
    have s4 := hS.2.2.2.1
    obtain ⟨bnl, -⟩ := hD.bnd s4
    have d5 := hD.1.2.2.2.2
    have d13 := hD.2.2.2.2.2.2.2.2.1
    have e72 := hD.2.2.2.2.2.1.2.1.1
    refine ⟨σ, na, ns, 0, 0, gE.rfl, hS, hD, hQ, Nat.le_refl _, fun _ _ => Or.inr rfl, fun j hj => hno j (by omega), by omega, by omega, fun Q k2 k85 x1 x2 h => ⟨fun _ => by rw [nI_1]; exact h, fun z => ?_⟩, fun P0 S0 G S post K mc ms u v wa rr lt tl kc fu ra ev hK hW hu hv hkc hfu hpost => ?_⟩
    · rw [e72] at z
      exact absurd (nI_le (a := nl) (b := kk) (by omega) (by omega)) z
    · obtain ⟨fu, rfl⟩ : ∃ j', fu = j' + 1 := ⟨fu - 1, by omega⟩
      refine CWtk (due := now) hW hS hD hr (by omega) (fun j h1 h2 h3 => by have := d13 j h1 h3; rw [h2] at this; exact this) (fun S' hW' _ => hK _ _ ⟨by omega, by omega, fun _ => ⟨by omega, by omega, hpost S' hW'⟩, fun _ => ⟨fun _ => ⟨by omega, by omega, hpost S' hW'⟩, fun b z => (nomatch z)⟩⟩) (fun S' j en ko Ow al ed wl f0 h1 h2 h3 h4 => ?_)
      exact absurd h4 (hno j (by omega) h2 h3)
  | succ d ih =>
    intro kk σ na ns hkk hS hD hQ hno
    obtain ⟨s1, s2, s3, s4, s5⟩ := id hS
    obtain ⟨bnl, bna, bns, bpr, blk⟩ := hD.bnd s4
    obtain ⟨⟨d1, d2, d3, d4, d5⟩, d6, d7, -, -, d10, d11, d12, d13, d14⟩ := id hD
    obtain ⟨c1, c2, c3, c4, c5, f, c6, c7⟩ := d10.2.1.2.2 kk (by omega)
    have hle4 := bpr (lr kk) c1
    have cks : (nI kk).toNatClampNeg = kk := nI_clamp (by omega)
    have nle : ¬ σ.1 72 ≤ nI kk := by rw [d10.2.1.1]; exact nI_ge (by omega) (by omega)
    have i71 : vp_in (nI kk) (rf_n 71) := nI_in (N := 48000) (by omega) (by decide)
    have i69 : vp_in (nI kk) (rf_n 69) := nI_in (N := 48000) (by omega) (by decide)
    have i70 : vp_in (nI kk) (rf_n 70) := nI_in (N := 48000) (by omega) (by decide)
    have hL : lkW σ nl ne nr lr le := ⟨d10.2.1.1, bnl, fun j hj => by
      obtain ⟨l1, l2, l3, l4, l5, -⟩ := d10.2.1.2.2 j hj
      have := d11 (lr j) l1
      exact ⟨l1, by omega, l3, l4, l5⟩⟩
    have hdue : ∀ Q : Int64 → rf_S → Prop, Q (Int64.ofNat (tm (le kk) + w (lr kk))) σ → wp_X12_due Q σ (nI kk) := fun Q h => rdu s1 s2 hL s4 d2 (by omega) (fun o ho => ⟨(d6 o ho).2.1, by have := (d6 o ho).2.2.1; omega⟩) (fun r' hr' => ⟨(s5 r' hr').1.2.2.2.2.1, (s5 r' hr').1.2.2.2.2.2.2.1⟩) h
    have htk : tm (le kk) ≤ now := (d6 (le kk) (by have := d11 (lr kk) c1; omega)).2.2.1
    have hwk : w (lr kk) ≤ 1000000 := (s5 (lr kk) c1).1.2.2.2.2.2.2.1
    by_cases htake : σ.2.2.1 71 kk = 0 ∧ lr kk = r ∧ tm (le kk) + w r = now
    · obtain ⟨t1, t2, t3⟩ := htake
      rw [t2] at c7
      obtain ⟨σ', na', ns', c0, s0, m1, m2, m3, m4, m5, m6, m7, m8, m9, m10⟩ := BR1 hr hS hD hQ (by omega) t2 t1 c6 c7
      obtain ⟨σ1, na1, ns1, c, s, j1, j2, j3, j4, j5, j6, j7, j8, j9, j10, j11⟩ := ih (kk + 1) σ' na' ns' (by omega) m2 m3 m4 (fun j h1 h2 h3 => by
        rw [m6] at h3
        by_cases cj : j = kk
        · rw [if_pos cj] at h3; exact absurd h3 (by decide)
        · rw [if_neg cj] at h3; exact hno j (by omega) h2 h3)
      refine ⟨σ1, na1, ns1, c0 + c, s0 + s, m1.trans j1, j2, j3, j4, by omega, fun j hj => ?_, j7, by omega, by omega, fun Q k2 k85 x1 x2 h => ⟨fun z => absurd z nle, fun _ => ⟨i71, fun z => ?_, fun _ => ⟨i69, fun z => ?_, fun _ => hdue _ ⟨fun _ => ⟨i71, i70, i70, ?_⟩, fun z => ?_⟩⟩⟩⟩, fun P0 S0 G S post K mc ms u v wa rr lt tl kc fu ra ev hK hW hu hv hkc hfu hpost => ?_⟩
      · rcases j6 j hj with z | z
        · exact Or.inl z
        · rw [z, m6]
          by_cases cj : j = kk
          · rw [if_pos cj]; exact Or.inl rfl
          · rw [if_neg cj]; exact Or.inr rfl
      · rw [cks] at z; exact absurd t1 z
      · rw [cks, c3, t2] at z; exact absurd rfl z
      · rw [cks, c4, d4]
        refine m9 _ ?_
        show w_X12_become_97 Q k2 k85 (d + 1) σ' x1 x2 (Int64.ofNat now) (nI r) (nI kk + 1)
        rw [nI_1]
        exact j10 Q k2 k85 x1 x2 h
      · rw [t2, t3] at z
        exact absurd (lg_eq.mpr rfl) z
      · obtain ⟨fu, rfl⟩ : ∃ j', fu = j' + 1 := ⟨fu - 1, by omega⟩
        refine CWtk (due := now) hW hS hD hr (by omega) (fun j h1 h2 h3 => by have := d13 j h1 h3; rw [h2] at this; exact this) (fun S' hW' hn => absurd t3 (hn kk (by omega) t2 t1)) (fun S' j en ko Ow al ed wl f0 h1 h2 h3 h4 h5 h6 hSH hCR hdis hFR ken r300 r301 hK0 h63 hf0 => ?_)
        have hjk : j = kk := by
          by_cases cj : j < kk
          · exact absurd h4 (hno j cj h2 h3)
          · by_cases cj2 : kk < j
            · have e1 := h6 kk j cj2 h1 t2 h2
              have e2 := h5 kk (by omega) t2 t1
              omega
            · omega
        subst hjk
        have eff : f0 = f := by
          rw [h63] at c7
          exact (nI_eq (by omega) (by omega)).mp c7
        subst eff
        have hkc' := hkc j (Nat.le_refl _) h1 h2
        rw [t2] at c2
        have hpr4 := bpr r hr
        have hev := hSH.2.2.1 (le j) (by have := d11 r hr; omega)
        have kw : cs_k S' wa = 12 := hSH.1.1
        refine hK _ _ ⟨by omega, by omega, fun z => absurd z (show ¬ (4000 : Int32) ≤ nI kc from nI_ge (a := kc) (b := 4000) (by omega) (by omega)), fun _ => ⟨fun z => (nomatch z), fun b15 e15 => ?_⟩⟩
        cases e15
        refine ⟨ken, fun r17 e17 r18 e18 r19 e19 => ⟨ev (le j), e19.trans r300, hev.1.choose_spec.1, kw, c0, s0, by omega, by omega, ?_⟩⟩
        rw [hev.2.2.1, e17, r301, e18, r300]
        refine m10 P0 S0 G S' _ c0 s0 wa rr lt tl ed ra ev al ko Ow wl hSH hCR hdis hFR (Nat.le_refl _) (Nat.le_refl _) (fun S'' hW'' => ⟨ra r, rfl, ?_, ?_⟩)
        · obtain ⟨_, _, _, _, _, _, hCR'', -⟩ := hW''
          exact (hCR'' r hr).1.1
        · rw [nI_1]
          exact j11 P0 S0 G S'' post _ mc ms (u + c0) (v + s0) wa rr lt tl (kc + 1) fu ra ev (fun _ _ z => z) hW'' (by omega) (by omega) (fun j' z1 z2 z3 => by have := h6 j j' (by omega) z2 h2 z3; omega) (by omega) hpost
    · obtain ⟨σ1, na1, ns1, c, s, j1, j2, j3, j4, j5, j6, j7, j8, j9, j10, j11⟩ := ih (kk + 1) σ na ns (by omega) hS hD hQ (fun j h1 h2 h3 => by
        by_cases cj : j = kk
        · rw [cj] at h2 h3 ⊢
          exact fun z => htake ⟨h3, h2, z⟩
        · exact hno j (by omega) h2 h3)
      have nxt : ∀ (Q : rf_S → Prop) (k2 : rf_S → Int32 → Int32 → Prop) (k85 : rf_S → Int32 → Int32 → Int64 → Int32 → Prop) (x1 x2 : Int32), k85 σ1 x1 x2 (Int64.ofNat now) (nI (r + 1)) → w_X12_become_97 Q k2 k85 (d + 1) σ x1 x2 (Int64.ofNat now) (nI r) (nI kk + 1) := fun Q k2 k85 x1 x2 h => by
        rw [nI_1]; exact j10 Q k2 k85 x1 x2 h
      refine ⟨σ1, na1, ns1, c, s, j1, j2, j3, j4, j5, j6, j7, j8, j9, fun Q k2 k85 x1 x2 h => ⟨fun z => absurd z nle, fun _ => ⟨i71, fun _ => nxt Q k2 k85 x1 x2 h, fun t1 => ⟨i69, fun _ => nxt Q k2 k85 x1 x2 h, fun t2 => hdue _ ⟨fun t3 => ?_, fun _ => nxt Q k2 k85 x1 x2 h⟩⟩⟩⟩, fun P0 S0 G S post K mc ms u v wa rr lt tl kc fu ra ev hK hW hu hv hkc hfu hpost => j11 P0 S0 G S post K mc ms u v wa rr lt tl kc fu ra ev (fun r25 S25 z => hK r25 S25 z) hW hu hv (fun j z1 z2 z3 => hkc j (by omega) z2 z3) (by omega) hpost⟩
      rw [cks] at t1 t2
      rw [c3] at t2
      have e1 : lr kk = r := (nI_eq (by omega) (by omega)).mp t2
      have e2 := (i64_inj (by omega) (by omega)).mp (lg_eq.mp t3)
      rw [e1] at e2
      exact absurd ⟨t1, e1, e2⟩ htake
end BRS
