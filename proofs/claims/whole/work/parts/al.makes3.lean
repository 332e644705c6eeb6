/-! ===== the reference makes an event ===== -/
def RB (σ : rf_S) (bk nr : Nat) (n : Nat → Nat) : Prop := ∀ r, r < nr → ∀ i j, i < n r → j < n r → σ.2.2.2 37 (3 * (12 * bk + r) + i) = σ.2.2.2 37 (3 * (12 * bk + r) + j) → i = j
/-- what the log's own steps leave alone: the tape, texts, rules, the event that is being read -/
def lF (σ σ' : rf_S) : Prop := (∀ k, k ≠ 19 → k ≠ 21 → k ≠ 23 → k ≠ 26 → (k < 72 ∨ 83 < k) → σ'.1 k = σ.1 k) ∧ σ'.2.1 = σ.2.1 ∧ (∀ k j, k ≠ 24 → k ≠ 25 → (k < 62 ∨ k = 68 ∨ 83 < k) → (k = 8 ∨ k = 9 ∨ k = 10 → 4000 ≤ j) → (k = 14 ∨ k = 15 ∨ k = 16 ∨ k = 17 → 32000 ≤ j) → σ'.2.2.1 k j = σ.2.2.1 k j) ∧ ∀ k j, (k = 11 ∨ k = 12 → 4000 ≤ j) → (k = 13 → 32000 ≤ j) → σ'.2.2.2 k j = σ.2.2.2 k j
theorem lF.rfl {σ : rf_S} : lF σ σ := ⟨fun _ _ _ _ _ _ => Eq.refl _, Eq.refl _, fun _ _ _ _ _ _ _ => Eq.refl _, fun _ _ _ _ => Eq.refl _⟩
theorem lF.trans {σ σ1 σ2 : rf_S} (h : lF σ σ1) (g : lF σ1 σ2) : lF σ σ2 := ⟨fun k a b c d e => (g.1 k a b c d e).trans (h.1 k a b c d e), g.2.1.trans h.2.1, fun k j a b c d e => (g.2.2.1 k j a b c d e).trans (h.2.2.1 k j a b c d e), fun k j a b => (g.2.2.2 k j a b).trans (h.2.2.2 k j a b)⟩
theorem gE.lf' {σ σ' : rf_S} (h : gE σ σ') : lF σ σ' := ⟨fun k _ _ _ _ e => h.2.1 k e, h.2.2.1, fun k j _ _ c _ _ => congrFun (h.1 k c) j, fun k j _ _ => by rw [h.2.2.2]⟩
section RMK2
variable {σ : rf_S} {bk nr te nv ne na ns nl now r fr : Nat} {x k n w q L : Nat → Nat} {dp : Nat → Nat → Nat} {tr : (r c : Nat) → cT (dp r c)} {ud : Nat → Nat} {ut : (r : Nat) → Option (cT (ud r))} {pr lr le tm : Nat → Nat}
theorem rmk (hS : RS0 σ bk nr x k n w q L dp tr ud ut) (hB : RB σ bk nr n) (hD : RD σ bk nr x n w te nv ne na ns nl now pr lr le tm) (hne : ne < 4000) (hr : r < nr) (hfr : fr < ne) (hkh : kH σ (12 * bk + r) (n r) fr) :
    ∃ (σ1 : rf_S) (nv1 : Nat) (π : Nat → Nat), srt (fun i => σ.2.2.2 37 (3 * (12 * bk + r) + i)) (n r) π ∧ eB σ σ1 ne nv te ∧ σ1.1 19 = nI (ne + 1) ∧ σ1.1 23 = σ.1 23 + 1 ∧ (∀ kk, kk ≠ 19 → kk ≠ 23 → kk ≠ 26 → σ1.1 kk = σ.1 kk) ∧ RD σ1 bk nr x n w te nv1 (ne + 1) na ns nl now pr lr le (prU tm ne now) ∧ RS0 σ1 bk nr x k n w q L dp tr ud ut ∧ RB σ1 bk nr n ∧
      (σ1.2.2.1 10 ne = nI r ∧ σ1.2.2.1 9 ne = nI (n r) ∧ σ1.2.2.2 11 ne = 7020097461410594816 ∧ σ1.2.2.2 12 ne = 0 ∧ ∀ j, j < n r → σ1.2.2.2 13 (8 * ne + j) = σ.2.2.2 37 (3 * (12 * bk + r) + π j) ∧ ∃ i, fO σ fr (σ.2.2.2 37 (3 * (12 * bk + r) + π j)) = some i ∧ σ1.2.2.1 14 (8 * ne + j) = σ.2.2.1 14 (8 * fr + i) ∧ σ1.2.2.1 15 (8 * ne + j) = σ.2.2.1 15 (8 * fr + i) ∧ σ1.2.2.1 16 (8 * ne + j) = σ.2.2.1 16 (8 * fr + i)) ∧
      lF σ σ1 ∧ ∀ Q : rf_S → Prop, wp_X12_looked Q σ1 (nI ne) (nI (r + 1)) → wp_X12_makes Q σ (nI r) (nI fr) := by
  obtain ⟨s1, s2, s3, s4, s5⟩ := id hS
  obtain ⟨⟨d1, d2, d3, d4, d5⟩, d6, d7, ⟨d8a, d8, d8b, d8c, d8d⟩, d9, d10, d11, d12, d13, d14⟩ := id hD
  have hru := (s5 r hr).1
  have h43 : σ.2.2.1 43 (12 * bk + r) = nI (n r) := hru.2.2.1
  have hn3 : n r ≤ 3 := hru.2.2.2.1
  obtain ⟨π, hs⟩ := srt_ex (Y := fun i => σ.2.2.2 37 (3 * (12 * bk + r) + i)) (n r) (hB r hr)
  obtain ⟨⟨m, e1, e2, e3, e4⟩, -⟩ := d6 fr hfr
  have cne : (nI ne).toNatClampNeg = ne := nI_clamp (by omega)
  have cb : (nI (12 * bk + r)).toNatClampNeg = 12 * bk + r := nI_clamp (by omega)
  -- the head of the event
  generalize hσ0 : rf_ua (rf_ub (rf_ub (rf_ua (rf_ua (rf_ui (rf_ui σ 19 (nI ne + 1)) 23 (σ.1 23 + 1)) 8 ne (nI now)) 10 ne (nI r)) 11 ne 7020097461410594816) 12 ne 0) 9 ne (nI (n r)) = σ0
  have i0 : ∀ kk, σ0.1 kk = if kk = 23 then σ.1 23 + 1 else if kk = 19 then nI (ne + 1) else σ.1 kk := fun kk => by
    rw [← hσ0]
    show (rf_ui (rf_ui σ 19 (nI ne + 1)) 23 (σ.1 23 + 1)).1 kk = _
    rw [r1ui, r1ui, nI_1]
  have r0 : ∀ kk j, ¬ ((kk = 8 ∨ kk = 9 ∨ kk = 10) ∧ j = ne) → σ0.2.2.1 kk j = σ.2.2.1 kk j := fun kk j h => by
    rw [← hσ0, r3ua, if_neg (fun z => h ⟨by omega, z.2⟩), r3ub, r3ub, r3ua, if_neg (fun z => h ⟨by omega, z.2⟩), r3ua, if_neg (fun z => h ⟨by omega, z.2⟩), r3ui, r3ui]
  have r8 : σ0.2.2.1 8 ne = nI now := by rw [← hσ0, r3ua, if_neg (fun z => absurd z.1 (by decide)), r3ub, r3ub, r3ua, if_neg (fun z => absurd z.1 (by decide)), r3ua, if_pos ⟨rfl, rfl⟩]
  have r9 : σ0.2.2.1 9 ne = nI (n r) := by rw [← hσ0, r3ua, if_pos ⟨rfl, rfl⟩]
  have r10 : σ0.2.2.1 10 ne = nI r := by rw [← hσ0, r3ua, if_neg (fun z => absurd z.1 (by decide)), r3ub, r3ub, r3ua, if_pos ⟨rfl, rfl⟩]
  have w0 : ∀ kk j, σ0.2.2.2 kk j = if kk = 12 ∧ j = ne then 0 else if kk = 11 ∧ j = ne then 7020097461410594816 else σ.2.2.2 kk j := fun kk j => by
    rw [← hσ0, r4ua, r4ub, r4ub]
    rfl
  have w37 : ∀ j, σ0.2.2.2 37 j = σ.2.2.2 37 j := fun j => by rw [w0, if_neg (fun z => absurd z.1 (by decide)), if_neg (fun z => absurd z.1 (by decide))]
  have w13 : ∀ j, σ0.2.2.2 13 j = σ.2.2.2 13 j := fun j => by rw [w0, if_neg (fun z => absurd z.1 (by decide)), if_neg (fun z => absurd z.1 (by decide))]
  have fo0 : ∀ c, fO σ0 fr c = fO σ fr c := fun c => by
    unfold fO mN
    rw [r0 9 fr (fun z => by omega)]
    exact fdx_cong _ _ (fun j _ _ => by rw [w13])
  obtain ⟨hT0, eF0, -⟩ := d8a.on (σ1 := σ0) (te1 := te) (cu := 8 * ne) (Nat.le_refl _) d3 d8d (by rw [i0, if_neg (by decide), if_neg (by decide)]) (fun j _ => r0 24 j (fun z => by omega)) (fun j => r0 25 j (fun z => by omega)) (fun kk j hk _ => r0 kk j (fun z => by omega)) (fun j _ => r0 18 j (fun z => by omega))
  have hI0 : mkI σ0 σ0 te (12 * bk + r) fr ne 0 nv nv π := ⟨⟨hT0, fun v hv => by rw [eF0 v hv]; have := d8d v hv; omega, Nat.le_refl _, by omega⟩, fun _ _ => rfl, rfl, fun _ _ _ _ _ => rfl, fun _ _ _ => rfl, fun j hj => absurd hj (by omega)⟩
  have hs0 : srt (fun i => σ0.2.2.2 37 (3 * (12 * bk + r) + i)) (n r) π := by
    have : (fun i => σ0.2.2.2 37 (3 * (12 * bk + r) + i)) = fun i => σ.2.2.2 37 (3 * (12 * bk + r) + i) := funext fun i => w37 _
    rw [this]; exact hs
  have hkh0 : kH σ0 (12 * bk + r) (n r) fr := fun kk hkk => by
    obtain ⟨i, hi⟩ := hkh kk hkk
    exact ⟨i, by rw [fo0, w37]; exact hi⟩
  have hvW0 : ∀ kk, kk < m → vW σ0 te (8 * fr + kk) := fun kk hkk => (e4 kk hkk).on (e4 kk hkk).1 (Nat.le_refl _) (r0 14 _ (fun z => by omega)) (r0 15 _ (fun z => by omega)) (r0 16 _ (fun z => by omega))
  obtain ⟨σ1, nv1, hI1, hrun⟩ := mk_89 (r := r) (by omega) hne hfr d3 (by rw [r0 43 _ (fun z => by omega)]; exact h43) hn3 hs0 (fun i j hi hj => by rw [w37, w37]; exact hB r hr i j hi hj) d8c hkh0 (by rw [r0 9 fr (fun z => by omega)]; exact e3) e2 hvW0 (n r) 0 σ0 nv (by omega) hI0
  obtain ⟨⟨t1, t2, t3, t4⟩, g1, g2, g3, g4, g5⟩ := id hI1
  have hE : eB σ σ1 ne nv te := by
    refine ⟨fun kk h1 => ?_, fun kk j h1 h2 h3 h4 h5 h6 => ?_, fun kk j h1 h2 h3 => ?_⟩
    · rw [g1 kk (by omega), i0, if_neg (by omega), if_neg (by omega)]
    · rw [g3 kk j h2 (fun z => by have := h4 z; omega) h5, r0 kk j (fun z => by have := h3 (by omega); omega)]
    · rw [g4 kk j (fun z => by have := h2 z; omega), w0, if_neg (fun z => by have := h1 (by omega); omega), if_neg (fun z => by have := h1 (by omega); omega)]
  have ints : ∀ kk, kk ≠ 19 → kk ≠ 23 → kk ≠ 26 → σ1.1 kk = σ.1 kk := fun kk h1 h2 h3 => by rw [g1 kk h3, i0, if_neg h2, if_neg h1]
  have h19 : σ1.1 19 = nI (ne + 1) := by rw [g1 19 (by decide), i0, if_neg (by decide), if_pos rfl]
  have h23 : σ1.1 23 = σ.1 23 + 1 := by rw [g1 23 (by decide), i0, if_pos rfl]
  have h8 : σ1.2.2.1 8 ne = nI now := by rw [g3 8 ne (by decide) (by omega) (by omega)]; exact r8
  have h9 : σ1.2.2.1 9 ne = nI (n r) := by rw [g3 9 ne (by decide) (by omega) (by omega)]; exact r9
  have h10 : σ1.2.2.1 10 ne = nI r := by rw [g3 10 ne (by decide) (by omega) (by omega)]; exact r10
  have hER := hE.er
  refine ⟨σ1, nv1, π, hs, hE, h19, h23, ints, hD.more (m := n r) hE hne h19 ((ints 21 (by decide) (by decide) (by decide)).trans d4) (Nat.le_refl _) d3 t1 (fun v hv => by have := t2 v hv; omega) t3 (by omega) ⟨by omega, by omega, h9, fun kk hkk => (g5 kk hkk).2.2.1⟩ h8 (Or.inr ⟨r, hr, h10⟩) (fun i hi => (g5 i hi).2.2.2), hS.er hER (ints 32 (by decide) (by decide) (by decide)) (ints 33 (by decide) (by decide) (by decide)), fun r' hr' i j hi hj he => hB r' hr' i j hi hj (by rw [hER.2 37 (by decide)] at he; exact he), ⟨h10, h9, ?_, ?_, fun j hj => ?_⟩, ⟨fun kk z1 z2 z3 z4 z5 => ints kk z1 z3 z4, ?_, fun kk j z1 z2 z3 z4 z5 => ?_, fun kk j z1 z2 => ?_⟩, fun Q hQ => ?_⟩
  · rw [g4 11 ne (by omega), w0, if_neg (fun z => absurd z.1 (by decide)), if_pos ⟨rfl, rfl⟩]
  · rw [g4 12 ne (by omega), w0, if_pos ⟨rfl, rfl⟩]
  · obtain ⟨q1, ⟨i, q2, q3, q4, q5⟩, -⟩ := g5 j hj
    refine ⟨by rw [q1, w37], i, by rw [← fo0, ← w37]; exact q2, ?_, ?_, ?_⟩
    · rw [q3, r0 14 _ (fun z => by omega)]
    · rw [q4, r0 15 _ (fun z => by omega)]
    · rw [q5, r0 16 _ (fun z => by omega)]
  · rw [g2, ← hσ0]; rfl
  · rw [g3 kk j z2 (fun z => Or.inr (by have := z5 z; omega)) (fun z => absurd z z1), r0 kk j (fun z => by have := z4 (by omega); omega)]
  · rw [g4 kk j (fun z => Or.inr (by have := z2 z; omega)), w0, if_neg (fun z => by have := z1 (by omega); omega), if_neg (fun z => by have := z1 (by omega); omega)]
  · have hin : ∀ kk N, rf_n kk = N → N = 4001 → vp_in (nI ne) (rf_n kk) := fun kk N h1 h2 => by rw [h1, h2]; exact nI_in (by omega) (by decide)
    unfold wp_X12_makes
    rw [d1, s1, n12, d4, cne, cb, h43, hσ0]
    refine ⟨hin 8 _ rfl (by decide), hin 10 _ rfl (by decide), hin 11 _ rfl (by decide), hin 12 _ rfl (by decide), nI_in (N := 24) (by omega) (by decide), hin 9 _ rfl (by decide), n r + 1, ?_⟩
    exact hrun Q (by rw [nI_1]; exact hQ)
end RMK2
