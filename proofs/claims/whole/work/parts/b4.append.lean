/-! ===== the reference: a record becomes an event ===== -/
def raI (σ0 σk : rf_S) (te e kk nv nvk : Nat) : Prop :=
  (nT σk te nvk ∧ (∀ v, v < nvk → fF σk v < 8 * e + kk) ∧ nv ≤ nvk ∧ nvk ≤ nv + kk) ∧
  (∀ k, k ≠ 26 → σk.1 k = σ0.1 k) ∧ σk.2.1 = σ0.2.1 ∧ (∀ k j, k ≠ 25 → (k = 14 ∨ k = 15 ∨ k = 16 ∨ k = 17 → j < 8 * e ∨ 8 * e + kk ≤ j) → (k = 24 → j < nv) → σk.2.2.1 k j = σ0.2.2.1 k j) ∧ (∀ k j, (k = 13 → j < 8 * e ∨ 8 * e + kk ≤ j) → σk.2.2.2 k j = σ0.2.2.2 k j) ∧
  ∀ j, j < kk → (σk.2.2.2 13 (8 * e + j) = σ0.2.2.2 13 (32000 + j) ∧ σk.2.2.1 14 (8 * e + j) = σ0.2.2.1 14 (32000 + j) ∧ σk.2.2.1 15 (8 * e + j) = σ0.2.2.1 15 (32000 + j) ∧ σk.2.2.1 16 (8 * e + j) = σ0.2.2.1 16 (32000 + j)) ∧ vW σk te (8 * e + j) ∧ ∃ w, w < nvk ∧ σk.2.2.1 17 (8 * e + j) = nI w ∧ vC σk (fF σk w) = vC σk (8 * e + j)
theorem n32 (k : Nat) : (32000 : Int32) + nI k = nI (32000 + k) := nI_pl 32000 k
section RAS
variable {σ0 : rf_S} {te e nv m : Nat}
theorem ra_186 (he : e < 4000) (hte : te ≤ 24000) (hm : σ0.2.2.1 9 e = nI m) (hm8 : m ≤ 8) (hnv : nv ≤ 8 * e) (hvW : ∀ k, k < m → vW σ0 te (32000 + k)) : ∀ d kk (σk : rf_S) (nvk : Nat), kk + d = m → raI σ0 σk te e kk nv nvk → ∃ σ1 nv1, raI σ0 σ1 te e m nv nv1 ∧ ∀ (Q : Int32 → rf_S → Prop) (k35 : rf_S → Int32 → Prop) (x1 : Int32), wp_X12_looked (fun σ6 => wp_X12_follow (fun σ7 => k35 σ7 (x1 + 1)) σ6) (rf_ui σ1 80 (σ1.1 78)) (nI e) 0 → w_X12_take_186 Q k35 (d + 1) σk x1 (nI e) (nI kk) := by
  have i9 : vp_in (nI e) (rf_n 9) := nI_in (N := 4001) (by omega) (by decide)
  have c9 : (nI e).toNatClampNeg = e := nI_clamp (by omega)
  intro d
  induction d with
  | zero =>
    intro kk σk nvk hk hI
    have hkn : kk = m := by omega
    subst hkn
    refine ⟨σk, nvk, hI, fun Q k35 x1 h => ⟨i9, fun _ => h, fun z => ?_⟩⟩
    rw [c9, hI.2.2.2.1 9 e (by decide) (by omega) (by omega), hm] at z
    exact absurd (nI_le (Nat.le_refl _) (by omega)) z
  | succ d ih =>
    intro kk σk nvk hk hI
    obtain ⟨⟨t1, t2, t3, t4⟩, g1, g2, g3, g4, g5⟩ := id hI
    have e9 : σk.2.2.1 9 e = nI m := by rw [g3 9 e (by decide) (by omega) (by omega)]; exact hm
    have hv0 := hvW kk (by omega)
    have hvf : vW σk te (32000 + kk) := hv0.on hv0.1 (Nat.le_refl _) (g3 14 _ (by decide) (fun _ => Or.inr (by omega)) (by omega)) (g3 15 _ (by decide) (fun _ => Or.inr (by omega)) (by omega)) (g3 16 _ (by decide) (fun _ => Or.inr (by omega)) (by omega))
    obtain ⟨σ', w, nv', m1, m2, m3, m4, m5, m6, m7, m8, m9, m10, m11, m12, m13, m14, m15⟩ := rmv t1 t2 (by omega) hte hvf (to := 8 * e + kk) (by omega)
    obtain ⟨p1, p2, p3, p4⟩ := id m5
    have hI' : raI σ0 σ' te e (kk + 1) nv nv' := by
      refine ⟨⟨m2, fun v hv => by have := m6 v hv; omega, by omega, by omega⟩, fun k hk' => (p1 k hk').trans (g1 k hk'), p2.trans g2, fun k j h1 h2 h3 => ?_, fun k j h1 => ?_, fun j hj => ?_⟩
      · rw [p3 k j h1 (fun z => by have := h2 z; omega) (fun z => by have := h3 z; omega)]
        exact g3 k j h1 (fun z => by have := h2 z; omega) h3
      · rw [p4 k j (fun z => by have := h1 z; omega)]
        exact g4 k j (fun z => by have := h1 z; omega)
      · by_cases c : j = kk
        · subst c
          refine ⟨⟨?_, ?_, ?_, ?_⟩, m11, w, m7, m8, m9⟩
          · rw [m12, g4 13 (32000 + j) (fun _ => Or.inr (by omega))]
          · rw [m13, g3 14 _ (by decide) (fun _ => Or.inr (by omega)) (by omega)]
          · rw [m14, g3 15 _ (by decide) (fun _ => Or.inr (by omega)) (by omega)]
          · rw [m15, g3 16 _ (by decide) (fun _ => Or.inr (by omega)) (by omega)]
        · obtain ⟨⟨q1, q3, q4, q5⟩, q6, w', q7, q8, q9⟩ := g5 j (by omega)
          have hne : 8 * e + j ≠ 8 * e + kk := by omega
          have r14 := p3 14 (8 * e + j) (by decide) (fun _ => hne) (by omega)
          have r15 := p3 15 (8 * e + j) (by decide) (fun _ => hne) (by omega)
          have r16 := p3 16 (8 * e + j) (by decide) (fun _ => hne) (by omega)
          have r17 := p3 17 (8 * e + j) (by decide) (fun _ => hne) (by omega)
          have eF : fF σ' w' = fF σk w' := by unfold fF; rw [p3 24 w' (by decide) (by omega) (fun _ => q7)]
          have hFw := t2 w' q7
          refine ⟨⟨by rw [p4 13 _ (fun _ => hne)]; exact q1, r14.trans q3, r15.trans q4, r16.trans q5⟩, q6.on q6.1 (Nat.le_refl _) r14 r15 r16, w', by omega, r17.trans q8, ?_⟩
          rw [eF, m5.vc (by omega), m5.vc hne]; exact q9
    obtain ⟨σ1, nv1, a1, a2⟩ := ih (kk + 1) σ' nv' (by omega) hI'
    refine ⟨σ1, nv1, a1, fun Q k35 x1 h => ⟨i9, fun z => ?_, fun _ => ?_⟩⟩
    · rw [c9, e9] at z
      exact absurd z (nI_ge (by omega) (by omega))
    · rw [n32, n8]
      refine m1 _ ?_
      rw [nI_1]
      exact a2 Q k35 x1 h
end RAS
section RAT
variable {σ : rf_S} {bk nr te te' nv ne na nl now m : Nat} {x k n w q L : Nat → Nat} {dp : Nat → Nat → Nat} {tr : (r c : Nat) → cT (dp r c)} {ud : Nat → Nat} {ut : (r : Nat) → Option (cT (ud r))} {pr lr le tm : Nat → Nat}
/-- what a record leaves alone: the tape, texts, rules -/
def tF (σ σ' : rf_S) : Prop := (∀ k, k ≠ 19 → k ≠ 21 → k ≠ 22 → k ≠ 23 → k ≠ 26 → (k < 72 ∨ 83 < k) → σ'.1 k = σ.1 k) ∧ σ'.2.1 = σ.2.1 ∧ (∀ k j, k ≠ 24 → k ≠ 25 → (k < 62 ∨ k = 68 ∨ 83 < k) → (k = 8 ∨ k = 9 ∨ k = 10 → 4000 ≤ j) → (k = 14 ∨ k = 15 ∨ k = 16 ∨ k = 17 → 32000 ≤ j) → σ'.2.2.1 k j = σ.2.2.1 k j) ∧ ∀ k j, (k = 11 ∨ k = 12 → 4000 ≤ j) → (k = 13 → 32000 ≤ j) → σ'.2.2.2 k j = σ.2.2.2 k j
theorem lF.tf {σ' : rf_S} (h : lF σ σ') : tF σ σ' := ⟨fun k a b _ c d e => h.1 k a b c d e, h.2.1, h.2.2.1, h.2.2.2⟩
theorem tF.trans {σ1 σ2 : rf_S} (h : tF σ σ1) (g : tF σ1 σ2) : tF σ σ2 := ⟨fun k a b c d e f => (g.1 k a b c d e f).trans (h.1 k a b c d e f), g.2.1.trans h.2.1, fun k j a b c d e => (g.2.2.1 k j a b c d e).trans (h.2.2.1 k j a b c d e), fun k j a b => (g.2.2.2 k j a b).trans (h.2.2.2 k j a b)⟩
theorem RA (hS : RS0 σ bk nr x k n w q L dp tr ud ut) (hB : RB σ bk nr n) (hD : RD σ bk nr x n w te nv ne na 0 nl now pr lr le tm) (hne : ne < 4000) (hsp : eW σ te' 4000 m) (hte : te ≤ te') (hte' : te' ≤ 24000) (h31 : σ.1 31 = nI now) :
    ∃ (σ1 : rf_S) (nv1 : Nat), eB σ σ1 ne nv te ∧ σ1.1 23 = σ.1 23 ∧ σ1.1 22 = nI now ∧ σ1.1 79 = σ.1 79 ∧ RD σ1 bk nr x n w te' nv1 (ne + 1) na 0 nl now pr lr le (prU tm ne now) ∧ RS0 σ1 bk nr x k n w q L dp tr ud ut ∧ RB σ1 bk nr n ∧ tF σ σ1 ∧
      (σ1.2.2.1 10 ne = -1 ∧ σ1.2.2.1 9 ne = nI m ∧ σ1.2.2.2 11 ne = σ.2.2.2 11 4000 ∧ σ1.2.2.2 12 ne = σ.2.2.2 12 4000 ∧ ∀ j, j < m → σ1.2.2.2 13 (8 * ne + j) = σ.2.2.2 13 (32000 + j) ∧ σ1.2.2.1 14 (8 * ne + j) = σ.2.2.1 14 (32000 + j) ∧ σ1.2.2.1 15 (8 * ne + j) = σ.2.2.1 15 (32000 + j) ∧ σ1.2.2.1 16 (8 * ne + j) = σ.2.2.1 16 (32000 + j)) ∧
      ∀ (Q : Int32 → rf_S → Prop) (k35 : rf_S → Int32 → Prop) (x1 : Int32), wp_X12_looked (fun σ6 => wp_X12_follow (fun σ7 => k35 σ7 (x1 + 1)) σ6) (rf_ui σ1 80 (σ1.1 78)) (nI ne) 0 → ∃ n9, w_X12_take_186 Q k35 n9 (rf_ua (rf_ub (rf_ub (rf_ua (rf_ua (rf_ui (rf_ui σ 19 ((σ.1 19) + 1)) 22 (σ.1 31)) 8 (σ.1 19).toNatClampNeg (σ.1 31)) 10 (σ.1 19).toNatClampNeg ((-1))) 11 (σ.1 19).toNatClampNeg (σ.2.2.2 11 (4000 : Int32).toNatClampNeg)) 12 (σ.1 19).toNatClampNeg (σ.2.2.2 12 (4000 : Int32).toNatClampNeg)) 9 (σ.1 19).toNatClampNeg (σ.2.2.1 9 (4000 : Int32).toNatClampNeg)) x1 (σ.1 19) 0 := by
  obtain ⟨⟨d1, d2, d3, d4, d5⟩, d6, d7, ⟨d8a, d8, d8b, d8c, d8d⟩, d9, d10, d11, d12, d13, d14⟩ := id hD
  obtain ⟨e1, e2, e3, e4⟩ := id hsp
  have cne : (nI ne).toNatClampNeg = ne := nI_clamp (by omega)
  have c4 : (4000 : Int32).toNatClampNeg = 4000 := nI_clamp (n := 4000) (by omega)
  generalize hσ0 : rf_ua (rf_ub (rf_ub (rf_ua (rf_ua (rf_ui (rf_ui σ 19 ((σ.1 19) + 1)) 22 (σ.1 31)) 8 (σ.1 19).toNatClampNeg (σ.1 31)) 10 (σ.1 19).toNatClampNeg ((-1))) 11 (σ.1 19).toNatClampNeg (σ.2.2.2 11 (4000 : Int32).toNatClampNeg)) 12 (σ.1 19).toNatClampNeg (σ.2.2.2 12 (4000 : Int32).toNatClampNeg)) 9 (σ.1 19).toNatClampNeg (σ.2.2.1 9 (4000 : Int32).toNatClampNeg) = σ0
  rw [d1, cne, c4, h31, e3] at hσ0
  have i0 : ∀ kk, σ0.1 kk = if kk = 22 then nI now else if kk = 19 then nI (ne + 1) else σ.1 kk := fun kk => by
    rw [← hσ0]
    show (rf_ui (rf_ui σ 19 (nI ne + 1)) 22 (nI now)).1 kk = _
    rw [r1ui, r1ui, nI_1]
  have r0 : ∀ kk j, ¬ ((kk = 8 ∨ kk = 9 ∨ kk = 10) ∧ j = ne) → σ0.2.2.1 kk j = σ.2.2.1 kk j := fun kk j h => by
    rw [← hσ0, r3ua, if_neg (fun z => h ⟨by omega, z.2⟩), r3ub, r3ub, r3ua, if_neg (fun z => h ⟨by omega, z.2⟩), r3ua, if_neg (fun z => h ⟨by omega, z.2⟩), r3ui, r3ui]
  have r8 : σ0.2.2.1 8 ne = nI now := by rw [← hσ0, r3ua, if_neg (fun z => absurd z.1 (by decide)), r3ub, r3ub, r3ua, if_neg (fun z => absurd z.1 (by decide)), r3ua, if_pos ⟨rfl, rfl⟩]
  have r9 : σ0.2.2.1 9 ne = nI m := by rw [← hσ0, r3ua, if_pos ⟨rfl, rfl⟩]
  have r10 : σ0.2.2.1 10 ne = -1 := by rw [← hσ0, r3ua, if_neg (fun z => absurd z.1 (by decide)), r3ub, r3ub, r3ua, if_pos ⟨rfl, rfl⟩]
  have w0 : ∀ kk j, σ0.2.2.2 kk j = if kk = 12 ∧ j = ne then σ.2.2.2 12 4000 else if kk = 11 ∧ j = ne then σ.2.2.2 11 4000 else σ.2.2.2 kk j := fun kk j => by
    rw [← hσ0, r4ua, r4ub, r4ub]
    rfl
  have w13 : ∀ j, σ0.2.2.2 13 j = σ.2.2.2 13 j := fun j => by rw [w0, if_neg (fun z => absurd z.1 (by decide)), if_neg (fun z => absurd z.1 (by decide))]
  obtain ⟨hT0, eF0, -⟩ := d8a.on (σ1 := σ0) (te1 := te') (cu := 8 * ne) hte d3 d8d (by rw [i0, if_neg (by decide), if_neg (by decide)]) (fun j _ => r0 24 j (fun z => by omega)) (fun j => r0 25 j (fun z => by omega)) (fun kk j hk _ => r0 kk j (fun z => by omega)) (fun j _ => r0 18 j (fun z => by omega))
  have hI0 : raI σ0 σ0 te' ne 0 nv nv := ⟨⟨hT0, fun v hv => by rw [eF0 v hv]; have := d8d v hv; omega, Nat.le_refl _, by omega⟩, fun _ _ => rfl, rfl, fun _ _ _ _ _ => rfl, fun _ _ _ => rfl, fun j hj => absurd hj (by omega)⟩
  have hvW0 : ∀ kk, kk < m → vW σ0 te' (32000 + kk) := fun kk hkk => (e4 kk hkk).on (e4 kk hkk).1 (Nat.le_refl _) (r0 14 _ (fun z => by omega)) (r0 15 _ (fun z => by omega)) (r0 16 _ (fun z => by omega))
  obtain ⟨σ1, nv1, hI1, hrun⟩ := ra_186 hne hte' r9 e2 d8c hvW0 m 0 σ0 nv (by omega) hI0
  obtain ⟨⟨t1, t2, t3, t4⟩, g1, g2, g3, g4, g5⟩ := id hI1
  have hE : eB σ σ1 ne nv te := by
    refine ⟨fun kk h1 => ?_, fun kk j h1 h2 h3 h4 h5 h6 => ?_, fun kk j h1 h2 h3 => ?_⟩
    · rw [g1 kk (by omega), i0, if_neg (by omega), if_neg (by omega)]
    · rw [g3 kk j h2 (fun z => by have := h4 z; omega) h5, r0 kk j (fun z => by have := h3 (by omega); omega)]
    · rw [g4 kk j (fun z => by have := h2 z; omega), w0, if_neg (fun z => by have := h1 (by omega); omega), if_neg (fun z => by have := h1 (by omega); omega)]
  have ints : ∀ kk, kk ≠ 19 → kk ≠ 22 → kk ≠ 26 → σ1.1 kk = σ.1 kk := fun kk h1 h2 h3 => by rw [g1 kk h3, i0, if_neg h2, if_neg h1]
  have h19 : σ1.1 19 = nI (ne + 1) := by rw [g1 19 (by decide), i0, if_neg (by decide), if_pos rfl]
  have h22 : σ1.1 22 = nI now := by rw [g1 22 (by decide), i0, if_pos rfl]
  have h8 : σ1.2.2.1 8 ne = nI now := by rw [g3 8 ne (by decide) (by omega) (by omega)]; exact r8
  have h9 : σ1.2.2.1 9 ne = nI m := by rw [g3 9 ne (by decide) (by omega) (by omega)]; exact r9
  have h10 : σ1.2.2.1 10 ne = -1 := by rw [g3 10 ne (by decide) (by omega) (by omega)]; exact r10
  have hER := hE.er
  refine ⟨σ1, nv1, hE, ints 23 (by decide) (by decide) (by decide), h22, ints 79 (by decide) (by decide) (by decide), hD.more (m := m) hE hne h19 ((ints 21 (by decide) (by decide) (by decide)).trans d4) hte hte' t1 (fun v hv => by have := t2 v hv; omega) t3 (by omega) ⟨by omega, e2, h9, fun kk hkk => (g5 kk hkk).2.1⟩ h8 (Or.inl h10) (fun i hi => (g5 i hi).2.2), hS.er hER (ints 32 (by decide) (by decide) (by decide)) (ints 33 (by decide) (by decide) (by decide)), fun r' hr' i j hi hj he => hB r' hr' i j hi hj (by rw [hER.2 37 (by decide)] at he; exact he), ⟨fun kk z1 z2 z3 z4 z5 z6 => ints kk z1 z3 z5, ?_, fun kk j z1 z2 z3 z4 z5 => ?_, fun kk j z1 z2 => ?_⟩, ⟨h10, h9, ?_, ?_, fun j hj => ?_⟩, fun Q k35 x1 h => ?_⟩
  · rw [g2, ← hσ0]; rfl
  · rw [g3 kk j z2 (fun z => Or.inr (by have := z5 z; omega)) (fun z => absurd z z1), r0 kk j (fun z => by have := z4 (by omega); omega)]
  · rw [g4 kk j (fun z => Or.inr (by have := z2 z; omega)), w0, if_neg (fun z => by have := z1 (by omega); omega), if_neg (fun z => by have := z1 (by omega); omega)]
  · rw [g4 11 ne (by omega), w0, if_neg (fun z => absurd z.1 (by decide)), if_pos ⟨rfl, rfl⟩]
  · rw [g4 12 ne (by omega), w0, if_pos ⟨rfl, rfl⟩]
  · obtain ⟨⟨q1, q3, q4, q5⟩, -⟩ := g5 j hj
    exact ⟨by rw [q1, w13], by rw [q3, r0 14 _ (fun z => by omega)], by rw [q4, r0 15 _ (fun z => by omega)], by rw [q5, r0 16 _ (fun z => by omega)]⟩
  · rw [d1]
    exact ⟨m + 1, hrun Q k35 x1 h⟩
end RAT
