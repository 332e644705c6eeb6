/-! ===== the reference alone: a field is moved ===== -/
section VON
variable {σ σ1 : rf_S} {te te1 f g nv cu : Nat}
theorem vC.on (hf : vW σ te f) (hte : te ≤ 24000) (h14 : σ1.2.2.1 14 g = σ.2.2.1 14 f) (h15 : σ1.2.2.1 15 g = σ.2.2.1 15 f) (h16 : σ1.2.2.1 16 g = σ.2.2.1 16 f) (h18 : ∀ j, j < te → σ1.2.2.1 18 j = σ.2.2.1 18 j) : vC σ1 g = vC σ f := by
  rw [vCd, vCd, h14, h15, h16]
  refine Prod.ext rfl (Prod.ext rfl (funext fun k => ?_))
  show (if _ then _ else _) = (if _ then _ else _)
  by_cases c : σ.2.2.1 14 f = 1 ∧ k < (σ.2.2.1 15 f).toNatClampNeg
  · rw [if_pos c, if_pos c]
    rcases hf.2 with ⟨-, L, o, a1, a2, a3, a4⟩ | a | a
    · rw [a3, nI_clamp (by omega)]
      rw [a1, nI_clamp (by omega)] at c
      exact h18 _ (by omega)
    · rw [c.1] at a; exact absurd a.symm (by decide)
    · rw [c.1] at a; exact absurd a.symm (by decide)
  · rw [if_neg c, if_neg c]
theorem vW.on (hf : vW σ te f) (hg : g < 32008) (hte : te ≤ te1) (h14 : σ1.2.2.1 14 g = σ.2.2.1 14 f) (h15 : σ1.2.2.1 15 g = σ.2.2.1 15 f) (h16 : σ1.2.2.1 16 g = σ.2.2.1 16 f) : vW σ1 te1 g := by
  refine ⟨hg, ?_⟩
  rw [h14, h15, h16]
  rcases hf.2 with ⟨a0, L, o, a1, a2, a3, a4⟩ | a
  · exact Or.inl ⟨a0, L, o, a1, a2, a3, by omega⟩
  · exact Or.inr a
theorem nT.on (h : nT σ te nv) (hte : te ≤ te1) (hte2 : te ≤ 24000) (hcu : ∀ v, v < nv → fF σ v < cu) (h26 : σ1.1 26 = σ.1 26) (h24 : ∀ j, j < nv → σ1.2.2.1 24 j = σ.2.2.1 24 j) (h25 : ∀ j, σ1.2.2.1 25 j = σ.2.2.1 25 j) (hv : ∀ k j, k = 14 ∨ k = 15 ∨ k = 16 → j < cu → σ1.2.2.1 k j = σ.2.2.1 k j) (h18 : ∀ j, j < te → σ1.2.2.1 18 j = σ.2.2.1 18 j) : nT σ1 te1 nv ∧ (∀ v, v < nv → fF σ1 v = fF σ v) ∧ (∀ v, v < nv → vC σ1 (fF σ1 v) = vC σ (fF σ v)) := by
  obtain ⟨t1, t2, t3, t4, t5, t6, t7⟩ := h
  have eF : ∀ v, v < nv → fF σ1 v = fF σ v := fun v hv => by rw [fF, fF, h24 v hv]
  have eC : ∀ v, v < nv → vC σ1 (fF σ1 v) = vC σ (fF σ v) := fun v hv' => by
    have hc := hcu v hv'
    rw [eF v hv']
    exact vC.on (t4 v hv').2 hte2 (hv 14 _ (by omega) hc) (hv 15 _ (by omega) hc) (hv 16 _ (by omega) hc) h18
  refine ⟨⟨h26.trans t1, t2, fun s hs => by rw [h25]; exact t3 s hs, fun v hv' => ?_, fun v hv' => ?_, fun s s' a b => by rw [h25, h25]; exact t6 s s' a b, fun v v' a b c => ?_⟩, eF, eC⟩
  · have hc := hcu v hv'
    rw [eF v hv', h24 v hv']
    exact ⟨(t4 v hv').1, (t4 v hv').2.on (t4 v hv').2.1 hte (hv 14 _ (by omega) hc) (hv 15 _ (by omega) hc) (hv 16 _ (by omega) hc)⟩
  · rw [eC v hv']
    obtain ⟨d, a, b, c⟩ := t5 v hv'
    exact ⟨d, a, by rw [h25]; exact b, fun d' hd' => by rw [h25]; exact c d' hd'⟩
  · rw [eC v a, eC v' b] at c
    exact t7 v v' a b c
end VON
/-- what moving a field to place `to` leaves alone -/
def mvF (to nv : Nat) (σ σ' : rf_S) : Prop := (∀ k, k ≠ 26 → σ'.1 k = σ.1 k) ∧ σ'.2.1 = σ.2.1 ∧ (∀ k j, k ≠ 25 → (k = 14 ∨ k = 15 ∨ k = 16 ∨ k = 17 → j ≠ to) → (k = 24 → j < nv) → σ'.2.2.1 k j = σ.2.2.1 k j) ∧ (∀ k j, (k = 13 → j ≠ to) → σ'.2.2.2 k j = σ.2.2.2 k j)
theorem nar2 : ∀ s, s ≤ 2 → vp_nar .byte (nI s) = nI s := by decide +kernel
theorem rmv {σ : rf_S} {te nv fr to : Nat} (h : nT σ te nv) (hcu : ∀ v, v < nv → fF σ v < to) (hnv : nv < 32000) (hte : te ≤ 24000) (hfr : vW σ te fr) (hto : to < 32000) : ∃ σ' w nv', (∀ Q : rf_S → Prop, Q σ' → wp_X12_moved Q σ (nI fr) (nI to)) ∧ nT σ' te nv' ∧ nv ≤ nv' ∧ nv' ≤ nv + 1 ∧ mvF to nv σ σ' ∧ (∀ v, v < nv' → fF σ' v < to + 1) ∧ w < nv' ∧ σ'.2.2.1 17 to = nI w ∧ vC σ' (fF σ' w) = vC σ' to ∧ vC σ' to = vC σ fr ∧ vW σ' te to ∧ σ'.2.2.2 13 to = σ.2.2.2 13 fr ∧ σ'.2.2.1 14 to = σ.2.2.1 14 fr ∧ σ'.2.2.1 15 to = σ.2.2.1 15 fr ∧ σ'.2.2.1 16 to = σ.2.2.1 16 fr := by
  have hfr1 := hfr.1
  have hfr31 : fr < 2 ^ 31 := by omega
  have hto31 : to < 2 ^ 31 := by omega
  have i1 : ∀ k, k = 13 ∨ k = 14 ∨ k = 15 ∨ k = 16 → vp_in (nI fr) (rf_n k) := fun k hk => by rcases hk with rfl | rfl | rfl | rfl <;> exact nI_in (N := 32008) (by omega) (by decide)
  have i2 : ∀ k, k = 13 ∨ k = 14 ∨ k = 15 ∨ k = 16 → vp_in (nI to) (rf_n k) := fun k hk => by rcases hk with rfl | rfl | rfl | rfl <;> exact nI_in (N := 32008) (by omega) (by decide)
  have hs : vp_nar .byte (σ.2.2.1 14 fr) = σ.2.2.1 14 fr := by
    rcases hfr.2 with ⟨a, -⟩ | a | a <;> rw [a]
    · exact nar2 1 (by decide)
    · exact nar2 0 (by decide)
    · exact nar2 2 (by decide)
  -- the state behind the copying
  have g14 : (rf_ua (rf_ua (rf_ua (rf_ub σ 13 to (σ.2.2.2 13 fr)) 14 to (σ.2.2.1 14 fr)) 15 to (σ.2.2.1 15 fr)) 16 to (σ.2.2.1 16 fr)).2.2.1 14 to = σ.2.2.1 14 fr := by
    rw [r3ua, if_neg (fun q => absurd q.1 (by decide)), r3ua, if_neg (fun q => absurd q.1 (by decide)), r3ua, if_pos ⟨rfl, rfl⟩]
  have g15 : (rf_ua (rf_ua (rf_ua (rf_ub σ 13 to (σ.2.2.2 13 fr)) 14 to (σ.2.2.1 14 fr)) 15 to (σ.2.2.1 15 fr)) 16 to (σ.2.2.1 16 fr)).2.2.1 15 to = σ.2.2.1 15 fr := by
    rw [r3ua, if_neg (fun q => absurd q.1 (by decide)), r3ua, if_pos ⟨rfl, rfl⟩]
  have g16 : (rf_ua (rf_ua (rf_ua (rf_ub σ 13 to (σ.2.2.2 13 fr)) 14 to (σ.2.2.1 14 fr)) 15 to (σ.2.2.1 15 fr)) 16 to (σ.2.2.1 16 fr)).2.2.1 16 to = σ.2.2.1 16 fr := by
    rw [r3ua, if_pos ⟨rfl, rfl⟩]
  have go : ∀ k j, (k = 14 ∨ k = 15 ∨ k = 16 → j ≠ to) → (rf_ua (rf_ua (rf_ua (rf_ub σ 13 to (σ.2.2.2 13 fr)) 14 to (σ.2.2.1 14 fr)) 15 to (σ.2.2.1 15 fr)) 16 to (σ.2.2.1 16 fr)).2.2.1 k j = σ.2.2.1 k j := by
    intro k j hk
    rw [r3ua, if_neg (fun q => hk (by omega) q.2), r3ua, if_neg (fun q => hk (by omega) q.2), r3ua, if_neg (fun q => hk (by omega) q.2), r3ub]
  have g13 : ∀ k j, (rf_ua (rf_ua (rf_ua (rf_ub σ 13 to (σ.2.2.2 13 fr)) 14 to (σ.2.2.1 14 fr)) 15 to (σ.2.2.1 15 fr)) 16 to (σ.2.2.1 16 fr)).2.2.2 k j = if k = 13 ∧ j = to then σ.2.2.2 13 fr else σ.2.2.2 k j := by
    intro k j
    rw [r4ua, r4ua, r4ua, r4ub]
  generalize hσ1 : rf_ua (rf_ua (rf_ua (rf_ub σ 13 to (σ.2.2.2 13 fr)) 14 to (σ.2.2.1 14 fr)) 15 to (σ.2.2.1 15 fr)) 16 to (σ.2.2.1 16 fr) = σ1 at g14 g15 g16 go g13
  have i1i : σ1.1 = σ.1 := by rw [← hσ1]; rfl
  have i1l : σ1.2.1 = σ.2.1 := by rw [← hσ1]; rfl
  obtain ⟨hT1, eF, eC⟩ := h.on (σ1 := σ1) (te1 := te) (cu := to) (Nat.le_refl _) hte hcu (by rw [i1i]) (fun j _ => go 24 j (by omega)) (fun j => go 25 j (by omega)) (fun k j hk hj => go k j (fun _ => by omega)) (fun j _ => go 18 j (by omega))
  have hW1 : vW σ1 te to := hfr.on (by omega) (Nat.le_refl _) g14 g15 g16
  have hC1 : vC σ1 to = vC σ fr := vC.on hfr hte g14 g15 g16 (fun j _ => go 18 j (by omega))
  obtain ⟨σ', w, nv', re, hT', a1, a2, hnF, a3, a4, a5, a6⟩ := rnu hT1 hnv hW1 hte
  have hvC : vC σ' to = vC σ1 to := hnF.vc
  refine ⟨σ', w, nv', fun Q hQ => ?_, hT', a1, a2, ⟨fun k hk => by rw [hnF.1 k hk, i1i], by rw [hnF.2.1, i1l], fun k j b1 b2 b3 => ?_, fun k j b => ?_⟩, fun v hv => ?_, a3, a4, a5, hvC.trans hC1, hnF.vw.mpr hW1, ?_, ?_, ?_, ?_⟩
  · refine ⟨i1 13 (by omega), i2 13 (by omega), i1 14 (by omega), i2 14 (by omega), i1 15 (by omega), i2 15 (by omega), i1 16 (by omega), i2 16 (by omega), ?_⟩
    rw [nI_clamp hfr31, nI_clamp hto31, hs, hσ1]
    exact re Q hQ
  · rw [hnF.2.2.1 k j b1 (fun q => b2 (by omega)) b3]
    exact go k j (fun q => b2 (by omega))
  · rw [hnF.2.2.2, g13, if_neg (fun q => b q.1 q.2)]
  · rcases a6 v hv with e | ⟨e1, e2⟩
    · omega
    · rw [e2, eF v e1]; have := hcu v e1; omega
  · rw [hnF.2.2.2, g13, if_pos ⟨rfl, rfl⟩]
  · rw [hnF.2.2.1 14 to (by decide) (by omega) (by omega)]; exact g14
  · rw [hnF.2.2.1 15 to (by decide) (by omega) (by omega)]; exact g15
  · rw [hnF.2.2.1 16 to (by decide) (by omega) (by omega)]; exact g16
