/-! ===== the reference: one event more ===== -/
/-- all is as it was but event ne and beyond, and the table of values beyond nv -/
def eB (σ σ' : rf_S) (ne nv te : Nat) : Prop :=
  (∀ k, 62 ≤ k ∧ k ≤ 83 → σ'.1 k = σ.1 k) ∧
  (∀ k j, 8 ≤ k ∧ k ≠ 62 ∧ k ≤ 83 → k ≠ 25 → (k = 8 ∨ k = 9 ∨ k = 10 → j < ne) → (k = 14 ∨ k = 15 ∨ k = 16 ∨ k = 17 → j < 8 * ne) → (k = 24 → j < nv) → (k = 18 → j < te) → σ'.2.2.1 k j = σ.2.2.1 k j) ∧
  (∀ k j, (k = 11 ∨ k = 12 → j < ne) → (k = 13 → j < 8 * ne) → 11 ≤ k → σ'.2.2.2 k j = σ.2.2.2 k j)
section EBS
variable {σ σ' : rf_S} {ne nv te : Nat}
theorem eB.mn (h : eB σ σ' ne nv te) {o : Nat} (ho : o < ne) : mN σ' o = mN σ o := by
  unfold mN
  rw [h.2.1 9 o (by omega) (by omega) (by omega) (by omega) (by omega) (by omega)]
theorem eB.fo (h : eB σ σ' ne nv te) {o m : Nat} (ho : o < ne) (hm : σ.2.2.1 9 o = nI m) (hm8 : m ≤ 8) (c : Int64) : fO σ' o c = fO σ o c := by
  unfold fO
  rw [h.mn ho]
  refine fdx_cong _ _ (fun j _ hj => ?_)
  have : mN σ o = m := by unfold mN; rw [hm, nI_clamp (by omega)]
  rw [h.2.2 13 (8 * o + j) (by omega) (by omega) (by omega)]
theorem eB.vc (h : eB σ σ' ne nv te) (hte : te ≤ 24000) {g : Nat} (hg : g < 8 * ne) (hv : vW σ te g) : vC σ' g = vC σ g :=
  vC.on hv hte (h.2.1 14 g (by omega) (by omega) (by omega) (by omega) (by omega) (by omega)) (h.2.1 15 g (by omega) (by omega) (by omega) (by omega) (by omega) (by omega)) (h.2.1 16 g (by omega) (by omega) (by omega) (by omega) (by omega) (by omega)) (fun j hj => h.2.1 18 j (by omega) (by omega) (by omega) (by omega) (by omega) (by omega))
theorem eB.vw (h : eB σ σ' ne nv te) {g te' : Nat} (hte : te ≤ te') (hg : g < 8 * ne) (hv : vW σ te g) : vW σ' te' g :=
  hv.on hv.1 hte (h.2.1 14 g (by omega) (by omega) (by omega) (by omega) (by omega) (by omega)) (h.2.1 15 g (by omega) (by omega) (by omega) (by omega) (by omega) (by omega)) (h.2.1 16 g (by omega) (by omega) (by omega) (by omega) (by omega) (by omega))
theorem eB.kh (h : eB σ σ' ne nv te) {b n o m : Nat} (ho : o < ne) (hm : σ.2.2.1 9 o = nI m) (hm8 : m ≤ 8) : kH σ' b n o ↔ kH σ b n o := by
  unfold kH
  constructor
  · intro z k hk
    obtain ⟨i, hi⟩ := z k hk
    rw [h.fo ho hm hm8, h.2.2 37 _ (by omega) (by omega) (by omega)] at hi
    exact ⟨i, hi⟩
  · intro z k hk
    obtain ⟨i, hi⟩ := z k hk
    exact ⟨i, by rw [h.fo ho hm hm8, h.2.2 37 _ (by omega) (by omega) (by omega)]; exact hi⟩
theorem eB.km (h : eB σ σ' ne nv te) {b n o o' m m' : Nat} (ho : o < ne) (hm : σ.2.2.1 9 o = nI m) (hm8 : m ≤ 8) (ho' : o' < ne) (hm' : σ.2.2.1 9 o' = nI m') (hm8' : m' ≤ 8) : kM σ' b n o o' ↔ kM σ b n o o' := by
  unfold kM
  constructor
  · intro z k hk
    obtain ⟨i, j, h1, h2, h3⟩ := z k hk
    rw [h.fo ho hm hm8, h.2.2 37 _ (by omega) (by omega) (by omega)] at h1
    rw [h.fo ho' hm' hm8', h.2.2 37 _ (by omega) (by omega) (by omega)] at h2
    have l1 := (fO_lt hm hm8 h1).1
    have l2 := (fO_lt hm' hm8' h2).1
    rw [h.2.1 17 _ (by omega) (by omega) (by omega) (by omega) (by omega) (by omega), h.2.1 17 _ (by omega) (by omega) (by omega) (by omega) (by omega) (by omega)] at h3
    exact ⟨i, j, h1, h2, h3⟩
  · intro z k hk
    obtain ⟨i, j, h1, h2, h3⟩ := z k hk
    have l1 := (fO_lt hm hm8 h1).1
    have l2 := (fO_lt hm' hm8' h2).1
    refine ⟨i, j, by rw [h.fo ho hm hm8, h.2.2 37 _ (by omega) (by omega) (by omega)]; exact h1, by rw [h.fo ho' hm' hm8', h.2.2 37 _ (by omega) (by omega) (by omega)]; exact h2, ?_⟩
    rw [h.2.1 17 _ (by omega) (by omega) (by omega) (by omega) (by omega) (by omega), h.2.1 17 _ (by omega) (by omega) (by omega) (by omega) (by omega) (by omega)]
    exact h3
/-- the numbers of values follow from the table -/
theorem wq_of (h : nT σ te nv) (hf : ∀ o i, o < ne → i < mN σ o → ∃ v, v < nv ∧ σ.2.2.1 17 (8 * o + i) = nI v ∧ vC σ (fF σ v) = vC σ (8 * o + i)) : wqI σ ne := fun x y i j h1 h2 h3 h4 => by
  obtain ⟨v, v1, v2, v3⟩ := hf x i h1 h3
  obtain ⟨w, w1, w2, w3⟩ := hf y j h2 h4
  have hnv := h.2.1
  refine ⟨?_, v, by omega, v2⟩
  rw [v2, w2, ← v3, ← w3]
  constructor
  · intro z
    rw [(nI_eq (by omega) (by omega)).mp z]
  · intro z
    rw [h.2.2.2.2.2.2 v w v1 w1 z]
/-- the dynamic part of the reference, with one event more -/
theorem jD.eb {bk nr nl na ns : Nat} {n pr lr le : Nat → Nat} (h : jD σ nr bk nl na ns n pr lr le) (hE : eB σ σ' ne nv te) (hp : ∀ r, r < nr → pr r ≤ ne) (hmn : ∀ o, o < ne → ∃ m, m ≤ 8 ∧ σ.2.2.1 9 o = nI m) : jD σ' nr bk nl na ns n pr lr le := by
  have row : ∀ k, 63 ≤ k ∧ k ≤ 83 → σ'.2.2.1 k = σ.2.2.1 k := fun k hk => funext fun j => hE.2.1 k j (by omega) (by omega) (by omega) (by omega) (by omega) (by omega)
  have int : ∀ k, 62 ≤ k ∧ k ≤ 83 → σ'.1 k = σ.1 k := fun k hk => hE.1 k hk
  obtain ⟨h1, h2, h3, h4, h5, h6⟩ := h
  have ew : ∀ r, wct σ' r nl = wct σ r nl := fun r => by unfold wct; rw [row 69 (by omega), row 71 (by omega)]
  have ef : fct σ' nr = fct σ nr := by unfold fct; rw [row 67 (by omega)]
  refine ⟨fun r hr => ?_, ⟨by rw [int 72 (by omega)]; exact h2.1, h2.2.1, fun j hj => ?_⟩, by rw [int 78 (by omega)]; exact h3, by rw [ef]; exact h4, by rw [int 83 (by omega)]; exact h5, by rw [ef]; exact h6⟩
  · obtain ⟨a1, ⟨a2, a3⟩, a4, a5, F, a6, a7, a8⟩ := h1 r hr
    have hpr := hp r hr
    have lt : ∀ o, o < 4000 → ¬ σ.2.2.1 63 (4000 * r + o) = -1 → o < ne := fun o ho hne => by
      by_cases c : o < pr r
      · omega
      · exact absurd (a4 o (by omega) ho) hne
    refine ⟨a1, ⟨fun o ho => ?_, fun f g f1 g1 f2 g2 hk => ?_⟩, by rw [row 63 (by omega)]; exact a4, by rw [row 63 (by omega), row 64 (by omega)]; exact a5, F, by rw [row 67 (by omega)]; exact a6, by rw [ew]; exact a7, by rw [row 65 (by omega), row 66 (by omega)]; exact a8⟩
    · rw [row 63 (by omega)]
      rcases a2 o ho with z | ⟨f, z1, z2, z3, z4, z5⟩
      · exact Or.inl z
      · have l1 := lt o ho (by rw [z2]; exact nI_m f (by omega))
        obtain ⟨m, m1, m2⟩ := hmn o l1
        obtain ⟨m', m3, m4⟩ := hmn f (by omega)
        exact Or.inr ⟨f, z1, z2, z3, (hE.kh l1 m2 m1).mpr z4, (hE.km (by omega) m4 m3 l1 m2 m1).mpr z5⟩
    · rw [row 63 (by omega)] at f2 g2
      have l1 := lt f f1 (by rw [f2]; exact nI_m f (by omega))
      have l2 := lt g g1 (by rw [g2]; exact nI_m g (by omega))
      obtain ⟨m, m1, m2⟩ := hmn f l1
      obtain ⟨m', m3, m4⟩ := hmn g l2
      exact a3 f g f1 g1 f2 g2 ((hE.km l1 m2 m1 l2 m4 m3).mp hk)
  · rw [row 69 (by omega), row 70 (by omega), row 71 (by omega), row 63 (by omega)]
    exact h2.2.2 j hj
theorem RD.more {bk nr na ns nl now te' nv' m : Nat} {x n w pr lr le tm : Nat → Nat} (hD : RD σ bk nr x n w te nv ne na ns nl now pr lr le tm) (hE : eB σ σ' ne nv te) (hne : ne < 4000) (h19 : σ'.1 19 = nI (ne + 1)) (h21 : σ'.1 21 = nI now) (hte : te ≤ te') (hte' : te' ≤ 24000) (hT : nT σ' te' nv') (hF : ∀ v, v < nv' → fF σ' v < 8 * (ne + 1)) (hnv : nv ≤ nv') (hnv' : nv' ≤ 8 * (ne + 1)) (hev : eW σ' te' ne m) (h8 : σ'.2.2.1 8 ne = nI now) (h10 : σ'.2.2.1 10 ne = -1 ∨ ∃ mk, mk < nr ∧ σ'.2.2.1 10 ne = nI mk) (hnum : ∀ i, i < m → ∃ v, v < nv' ∧ σ'.2.2.1 17 (8 * ne + i) = nI v ∧ vC σ' (fF σ' v) = vC σ' (8 * ne + i)) : RD σ' bk nr x n w te' nv' (ne + 1) na ns nl now pr lr le (prU tm ne now) := by
  obtain ⟨⟨d1, d2, d3, d4, d5⟩, d6, d7, ⟨d8a, d8, d8b, d8c, d8d⟩, d9, d10, d11, d12, d13, d14⟩ := hD
  have hmn : ∀ o, o < ne → ∃ m, m ≤ 8 ∧ σ.2.2.1 9 o = nI m := fun o ho => by
    obtain ⟨⟨m, g⟩, -⟩ := d6 o ho
    exact ⟨m, g.2.1, g.2.2.1⟩
  have row : ∀ k, 63 ≤ k ∧ k ≤ 83 → σ'.2.2.1 k = σ.2.2.1 k := fun k hk => funext fun j => hE.2.1 k j (by omega) (by omega) (by omega) (by omega) (by omega) (by omega)
  have sel : ∀ o, o < ne + 1 → o = ne ∨ o < ne := fun o ho => by omega
  have num : ∀ o i, o < ne + 1 → i < mN σ' o → ∃ v, v < nv' ∧ σ'.2.2.1 17 (8 * o + i) = nI v ∧ vC σ' (fF σ' v) = vC σ' (8 * o + i) := fun o i ho hi => by
    rcases sel o ho with rfl | ho'
    · have : mN σ' o = m := by unfold mN; rw [hev.2.2.1, nI_clamp (by have := hev.2.1; omega)]
      rw [this] at hi
      exact hnum i hi
    · rw [hE.mn ho'] at hi
      obtain ⟨⟨m', g⟩, -⟩ := d6 o ho'
      have hmm : mN σ o = m' := by unfold mN; rw [g.2.2.1, nI_clamp (by have := g.2.1; omega)]
      obtain ⟨v, v1, v2, v3⟩ := d8b o i ho' hi
      have gm := g.2.1
      refine ⟨v, by omega, by rw [hE.2.1 17 _ (by omega) (by omega) (by omega) (by omega) (by omega) (by omega)]; exact v2, ?_⟩
      have eF : fF σ' v = fF σ v := by unfold fF; rw [hE.2.1 24 v (by omega) (by omega) (by omega) (by omega) (by omega) (by omega)]
      rw [eF, hE.vc d3 (d8d v v1) (d8a.2.2.2.1 v v1).2, hE.vc d3 (by omega) (g.2.2.2 i (by omega))]
      exact v3
  refine ⟨⟨h19, by omega, hte', h21, d5⟩, fun o ho => ?_, fun o o' h1 h2 => ?_, ⟨hT, wq_of hT num, num, hnv', hF⟩, fun v => by rw [row 68 (by omega)]; exact d9 v, d10.eb hE d11 hmn, fun r hr => by have := d11 r hr; omega, fun r f hr hf hk => ?_, fun j hj h0 => ?_, d14⟩
  · rcases sel o ho with rfl | ho'
    · rw [prU_r]
      exact ⟨⟨m, hev⟩, h8, Nat.le_refl _, h10⟩
    · obtain ⟨⟨m', g1, g2, g3, g4⟩, g5, g6, g7⟩ := d6 o ho'
      rw [prU_o (by omega), hE.2.1 8 o (by omega) (by omega) (by omega) (by omega) (by omega) (by omega), hE.2.1 10 o (by omega) (by omega) (by omega) (by omega) (by omega) (by omega)]
      exact ⟨⟨m', g1, g2, by rw [hE.2.1 9 o (by omega) (by omega) (by omega) (by omega) (by omega) (by omega)]; exact g3, fun k hk => hE.vw hte (by omega) (g4 k hk)⟩, g5, g6, g7⟩
  · rcases sel o' h2 with rfl | h2'
    · rw [prU_r]
      by_cases c : o = o'
      · rw [c, prU_r]; exact Nat.le_refl _
      · rw [prU_o c]; exact (d6 o (by omega)).2.2.1
    · rw [prU_o (by omega), prU_o (by omega)]; exact d7 o o' h1 h2'
  · rw [row 65 (by omega), row 66 (by omega)]
    refine d12 r f hr hf (fun z => hk ⟨z.1, ?_⟩)
    rw [row 63 (by omega)]; exact z.2
  · rw [row 71 (by omega)] at h0
    obtain ⟨l1, l2, -⟩ := d10.2.1.2.2 j hj
    have := d11 (lr j) l1
    rw [prU_o (by omega)]
    exact d13 j hj h0
end EBS
