/-! ===== the reference alone: the invariants, a rule's look done ===== -/
section JDF
variable {σ σ' : rf_S} {nr bk nl na ns na' ns' r e f : Nat} {bn pr lr le : Nat → Nat}
/-- something found -/
theorem jD.fnd (h : jD σ nr bk nl na ns bn pr lr le) (hr : r < nr) (hs : slk σ r e nl) (hpe : pr r = e + 1) (he : e < 4000) (hf : f < 4000) (hE : eV σ σ') (hrow : ∀ k, (k = 63 ∨ k = 64 ∨ k = 69 ∨ k = 70 ∨ k = 71) → σ'.2.2.1 k = σ.2.2.1 k) (h67 : ∀ j, σ'.2.2.1 67 j = if j = r then σ.2.2.1 67 r + 1 else σ.2.2.1 67 j)
    (h65 : ∀ j, σ'.2.2.1 65 j = σ.2.2.1 65 j ∨ (j = 4000 * r + f ∧ ∃ la, la ≤ 2000000000 ∧ σ'.2.2.1 65 j = nI la)) (h66 : ∀ j, σ'.2.2.1 66 j = σ.2.2.1 66 j ∨ (j = 4000 * r + f ∧ (σ'.2.2.1 66 j = 0 ∨ σ'.2.2.1 66 j = σ.2.2.1 66 j + 1))) (h72 : σ'.1 72 = σ.1 72) (h78 : σ'.1 78 = nI na') (hna : na' ≤ na + 1) (h83 : σ'.1 83 = nI ns') (hns : ns' ≤ ns + 1) : jD σ' nr bk nl na' ns' bn pr lr le := by
  obtain ⟨h1, ⟨l1, l2, l3⟩, i78, ina, i83, ins⟩ := h
  have hwct : ∀ r', wct σ' r' nl = wct σ r' nl := fun r' => by
    unfold wct
    rw [hrow 69 (by omega), hrow 71 (by omega)]
  obtain ⟨F, s1, s2⟩ := hs
  have hw0 : 0 ≤ wct σ r nl := sS_nn (fun _ => by decide) nl
  have hF : F ≤ e := by omega
  have hfct : fct σ' nr = fct σ nr + 1 := by
    refine sS_inc hr (fun x hx => ?_) ?_
    · rw [h67, if_neg hx]
    · rw [h67, if_pos rfl, s1, nI_1, nI_toInt (by omega), nI_toInt (by omega)]; omega
  refine ⟨fun r' hr' => ?_, ⟨by rw [h72]; exact l1, l2, fun j hj => ?_⟩, h78, by omega, h83, by omega⟩
  · by_cases er : r' = r
    · subst er
      obtain ⟨a1, a2, a3, a4, F', a5, a6, a7⟩ := h1 r' hr'
      have hp4 : pr r' ≤ 4000 := a1
      have hFF : F' = F := by
        have hw1 : (F' : Int) ≤ 4000 := by omega
        rw [s1] at a5
        exact ((nI_eq (by omega) (by omega)).mp a5).symm
      subst hFF
      refine ⟨a1, a2.on hE (fun o _ => by rw [hrow 63 (by omega)]), fun o x y => by rw [hrow 63 (by omega)]; exact a3 o x y, fun o y z => ?_, F' + 1, by rw [h67, if_pos rfl, s1, nI_1], by rw [hwct]; omega, fun f' hf' => ⟨?_, ?_⟩⟩
      · rw [hrow 63 (by omega)] at z
        rw [hrow 64 (by omega)]; exact a4 o y z
      · rcases h65 (4000 * r' + f') with z | ⟨-, z⟩
        · rw [z]; exact (a7 f' hf').1
        · exact Or.inr z
      · obtain ⟨h0, b1, b2⟩ := (a7 f' hf').2
        rcases h66 (4000 * r' + f') with z | ⟨-, z | z⟩
        · rw [z]; exact ⟨h0, by omega, b2⟩
        · exact ⟨0, by omega, z⟩
        · exact ⟨h0 + 1, by omega, by rw [z, b2, nI_1]⟩
    · refine (h1 r' hr').on hE (fun k hk o ho => ?_) (by rw [h67, if_neg er]) (by rw [hwct]; exact Int.le_refl _)
      rcases hk with rfl | rfl | rfl | rfl
      · rw [hrow 63 (by omega)]
      · rw [hrow 64 (by omega)]
      · rcases h65 (4000 * r' + o) with z | ⟨z, -⟩
        · exact z
        · omega
      · rcases h66 (4000 * r' + o) with z | ⟨z, -⟩
        · exact z
        · omega
  · rw [hrow 69 (by omega), hrow 70 (by omega), hrow 71 (by omega), hrow 63 (by omega)]; exact l3 j hj
/-- answered -/
theorem jD.ans (h : jD σ nr bk nl na ns bn pr lr le) (hl : l71 σ σ') (ha : ∀ j, j < nl → σ'.2.2.1 71 j = 1 ∨ σ'.2.2.1 71 j = σ.2.2.1 71 j) : jD σ' nr bk nl na ns bn pr lr le ∧ (slk σ r e nl → slk σ' r e nl) := by
  obtain ⟨h1, ⟨l1, l2, l3⟩, i78, ina, i83, ins⟩ := h
  have hE : eV σ σ' := hl.ge.ev
  have hw : ∀ r', wct σ' r' nl ≤ wct σ r' nl := fun r' => by
    unfold wct
    refine sS_mono nl (fun x _ hx hP => ?_)
    obtain ⟨p1, p2⟩ := hP
    rw [hl.2.2.1 69 (by decide)] at p1
    refine ⟨p1, ?_⟩
    rcases ha x (by omega) with z | z
    · rw [z] at p2; exact absurd p2 (by decide)
    · rw [← z]; exact p2
  refine ⟨⟨fun r' hr' => (h1 r' hr').on hE (fun k hk o ho => ?_) (by rw [hl.2.2.1 67 (by decide)]) (hw r'), ⟨by rw [hl.1]; exact l1, l2, fun j hj => ?_⟩, by rw [hl.1]; exact i78, ?_, by rw [hl.1]; exact i83, ?_⟩, fun ⟨F, s1, s2⟩ => ⟨F, by rw [hl.2.2.1 67 (by decide)]; exact s1, by have := hw r; omega⟩⟩
  · rcases hk with rfl | rfl | rfl | rfl
    · rw [hl.2.2.1 63 (by decide)]
    · rw [hl.2.2.1 64 (by decide)]
    · rw [hl.2.2.1 65 (by decide)]
    · rw [hl.2.2.1 66 (by decide)]
  · obtain ⟨b1, b2, b3, b4, b5, b6⟩ := l3 j hj
    rw [hl.2.2.1 69 (by decide), hl.2.2.1 70 (by decide), hl.2.2.1 63 (by decide)]
    refine ⟨b1, b2, b3, b4, ?_, b6⟩
    rcases ha j hj with z | z
    · exact Or.inr z
    · rw [z]; exact b5
  · unfold fct; rw [hl.2.2.1 67 (by decide)]; exact ina
  · unfold fct; rw [hl.2.2.1 67 (by decide)]; exact ins
/-- one more waits -/
theorem jD.wts (h : jD σ nr bk nl na ns bn pr lr le) (hr : r < nr) (hs : slk σ r e nl) (hpe : pr r = e + 1) (he : e < 4000) (hn : (nl : Int) + 1 ≤ sS (fun _ => True) (fun r => (pr r : Int)) 0 nr) (hf : f ≤ e) (hk : σ.2.2.1 63 (4000 * r + e) = nI f) (hr12 : nr ≤ 12) : jD (wtS σ r e nl) nr bk (nl + 1) na ns bn pr (prU lr nl r) (prU le nl e) := by
  obtain ⟨h1, ⟨l1, l2, l3⟩, i78, ina, i83, ins⟩ := h
  have hE : eV σ (wtS σ r e nl) := ((((gE.rfl.ua (by omega)).ua (by omega)).ua (by omega)).ui (by omega)).ev
  have hrow : ∀ k, k ≠ 69 → k ≠ 70 → k ≠ 71 → (wtS σ r e nl).2.2.1 k = σ.2.2.1 k := fun k a b c => funext fun j => by
    unfold wtS
    rw [r3ui, r3ua, if_neg (fun z => c z.1), r3ua, if_neg (fun z => b z.1), r3ua, if_neg (fun z => a z.1)]
  have r69 : ∀ j, (wtS σ r e nl).2.2.1 69 j = if j = nl then nI r else σ.2.2.1 69 j := fun j => by
    unfold wtS
    rw [r3ui, r3ua, if_neg (fun z => absurd z.1 (by decide)), r3ua, if_neg (fun z => absurd z.1 (by decide)), r3ua]
    by_cases c : j = nl
    · rw [if_pos ⟨rfl, c⟩, if_pos c]
    · rw [if_neg (fun z => c z.2), if_neg c]
  have r70 : ∀ j, (wtS σ r e nl).2.2.1 70 j = if j = nl then nI e else σ.2.2.1 70 j := fun j => by
    unfold wtS
    rw [r3ui, r3ua, if_neg (fun z => absurd z.1 (by decide)), r3ua]
    by_cases c : j = nl
    · rw [if_pos ⟨rfl, c⟩, if_pos c]
    · rw [if_neg (fun z => c z.2), if_neg c, r3ua, if_neg (fun z => absurd z.1 (by decide))]
  have r71 : ∀ j, (wtS σ r e nl).2.2.1 71 j = if j = nl then 0 else σ.2.2.1 71 j := fun j => by
    unfold wtS
    rw [r3ui, r3ua]
    by_cases c : j = nl
    · rw [if_pos ⟨rfl, c⟩, if_pos c]
    · rw [if_neg (fun z => c z.2), if_neg c, r3ua, if_neg (fun z => absurd z.1 (by decide)), r3ua, if_neg (fun z => absurd z.1 (by decide))]
  have hi : ∀ k, k ≠ 72 → (wtS σ r e nl).1 k = σ.1 k := fun k a => by unfold wtS; rw [r1ui, if_neg a]; rfl
  have h72 : (wtS σ r e nl).1 72 = nI (nl + 1) := by unfold wtS; rw [r1ui, if_pos rfl]
  have hwct : ∀ r', wct (wtS σ r e nl) r' (nl + 1) = wct σ r' nl + (oneIf (nI r = nI r' ∧ (0 : Int32) = 0) : Int) := fun r' => by
    have e1 : wct (wtS σ r e nl) r' (nl + 1) = sS (fun j => (wtS σ r e nl).2.2.1 69 j = nI r' ∧ (wtS σ r e nl).2.2.1 71 j = 0) (fun _ => 1) 0 nl + (oneIf ((wtS σ r e nl).2.2.1 69 (0 + nl) = nI r' ∧ (wtS σ r e nl).2.2.1 71 (0 + nl) = 0) : Int) * 1 := rfl
    rw [e1, Nat.zero_add, r69, if_pos rfl, r71, if_pos rfl, Int.mul_one]
    congr 1
    refine sS_cong nl (fun x _ hx => ⟨?_, fun _ => rfl⟩)
    show ((wtS σ r e nl).2.2.1 69 x = nI r' ∧ (wtS σ r e nl).2.2.1 71 x = 0) ↔ _
    rw [r69, if_neg (by omega), r71, if_neg (by omega)]
  obtain ⟨F, s1, s2⟩ := hs
  have hw0 : ∀ r', 0 ≤ wct σ r' nl := fun r' => sS_nn (fun _ => by decide) nl
  generalize wtS σ r e nl = τ at *
  refine ⟨fun r' hr' => ?_, ⟨h72, by omega, fun j hj => ?_⟩, by rw [hi 78 (by decide)]; exact i78, ?_, by rw [hi 83 (by decide)]; exact i83, ?_⟩
  · by_cases er : r' = r
    · subst er
      obtain ⟨a1, a2, a3, a4, F', a5, a6, a7⟩ := h1 r' hr'
      have hw1 := hw0 r'
      have hFF : F' = F := by
        rw [s1] at a5
        exact ((nI_eq (by omega) (by omega)).mp a5).symm
      subst hFF
      have hwe := hwct r'
      rw [one_y ⟨rfl, rfl⟩] at hwe
      exact ⟨a1, a2.on hE (fun o _ => by rw [hrow 63 (by decide) (by decide) (by decide)]), fun o x y => by rw [hrow 63 (by decide) (by decide) (by decide)]; exact a3 o x y, fun o y z => by rw [hrow 63 (by decide) (by decide) (by decide)] at z; rw [hrow 64 (by decide) (by decide) (by decide)]; exact a4 o y z, F', by rw [hrow 67 (by decide) (by decide) (by decide)]; exact a5, by omega, fun f' hf' => by rw [hrow 65 (by decide) (by decide) (by decide), hrow 66 (by decide) (by decide) (by decide)]; exact a7 f' hf'⟩
    · have hwe := hwct r'
      rw [one_n (fun z => er ((nI_eq (by omega) (by omega)).mp z.1).symm)] at hwe
      refine (h1 r' hr').on hE (fun k hk o ho => ?_) (by rw [hrow 67 (by decide) (by decide) (by decide)]) (by omega)
      rcases hk with rfl | rfl | rfl | rfl
      · rw [hrow 63 (by decide) (by decide) (by decide)]
      · rw [hrow 64 (by decide) (by decide) (by decide)]
      · rw [hrow 65 (by decide) (by decide) (by decide)]
      · rw [hrow 66 (by decide) (by decide) (by decide)]
  · rw [r69, r70, r71, hrow 63 (by decide) (by decide) (by decide)]
    by_cases c : j = nl
    · subst c
      rw [prU_r, prU_r, if_pos rfl, if_pos rfl, if_pos rfl]
      exact ⟨hr, by omega, rfl, rfl, Or.inl rfl, f, hf, hk⟩
    · rw [prU_o c, prU_o c, if_neg c, if_neg c, if_neg c]
      exact l3 j (by omega)
  · unfold fct; rw [hrow 67 (by decide) (by decide) (by decide)]; exact ina
  · unfold fct; rw [hrow 67 (by decide) (by decide) (by decide)]; exact ins
end JDF
/-- a rule has looked at an event -/
theorem lkD.jd {σ σ' : rf_S} {nr bk nl na ns r e x k n w q : Nat} {bn pr lr le tm wi : Nat → Nat} {dp : Nat → Nat} {tr : (c : Nat) → cT (dp c)} {ud : Nat} {ut : Option (cT ud)} (h : jD σ nr bk nl na ns bn pr lr le) (hr12 : nr ≤ 12) (hr : r < nr) (hp : pr r = e) (he : e < 4000) (hn : bn r = n) (ht : tm e ≤ 2000000000) (g : lkD σ r (12 * bk + r) e x k n w q nl na ns tm lr le wi dp tr ud ut σ') : ∃ nl' na' ns' lr' le', jD σ' nr bk nl' na' ns' bn (prU pr r (e + 1)) lr' le' := by
  subst hn
  rcases g with ⟨g1, g2⟩ | ⟨f, B, σ2, g1, g2, g3, g4, g5, g6, g7, g8⟩
  · -- no key
    refine ⟨nl, na, ns, lr, le, ?_⟩
    have hun : σ.2.2.1 63 (4000 * r + e) = -1 := (h.1 r hr).2.2.1 e (by omega) he
    have e1 : ∀ k j, σ'.2.2.1 k j = σ.2.2.1 k j := fun k j => by
      rw [g2, r3ua]
      by_cases c : k = 63 ∧ j = 4000 * r + e
      · rw [if_pos c, c.1, c.2, hun]
      · rw [if_neg c]
    have e2 : σ' = σ := by
      have : σ'.2.2.1 = σ.2.2.1 := funext fun k => funext fun j => e1 k j
      have q1 : σ'.1 = σ.1 := by rw [g2]; rfl
      have q2 : σ'.2.1 = σ.2.1 := by rw [g2]; rfl
      have q3 : σ'.2.2.2 = σ.2.2.2 := by rw [g2]; rfl
      exact Prod.ext q1 (Prod.ext q2 (Prod.ext this q3))
    rw [e2]
    refine h.up (fun r' hr' => ?_)
    by_cases c : r' = r
    · rw [c, prU_r]; omega
    · rw [prU_o c]; exact ⟨Nat.le_refl _, (h.1 r' hr').1⟩
  · obtain ⟨hk1, hs1⟩ := h.key hr hp he g1 g2 g3 g4
    have hsum := pr_inc (pr := pr) hr hp
    have hl2 := h.2.1.2.1
    have hfe : f ≤ e := by rcases g2 with z | z <;> omega
    have hkey : (rf_ua σ2 64 (4000 * r + e) (nI B)).2.2.1 63 (4000 * r + e) = nI f := by
      rw [r3ua, if_neg (fun z => absurd z.1 (by decide)), g3.2.2.1 63 (by decide), r3ua, if_pos ⟨rfl, rfl⟩]
    have e71 : (rf_ua σ2 64 (4000 * r + e) (nI B)).2.2.1 71 = σ.2.2.1 71 := funext fun j => by rw [r3ua, if_neg (fun z => absurd z.1 (by decide)), g3.2.2.1 71 (by decide), r3ua, if_neg (fun z => absurd z.1 (by decide))]
    have e66 : (rf_ua σ2 64 (4000 * r + e) (nI B)).2.2.1 66 = σ.2.2.1 66 := funext fun j => by rw [r3ua, if_neg (fun z => absurd z.1 (by decide)), g3.2.2.1 66 (by decide), r3ua, if_neg (fun z => absurd z.1 (by decide))]
    generalize rf_ua σ2 64 (4000 * r + e) (nI B) = σ3 at *
    rcases g8 with ⟨-, σ4, c1, c2, c3, c4⟩ | ⟨-, -, z⟩ | ⟨-, -, res, -, ⟨-, z⟩ | ⟨s, hh, -, -, z1, ⟨-, z⟩ | ⟨-, z⟩⟩⟩
    · have h4 : jD σ4 nr bk nl na ns bn (prU pr r (e + 1)) lr le ∧ slk σ4 r e nl ∧ σ4.2.2.1 63 (4000 * r + e) = nI f := by
        cases b1 : B.testBit 1 with
        | true =>
          obtain ⟨d1, d2, -⟩ := c1 b1
          have d3 := hk1.ans (r := r) (e := e) d1 (fun j hj => by
            by_cases c : anS σ3 r e lr le tm wi j
            · exact Or.inl ((d2 j hj).1 c)
            · rw [e71]; exact Or.inr ((d2 j hj).2 c))
          exact ⟨d3.1, d3.2 hs1, by rw [d1.2.2.1 63 (by decide)]; exact hkey⟩
        | false => rw [c2 b1]; exact ⟨hk1, hs1, hkey⟩
      obtain ⟨h41, h42, h43⟩ := h4
      cases b0 : B.testBit 0 with
      | true =>
        rw [c3 b0]
        exact ⟨_, _, _, _, _, h41.wts hr h42 prU_r he (by omega) hfe h43 hr12⟩
      | false => rw [c4 b0]; exact ⟨_, _, _, _, _, h41⟩
    · rw [z]; exact ⟨_, _, _, _, _, hk1⟩
    · rw [z]; exact ⟨_, _, _, _, _, hk1⟩
    · refine ⟨nl, na, ns, lr, le, ?_⟩
      rw [z]
      refine hk1.fnd (f := f) (na' := na) (ns' := ns) hr hs1 prU_r he (by omega) (((gE.rfl.ua (by omega)).ua (by omega)).ui (by omega)).ev (fun k hk => funext fun j => ?_) (fun j => ?_) (fun j => Or.inl ?_) (fun j => ?_) ?_ ?_ (by omega) ?_ (by omega)
      · unfold fnH
        rw [r3ui, r3ua, if_neg (fun z => by omega), r3ua, if_neg (fun z => by omega)]
      · unfold fnH
        rw [r3ui, r3ua, if_neg (fun z => absurd z.1 (by decide)), r3ua]
        by_cases c : j = r
        · rw [if_pos ⟨rfl, c⟩, if_pos c]
        · rw [if_neg (fun z => c z.2), if_neg c]
      · unfold fnH
        rw [r3ui, r3ua, if_neg (fun z => by omega), r3ua, if_neg (fun z => by omega)]
      · unfold fnH
        rw [r3ui, r3ua]
        by_cases c : j = 4000 * r + f
        · rw [if_pos ⟨rfl, c⟩, c, e66, z1]
          exact Or.inr ⟨rfl, Or.inr (nI_1 _).symm⟩
        · rw [if_neg (fun z => c z.2), r3ua, if_neg (fun z => absurd z.1 (by decide))]
          exact Or.inl rfl
      · unfold fnH; rw [r1ui, if_neg (by decide)]; rfl
      · unfold fnH; rw [r1ui, if_neg (by decide)]; exact hk1.2.2.1
      · unfold fnH; rw [r1ui, if_neg (by decide)]; exact hk1.2.2.2.2.1
    · refine ⟨nl, na + 1, ns + 1, lr, le, ?_⟩
      rw [z]
      have hK3 : ∀ (t s hh' : Nat) k j, (k ≠ 73 ∧ k ≠ 74 ∧ k ≠ 75 ∧ k ≠ 76 ∧ k ≠ 77) → (fnK σ3 r e t s (4000 * r + f) hh' na).2.2.1 k j = (rf_ua σ3 67 r (σ3.2.2.1 67 r + 1)).2.2.1 k j := by
        intro t s hh' k j hk
        unfold fnK
        split
        · rw [r3ua, if_neg (fun z => by omega), r3ua, if_neg (fun z => by omega), r3ua, if_neg (fun z => by omega), r3ua, if_neg (fun z => by omega), r3ua, if_neg (fun z => by omega)]
        · rfl
      have hK4 : ∀ (t s hh' : Nat), eV σ3 (fnK σ3 r e t s (4000 * r + f) hh' na) := by
        intro t s hh'
        unfold fnK
        split
        · exact ((((((gE.rfl.ua (by omega)).ua (by omega)).ua (by omega)).ua (by omega)).ua (by omega)).ua (by omega)).ev
        · exact (gE.rfl.ua (by omega)).ev
      have hA3 : ∀ k j, (k ≠ 81 ∧ k ≠ 82) → (fnA σ3 r e (tm e) s (4000 * r + f) hh na ns).2.2.1 k j = if k = 66 ∧ j = 4000 * r + f then 0 else if k = 65 ∧ j = 4000 * r + f then nI (tm e) else (fnK σ3 r e (tm e) s (4000 * r + f) hh na).2.2.1 k j := by
        intro k j hk
        unfold fnA
        rw [r3ui, r3ua, if_neg (fun z => by omega), r3ua, if_neg (fun z => by omega), r3ua, r3ua, r3ui]
      have hA1 : ∀ k, k ≠ 83 → (fnA σ3 r e (tm e) s (4000 * r + f) hh na ns).1 k = if k = 78 then nI (na + 1) else σ3.1 k := by
        intro k hk
        unfold fnA
        rw [r1ui, if_neg hk]
        show (rf_ui (fnK σ3 r e (tm e) s (4000 * r + f) hh na) 78 (nI (na + 1))).1 k = _
        rw [r1ui, fnK_1]
      have hev : eV σ3 (fnA σ3 r e (tm e) s (4000 * r + f) hh na ns) := by
        refine ⟨fun k hk => funext fun j => ?_, ?_⟩
        · rw [hA3 k j (by omega), if_neg (fun z => by omega), if_neg (fun z => by omega)]
          exact congrFun ((hK4 _ _ _).1 k hk) j
        · exact (hK4 (tm e) s hh).2
      refine hk1.fnd (f := f) (na' := na + 1) (ns' := ns + 1) hr hs1 prU_r he (by omega) hev (fun k hk => funext fun j => ?_) (fun j => ?_) (fun j => ?_) (fun j => ?_) ?_ ?_ (by omega) ?_ (by omega)
      · rw [hA3 k j (by omega), if_neg (fun z => by omega), if_neg (fun z => by omega), hK3 _ _ _ _ _ (by omega), r3ua, if_neg (fun z => by omega)]
      · rw [hA3 67 j (by omega), if_neg (fun z => by omega), if_neg (fun z => by omega), hK3 _ _ _ _ _ (by omega), r3ua]
        by_cases c : j = r
        · rw [if_pos ⟨rfl, c⟩, if_pos c]
        · rw [if_neg (fun z => c z.2), if_neg c]
      · rw [hA3 65 j (by omega), if_neg (fun z => by omega)]
        by_cases c : j = 4000 * r + f
        · rw [if_pos ⟨rfl, c⟩]; exact Or.inr ⟨c, tm e, ht, rfl⟩
        · rw [if_neg (fun z => c z.2), hK3 _ _ _ _ _ (by omega), r3ua, if_neg (fun z => by omega)]; exact Or.inl rfl
      · rw [hA3 66 j (by omega)]
        by_cases c : j = 4000 * r + f
        · rw [if_pos ⟨rfl, c⟩]; exact Or.inr ⟨c, Or.inl rfl⟩
        · rw [if_neg (fun z => c z.2), if_neg (fun z => by omega), hK3 _ _ _ _ _ (by omega), r3ua, if_neg (fun z => by omega)]; exact Or.inl rfl
      · rw [hA1 72 (by decide), if_neg (by decide)]
      · rw [hA1 78 (by decide), if_pos rfl]
      · unfold fnA; rw [r1ui, if_pos rfl]
