/-! ===== what a look changes of the reference ===== -/
theorem fnH_r {σ : rf_S} {r kk h : Nat} : (∀ k, k ≠ 66 → k ≠ 67 → (fnH σ r kk h).2.2.1 k = σ.2.2.1 k) ∧ (∀ j, (fnH σ r kk h).2.2.1 66 j = if j = kk then nI (h + 1) else σ.2.2.1 66 j) ∧ (∀ j, (fnH σ r kk h).2.2.1 67 j = if j = r then σ.2.2.1 67 r + 1 else σ.2.2.1 67 j) ∧ (∀ k, k ≠ 79 → (fnH σ r kk h).1 k = σ.1 k) ∧ (fnH σ r kk h).1 79 = σ.1 79 + 1 := by
  unfold fnH
  refine ⟨fun k h1 h2 => funext fun j => ?_, fun j => ?_, fun j => ?_, fun k h1 => ?_, ?_⟩
  · simp [r3ua, r3ui, h1, h2]
  · simp [r3ua, r3ui]
  · simp [r3ua, r3ui]
  · simp [r1ui, r1ua, h1]
  · simp [r1ui, r1ua]
theorem fnA_r {σ : rf_S} {r e t s kk h na ns : Nat} : (∀ k, k ≠ 65 → k ≠ 66 → k ≠ 67 → k < 73 → (fnA σ r e t s kk h na ns).2.2.1 k = σ.2.2.1 k) ∧ (∀ j, (fnA σ r e t s kk h na ns).2.2.1 65 j = if j = kk then nI t else σ.2.2.1 65 j) ∧ (∀ j, (fnA σ r e t s kk h na ns).2.2.1 66 j = if j = kk then 0 else σ.2.2.1 66 j) ∧ (∀ j, (fnA σ r e t s kk h na ns).2.2.1 67 j = if j = r then σ.2.2.1 67 r + 1 else σ.2.2.1 67 j) ∧
    (∀ k, k ≠ 78 → k ≠ 83 → (fnA σ r e t s kk h na ns).1 k = σ.1 k) ∧ (fnA σ r e t s kk h na ns).1 78 = nI (na + 1) ∧ (fnA σ r e t s kk h na ns).1 83 = nI (ns + 1) ∧
    (∀ j, (fnA σ r e t s kk h na ns).2.2.1 81 j = if j = ns then nI r else σ.2.2.1 81 j) ∧ (∀ j, (fnA σ r e t s kk h na ns).2.2.1 82 j = if j = ns then nI e else σ.2.2.1 82 j) ∧
    (∀ k j, 73 ≤ k → k ≤ 77 → j ≠ na → (fnA σ r e t s kk h na ns).2.2.1 k j = σ.2.2.1 k j) ∧ (na < 500 → (fnA σ r e t s kk h na ns).2.2.1 73 na = nI r ∧ (fnA σ r e t s kk h na ns).2.2.1 77 na = nI t ∧ (fnA σ r e t s kk h na ns).2.2.1 74 na = nI s ∧ (fnA σ r e t s kk h na ns).2.2.1 75 na = nI e ∧ (fnA σ r e t s kk h na ns).2.2.1 76 na = nI h) := by
  unfold fnA fnK
  by_cases c : na < 500
  · rw [if_pos c]
    refine ⟨fun k h1 h2 h3 h4 => funext fun j => ?_, fun j => ?_, fun j => ?_, fun j => ?_, fun k h1 h2 => ?_, ?_, ?_, fun j => ?_, fun j => ?_, fun k j h1 h2 h3 => ?_, fun _ => ⟨?_, ?_, ?_, ?_, ?_⟩⟩
    · have : k ≠ 73 ∧ k ≠ 74 ∧ k ≠ 75 ∧ k ≠ 76 ∧ k ≠ 77 ∧ k ≠ 81 ∧ k ≠ 82 := by omega
      simp [r3ua, r3ui, h1, h2, h3, this]
    · simp [r3ua, r3ui]
    · simp [r3ua, r3ui]
    · simp [r3ua, r3ui]
    · simp [r1ui, r1ua, h1, h2]
    · simp [r1ui, r1ua]
    · simp [r1ui, r1ua]
    · simp [r3ua, r3ui]
    · simp [r3ua, r3ui]
    · have : k ≠ 65 ∧ k ≠ 66 ∧ k ≠ 67 ∧ k ≠ 81 ∧ k ≠ 82 := by omega
      simp [r3ua, r3ui, h3, this]
    all_goals simp [r3ua, r3ui]
  · rw [if_neg c]
    refine ⟨fun k h1 h2 h3 h4 => funext fun j => ?_, fun j => ?_, fun j => ?_, fun j => ?_, fun k h1 h2 => ?_, ?_, ?_, fun j => ?_, fun j => ?_, fun k j h1 h2 h3 => ?_, fun z => absurd z c⟩
    · have : k ≠ 73 ∧ k ≠ 74 ∧ k ≠ 75 ∧ k ≠ 76 ∧ k ≠ 77 ∧ k ≠ 81 ∧ k ≠ 82 := by omega
      simp [r3ua, r3ui, h1, h2, h3, this]
    · simp [r3ua, r3ui]
    · simp [r3ua, r3ui]
    · simp [r3ua, r3ui]
    · simp [r1ui, r1ua, h1, h2]
    · simp [r1ui, r1ua]
    · simp [r1ui, r1ua]
    · simp [r3ua, r3ui]
    · simp [r3ua, r3ui]
    · have : k ≠ 65 ∧ k ≠ 66 ∧ k ≠ 67 ∧ k ≠ 81 ∧ k ≠ 82 := by omega
      simp [r3ua, r3ui, h3, this]
theorem wtS_r {σ : rf_S} {r e nl : Nat} : (∀ k, k ≠ 69 → k ≠ 70 → k ≠ 71 → (wtS σ r e nl).2.2.1 k = σ.2.2.1 k) ∧ (∀ j, (wtS σ r e nl).2.2.1 69 j = if j = nl then nI r else σ.2.2.1 69 j) ∧ (∀ j, (wtS σ r e nl).2.2.1 70 j = if j = nl then nI e else σ.2.2.1 70 j) ∧ (∀ j, (wtS σ r e nl).2.2.1 71 j = if j = nl then 0 else σ.2.2.1 71 j) ∧ (∀ k, k ≠ 72 → (wtS σ r e nl).1 k = σ.1 k) ∧ (wtS σ r e nl).1 72 = nI (nl + 1) := by
  unfold wtS
  refine ⟨fun k h1 h2 h3 => funext fun j => ?_, fun j => ?_, fun j => ?_, fun j => ?_, fun k h1 => ?_, ?_⟩
  · simp [r3ua, r3ui, h1, h2, h3]
  · simp [r3ua, r3ui]
  · simp [r3ua, r3ui]
  · simp [r3ua, r3ui]
  · simp [r1ui, r1ua, h1]
  · simp [r1ui, r1ua]
/-- a look at an event that has a key: the same in other words -/
def lkY (σ : rf_S) (r b e x k n w q nl na ns : Nat) (tm lr le wi : Nat → Nat) (dp : Nat → Nat) (tr : (c : Nat) → cT (dp c)) (ud : Nat) (ut : Option (cT ud)) (f B : Nat) (σ1 : rf_S) (res : Option Nat) (σ' : rf_S) : Prop :=
  kH σ b n e ∧ ((f < e ∧ σ.2.2.1 63 (4000 * r + f) = nI f ∧ kM σ b n f e) ∨ (f = e ∧ ∀ g, g < e → σ.2.2.1 63 (4000 * r + g) = nI g → ¬ kM σ b n g e)) ∧ upD σ σ1 r e f B ∧ B < 64 ∧ (∀ c, c < k → (B.testBit c = true ↔ cTr σ e (dp c) (tr c))) ∧ (B.testBit 5 = true ↔ unT σ e ud ut) ∧ (x ≠ 4 → (B.testBit (k - 1) = true → stO σ1 r b e f w tm res) ∧ (B.testBit (k - 1) = false → res = none)) ∧ (x = 4 → res = none) ∧
  ((x = 4 ∧ ∃ σ4, l71 σ1 σ4 ∧ (∀ j, j < nl → (B.testBit 1 = true → anS σ1 r e lr le tm wi j → σ4.2.2.1 71 j = 1) ∧ ((B.testBit 1 = false ∨ ¬ anS σ1 r e lr le tm wi j) → σ4.2.2.1 71 j = σ.2.2.1 71 j)) ∧ ((B.testBit 0 = true ∧ σ' = wtS σ4 r e nl) ∨ (B.testBit 0 = false ∧ σ' = σ4))) ∨
   (x ≠ 4 ∧ res = none ∧ σ' = σ1) ∨
   (x ≠ 4 ∧ ∃ s h, res = some s ∧ s ≤ e ∧ σ.2.2.1 66 (4000 * r + f) = nI h ∧ ((hsh σ (4000 * r + f) (tm e) q ∧ σ' = fnH σ1 r (4000 * r + f) h) ∨ (¬ hsh σ (4000 * r + f) (tm e) q ∧ σ' = fnA σ1 r e (tm e) s (4000 * r + f) h na ns))))
theorem lkD.y {σ σ' : rf_S} {r b e x k n w q nl na ns : Nat} {tm lr le wi : Nat → Nat} {dp : Nat → Nat} {tr : (c : Nat) → cT (dp c)} {ud : Nat} {ut : Option (cT ud)} (h : lkD σ r b e x k n w q nl na ns tm lr le wi dp tr ud ut σ') : (¬ kH σ b n e ∧ σ' = rf_ua σ 63 (4000 * r + e) (-1)) ∨ ∃ f B σ1 res, lkY σ r b e x k n w q nl na ns tm lr le wi dp tr ud ut f B σ1 res σ' := by
  rcases h with h | ⟨f, B, σ2, h1, h2, h3, h4, h5, h6, h7, h8⟩
  · exact Or.inl h
  · have hU : upD σ (rf_ua σ2 64 (4000 * r + e) (nI B)) r e f B := upD.of h3
    refine Or.inr ?_
    rcases h8 with ⟨x4, σ4, y1, y2, y3, y4⟩ | ⟨x4, y1, y2⟩ | ⟨x4, y1, res, y2, y3⟩
    · refine ⟨f, B, rf_ua σ2 64 (4000 * r + e) (nI B), none, h1, h2, hU, h4, h5, h7, fun z => absurd x4 z, fun _ => rfl, Or.inl ⟨x4, σ4, ?_, fun j hj => ⟨fun z w => ?_, fun z => ?_⟩, ?_⟩⟩
      · cases hb : B.testBit 1 with
        | true => exact (y1 hb).1
        | false => rw [y2 hb]; exact l71.rfl
      · exact ((y1 z).2.1 j hj).1 w
      · cases hb : B.testBit 1 with
        | true =>
          refine ((y1 hb).2.1 j hj).2 (fun w => ?_)
          rcases z with z | z
          · rw [hb] at z; cases z
          · exact z w
        | false =>
          rw [y2 hb, r3ua, if_neg (fun z => absurd z.1 (by decide)), h3.2.2.1 71 (by decide), r3ua, if_neg (fun z => absurd z.1 (by decide))]
      · cases hb : B.testBit 0 with
        | true => exact Or.inl ⟨rfl, y3 hb⟩
        | false => exact Or.inr ⟨rfl, y4 hb⟩
    · exact ⟨f, B, rf_ua σ2 64 (4000 * r + e) (nI B), none, h1, h2, hU, h4, h5, h7, fun _ => ⟨fun z => (by rw [y1] at z; cases z), fun _ => rfl⟩, fun z => absurd z x4, Or.inr (Or.inl ⟨x4, rfl, y2⟩)⟩
    · refine ⟨f, B, rf_ua σ2 64 (4000 * r + e) (nI B), res, h1, h2, hU, h4, h5, h7, fun _ => ⟨fun _ => y2, fun z => (by rw [y1] at z; cases z)⟩, fun z => absurd z x4, ?_⟩
      rcases y3 with ⟨z1, z2⟩ | ⟨s, hh, z1, z2, z3, z4⟩
      · exact Or.inr (Or.inl ⟨x4, z1, z2⟩)
      · exact Or.inr (Or.inr ⟨x4, s, hh, z1, z2, z3, z4⟩)
/-- what it leaves: all that is not of rule r, nor of key f -/
theorem lkY.rows {σ σ' σ1 : rf_S} {r b e x k n w q nl na ns f B : Nat} {tm lr le wi : Nat → Nat} {dp : Nat → Nat} {tr : (c : Nat) → cT (dp c)} {ud : Nat} {ut : Option (cT ud)} {res : Option Nat} (h : lkY σ r b e x k n w q nl na ns tm lr le wi dp tr ud ut f B σ1 res σ') : (∀ j, σ'.2.2.1 63 j = σ1.2.2.1 63 j) ∧ (∀ j, σ'.2.2.1 64 j = σ1.2.2.1 64 j) ∧ (∀ j, j ≠ 4000 * r + f → σ'.2.2.1 65 j = σ.2.2.1 65 j ∧ σ'.2.2.1 66 j = σ.2.2.1 66 j) ∧ (∀ j, j ≠ r → σ'.2.2.1 67 j = σ.2.2.1 67 j) ∧ (∀ j, j < nl → (σ'.2.2.1 71 j = 1 ∨ σ'.2.2.1 71 j = σ.2.2.1 71 j) ∧ σ'.2.2.1 69 j = σ.2.2.1 69 j ∧ σ'.2.2.1 70 j = σ.2.2.1 70 j) ∧ (σ'.1 72 = σ.1 72 ∨ (x = 4 ∧ σ'.1 72 = nI (nl + 1) ∧ σ'.2.2.1 69 nl = nI r ∧ σ'.2.2.1 70 nl = nI e)) := by
  obtain ⟨h1, h2, hU, h4, h5, h6, h7, h8, h9⟩ := h
  obtain ⟨u1, u2, u3, u4, u5, u6⟩ := id hU
  have e65 := u4 65 (by decide) (by decide) (by decide)
  have e66 := u4 66 (by decide) (by decide) (by decide)
  have e67 := u4 67 (by decide) (by decide) (by decide)
  have e69 := u4 69 (by decide) (by decide) (by decide)
  have e70 := u4 70 (by decide) (by decide) (by decide)
  have e71 := u4 71 (by decide) (by decide) (by decide)
  rcases h9 with ⟨x4, σ4, y1, y2, y3⟩ | ⟨x4, y1, y2⟩ | ⟨x4, s, hh, y1, y2, y3, y4⟩
  · obtain ⟨l1, l2, l3, l4⟩ := id y1
    have f71 : ∀ j, j < nl → σ4.2.2.1 71 j = 1 ∨ σ4.2.2.1 71 j = σ.2.2.1 71 j := fun j hj => by
      by_cases c : B.testBit 1 = true ∧ anS σ1 r e lr le tm wi j
      · exact Or.inl ((y2 j hj).1 c.1 c.2)
      · refine Or.inr ((y2 j hj).2 ?_)
        cases hb : B.testBit 1 with
        | false => exact Or.inl rfl
        | true => exact Or.inr (fun w => c ⟨hb, w⟩)
    rcases y3 with ⟨z1, z2⟩ | ⟨z1, z2⟩
    · obtain ⟨w1, w2, w3, w4, w5, w6⟩ := wtS_r (σ := σ4) (r := r) (e := e) (nl := nl)
      rw [z2]
      refine ⟨fun j => ?_, fun j => ?_, fun j _ => ⟨?_, ?_⟩, fun j _ => ?_, fun j hj => ⟨?_, ?_, ?_⟩, Or.inr ⟨x4, w6, by rw [w2, if_pos rfl], by rw [w3, if_pos rfl]⟩⟩
      · rw [w1 63 (by decide) (by decide) (by decide), l3 63 (by decide)]
      · rw [w1 64 (by decide) (by decide) (by decide), l3 64 (by decide)]
      · rw [w1 65 (by decide) (by decide) (by decide), l3 65 (by decide), e65]
      · rw [w1 66 (by decide) (by decide) (by decide), l3 66 (by decide), e66]
      · rw [w1 67 (by decide) (by decide) (by decide), l3 67 (by decide), e67]
      · rw [w4, if_neg (by omega)]; exact f71 j hj
      · rw [w2, if_neg (by omega), l3 69 (by decide), e69]
      · rw [w3, if_neg (by omega), l3 70 (by decide), e70]
    · rw [z2]
      refine ⟨fun j => by rw [l3 63 (by decide)], fun j => by rw [l3 64 (by decide)], fun j _ => ⟨by rw [l3 65 (by decide), e65], by rw [l3 66 (by decide), e66]⟩, fun j _ => by rw [l3 67 (by decide), e67], fun j hj => ⟨f71 j hj, by rw [l3 69 (by decide), e69], by rw [l3 70 (by decide), e70]⟩, Or.inl (by rw [l1, u1])⟩
  · rw [y2]
    exact ⟨fun _ => rfl, fun _ => rfl, fun j _ => ⟨by rw [e65], by rw [e66]⟩, fun j _ => by rw [e67], fun j _ => ⟨Or.inr (by rw [e71]), by rw [e69], by rw [e70]⟩, Or.inl (by rw [u1])⟩
  · rcases y4 with ⟨z1, z2⟩ | ⟨z1, z2⟩
    · obtain ⟨w1, w2, w3, w4, w5⟩ := fnH_r (σ := σ1) (r := r) (kk := 4000 * r + f) (h := hh)
      rw [z2]
      refine ⟨fun j => by rw [w1 63 (by decide) (by decide)], fun j => by rw [w1 64 (by decide) (by decide)], fun j hj => ⟨by rw [w1 65 (by decide) (by decide), e65], by rw [w2, if_neg hj, e66]⟩, fun j hj => by rw [w3, if_neg hj, e67], fun j _ => ⟨Or.inr (by rw [w1 71 (by decide) (by decide), e71]), by rw [w1 69 (by decide) (by decide), e69], by rw [w1 70 (by decide) (by decide), e70]⟩, Or.inl (by rw [w4 72 (by decide), u1])⟩
    · obtain ⟨w1, w2, w3, w4, w5, -⟩ := fnA_r (σ := σ1) (r := r) (e := e) (t := tm e) (s := s) (kk := 4000 * r + f) (h := hh) (na := na) (ns := ns)
      rw [z2]
      refine ⟨fun j => by rw [w1 63 (by decide) (by decide) (by decide) (by decide)], fun j => by rw [w1 64 (by decide) (by decide) (by decide) (by decide)], fun j hj => ⟨by rw [w2, if_neg hj, e65], by rw [w3, if_neg hj, e66]⟩, fun j hj => by rw [w4, if_neg hj, e67], fun j _ => ⟨Or.inr (by rw [w1 71 (by decide) (by decide) (by decide) (by decide), e71]), by rw [w1 69 (by decide) (by decide) (by decide) (by decide), e69], by rw [w1 70 (by decide) (by decide) (by decide) (by decide), e70]⟩, Or.inl (by rw [w5 72 (by decide) (by decide), u1])⟩
