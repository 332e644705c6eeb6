/-! ===== one rule, all of it, in its bank ===== -/
section BN8
variable {S : cs_S} {σ σ' : rf_S} {bk c r : Nat}
theorem vV_bk (hE : eL σ σ' bk c) (hr : r < 12) : vV σ' (12 * bk + r) = vV σ (12 * bk + r) := funext fun o => by
  have e36 : σ'.2.2.2 36 (12 * bk + r) = σ.2.2.2 36 (12 * bk + r) := hE.1.2.2.2.1 36 _ (Or.inr rfl) (by omega) (by omega)
  unfold vV
  rw [e36, fO_bk hE]
  cases fO σ o (σ.2.2.2 36 (12 * bk + r)) with
  | none => rfl
  | some j =>
    show (σ'.2.2.1 17 (8 * o + j)).toNatClampNeg = (σ.2.2.1 17 (8 * o + j)).toNatClampNeg
    rw [hE.2.1 17 _ (Or.inl (by omega))]
theorem bM_bk (hE : eL σ σ' bk c) : bM σ' r = bM σ r := funext fun f => funext fun j => funext fun o => by
  unfold bM
  rw [hE.2.1 63 _ (Or.inr (by omega)), hE.2.1 64 _ (Or.inr (by omega))]
theorem bU_bk (hE : eL σ σ' bk c) : bU σ' r = bU σ r := funext fun f => funext fun o => by
  unfold bU
  rw [hE.2.1 63 _ (Or.inr (by omega)), hE.2.1 64 _ (Or.inr (by omega))]
theorem c4O_bk (hE : eL σ σ' bk c) : c4O σ' r = c4O σ r := funext fun o => by
  unfold c4O hkO
  rw [hE.2.1 63 _ (Or.inr (by omega)), hE.2.1 64 _ (Or.inr (by omega))]
theorem KfO_bk (hE : eL σ σ' bk c) : KfO σ' r = KfO σ r := funext fun p => funext fun f => by
  unfold KfO
  rw [hE.2.1 63 _ (Or.inr (by omega))]
theorem JK_bk {Ow : Nat → Prop} {ra x k n w L wt bt nb lo now p : Nat} {tm ev ko eo sr an : Nat → Nat} {bl : Nat → List Nat} {so : Nat → Option Nat} {Kf Kc : Nat → Prop} (hE : eL σ σ' bk c) (hr : r < 12) (hn : n ≤ 3) (h : JK S σ Ow r ra (12 * bk + r) x k n w L tm ev wt bt nb bl ko eo so lo sr an Kf Kc now p) : JK S σ' Ow r ra (12 * bk + r) x k n w L tm ev wt bt nb bl ko eo so lo sr an Kf Kc now p := by
  obtain ⟨h1, h2, ⟨b1, b2, b3, b4⟩, h4, h5, h6, h7, h8, h9, h10⟩ := h
  refine ⟨h1, h2, ?_, fun f hf => ?_, h5, ?_, h7, fun z => ?_, fun z => ?_, fun z => ?_⟩
  · rw [kfO_bk hE, cO_bk hE hr, scO_bk hE hr]
    refine ⟨b1, fun f hf => ?_, fun o a ho hc hs => ?_, b4⟩
    · obtain ⟨i, vs, i1, i2, i3, i4⟩ := b2 f hf
      exact ⟨i, vs, i1, i2, i3, fun j hj => (i4 j hj).trans (kcO_bk hE hr f (by omega)).symm⟩
    · obtain ⟨i, vs, i1, i2, i3, i4, i5⟩ := b3 o a ho hc hs
      exact ⟨i, vs, i1, i2, i3, fun j hj => (i4 j hj).trans (kcO_bk hE hr _ (by omega)).symm, i5⟩
  · rw [hE.2.1 65 _ (Or.inr (by omega)), hE.2.1 66 _ (Or.inr (by omega))]
    exact h4 f hf
  · rw [hE.2.1 67 _ (Or.inr (by omega))]; exact h6
  · unfold jC
    rw [kfO_bk hE, cO_bk hE hr, amO_bk hE hr, vV_bk hE hr]
    exact h8 z
  · rw [bM_bk hE, bU_bk hE]; exact h9 z
  · rw [kfO_bk hE, c4O_bk hE]; exact h10 z
end BN8
