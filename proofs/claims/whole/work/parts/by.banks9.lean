/-! ===== a rule of the class, all of it, in its bank ===== -/
section BN9
variable {S : cs_S} {σ σ' : rf_S} {bk c nr : Nat} {x k n w q L : Nat → Nat} {dp : Nat → Nat → Nat} {tr : (r c : Nat) → cT (dp r c)} {ud : Nat → Nat} {ut : (r : Nat) → Option (cT (ud r))}
theorem lcR_bk {r nl lo p : Nat} {lr le an : Nat → Nat} (hE : eL σ σ' bk c) (h : lcR σ r nl lr le an lo p) : lcR σ' r nl lr le an lo p := by
  obtain ⟨l1, l2, l3⟩ := h
  unfold lcR
  rw [c4O_bk hE, kfO_bk hE]
  refine ⟨fun j hj hjr => ?_, l2, l3⟩
  obtain ⟨m1, m2, m3⟩ := l1 j hj hjr
  exact ⟨m1, m2, by rw [hE.2.1 71 _ (Or.inr (by omega))]; exact m3⟩
theorem CR_bk {r ra nl now p : Nat} {O : Nat → Prop} {tm ev ko lr le : Nat → Nat} (h0 : RS0 σ bk nr x k n w q L dp tr ud ut) (hK : RK σ bk nr k c) (hE : eL σ σ' bk c) (hr : r < nr) (h : CR S σ O r ra bk (x r) (k r) (n r) (w r) (q r) (L r) (dp r) (tr r) (ud r) (ut r) tm ev ko nl lr le now p) : CR S σ' O r ra bk (x r) (k r) (n r) (w r) (q r) (L r) (dp r) (tr r) (ud r) (ut r) tm ev ko nl lr le now p := by
  have hn := (h0.2.2.2.2 r hr).1.2.2.2.1
  have hnr := h0.2.2.2.1
  obtain ⟨h1, h2, wt, bt, nb, bl, eo, so, lo, sr, an, hJ, hl⟩ := h
  refine ⟨ruC_bk h0 hK hE.1 hr h1, h2, wt, bt, nb, bl, eo, so, lo, sr, an, ?_, fun z => lcR_bk hE (hl z)⟩
  rw [KfO_bk hE]
  exact JK_bk hE (by omega) hn hJ
end BN9
