/-! ===== what a lack holds ===== -/
theorem sS_bij {le : Nat → Nat} {P Q : Nat → Prop} : ∀ nl N, (∀ j, j < nl → P j → le j < N ∧ Q (le j)) → (∀ o, o < N → Q o → ∃ j, j < nl ∧ P j ∧ le j = o) → (∀ j j', j < j' → j' < nl → P j → P j' → le j < le j') → sS P (fun _ => 1) 0 nl = sS Q (fun _ => 1) 0 N := by
  intro nl
  induction nl with
  | zero =>
    intro N _ h2 _
    rw [sS_zero (lo := 0) N (fun o _ ho hq => by
      obtain ⟨j, hj, -⟩ := h2 o (by omega) hq
      omega)]
    rfl
  | succ nl ih =>
    intro N h1 h2 h3
    by_cases c : P nl
    · obtain ⟨a1, a2⟩ := h1 nl (by omega) c
      have e1 : sS P (fun _ => 1) 0 (nl + 1) = sS P (fun _ => 1) 0 nl + 1 := sS_lst (lo := 0) (Nat.zero_le _) c
      have e2 : sS Q (fun _ => 1) 0 (le nl + 1) = sS Q (fun _ => 1) 0 (le nl) + 1 := sS_lst (lo := 0) (Nat.zero_le _) a2
      have e3 : sS Q (fun _ => 1) (0 + (le nl + 1)) (N - (le nl + 1)) = 0 := sS_zero (lo := 0 + (le nl + 1)) _ (fun o b1 b2 hq => by
        obtain ⟨j, j1, j2, j3⟩ := h2 o (by omega) hq
        by_cases d : j = nl
        · rw [d] at j3; omega
        · have := h3 j nl (by omega) (by omega) j2 c
          omega)
      have e4 := ih (le nl) (fun j hj hP => ⟨h3 j nl (by omega) (by omega) hP c, (h1 j (by omega) hP).2⟩) (fun o ho hq => by
        obtain ⟨j, j1, j2, j3⟩ := h2 o (by omega) hq
        by_cases d : j = nl
        · rw [d] at j3; omega
        · exact ⟨j, by omega, j2, j3⟩) (fun j j' b1 b2 => h3 j j' b1 (by omega))
      rw [e1, e4, show N = (le nl + 1) + (N - (le nl + 1)) from by omega, sS_app, e3, e2, Int.add_zero]
    · have e1 : sS P (fun _ => 1) 0 (nl + 1) = sS P (fun _ => 1) 0 nl := sS_nst (lo := 0) (Nat.zero_le _) c
      rw [e1]
      exact ih N (fun j hj hP => h1 j (by omega) hP) (fun o ho hq => by
        obtain ⟨j, j1, j2, j3⟩ := h2 o ho hq
        by_cases d : j = nl
        · rw [d] at j2; exact absurd j2 c
        · exact ⟨j, by omega, j2, j3⟩) (fun j j' b1 b2 => h3 j j' b1 (by omega))
section LKH
variable {S : cs_S} {σ : rf_S} {ra r nl lo p : Nat} {Ow : Nat → Prop} {ko eo ev an lr le : Nat → Nat} {Kf : Nat → Prop}
theorem lc_held (hL : lcI S ra Ow ko eo ev (kfO σ r) an (c4O σ r) Kf lo p) (hl : lcR σ r nl lr le an lo p) : cs_i S 813 ra = yI (sS (fun j => lr j = r ∧ σ.2.2.1 71 j = 0) (fun _ => 1) 0 nl) := by
  obtain ⟨l1, l2, l3⟩ := hl
  have hlo := hL.1.1
  rw [hL.2.2.2.2.2.2.2]
  refine congrArg yI ?_
  have e0 : sS (fun o => lo ≤ o ∧ lA (c4O σ r) (kfO σ r) an o) (fun _ => 1) 0 (p - 0) = sS (fun o => lo ≤ o ∧ lA (c4O σ r) (kfO σ r) an o) (fun _ => 1) lo (p - lo) := sS_skip (Nat.zero_le _) hlo (fun o _ h2 h3 => by have := h3.1; omega)
  have e1 : sS (lA (c4O σ r) (kfO σ r) an) (fun _ => 1) lo (p - lo) = sS (fun o => lo ≤ o ∧ lA (c4O σ r) (kfO σ r) an o) (fun _ => 1) lo (p - lo) := sS_cong _ (fun o h1 _ => ⟨⟨fun z => ⟨h1, z⟩, fun z => z.2⟩, fun _ => rfl⟩)
  rw [e1, ← e0]
  refine (sS_bij (le := le) nl p (fun j hj hP => ?_) (fun o ho hq => ?_) (fun j j' h1 h2 h3 h4 => l3 j j' h1 h2 h3.1 h4.1)).symm
  · obtain ⟨m1, m2, m3⟩ := l1 j hj hP.1
    obtain ⟨n1, n2⟩ := m3.mp hP.2
    exact ⟨m1, n1, m2, n2⟩
  · obtain ⟨j, j1, j2, j3⟩ := l2 o ho hq.2.1
    refine ⟨j, j1, ⟨j2, ((l1 j j1 j2).2.2).mpr ?_⟩, j3⟩
    rw [j3]
    exact ⟨hq.1, hq.2.2⟩
end LKH
