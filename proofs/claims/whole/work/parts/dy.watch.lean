/-! ===== a new watch ===== -/
theorem w_new {G : Nat → Nat} {S : cs_S} {q ru la td xo nr : Nat} {ra : Nat → Nat} (hq : cs_k S q = 0) (hru : cs_k S ru = 22) (hnr : nr ≤ 12) (hn : cs_n S ru = 12) (hla : cs_k (cs_new S q 11) la = 0) (htd : cs_k (cs_new S q 11) td = 0) (hne : la ≠ td) (hxo : cs_k S xo = 13) (hra : ∀ r, r < nr → cs_ar S ru r = some (ra r)) (g1 : cs_k S (G 1) = 27) (g2 : cs_n S (G 1) = 0) :
    wNew G (cs_ur (ci_S10 G (cs_new S q 11) q ru (nI nr) la td) 1206 xo (some q)) q ru la td nr ra ∧ fX (fun s f a => s = 2 ∧ f = 1206 ∧ a = xo) S (cs_ur (ci_S10 G (cs_new S q 11) q ru (nI nr) la td) 1206 xo (some q)) := by
  have n1 : ru ≠ q := fun e => by rw [e, hq] at hru; omega
  have n2 : la ≠ q := fun e => by rw [e, knew, if_pos rfl] at hla; omega
  have n3 : td ≠ q := fun e => by rw [e, knew, if_pos rfl] at htd; omega
  have hla' : cs_k S la = 0 := by rw [knew, if_neg n2] at hla; exact hla
  have htd' : cs_k S td = 0 := by rw [knew, if_neg n3] at htd; exact htd
  have n4 : ru ≠ la := fun e => by rw [e, hla'] at hru; omega
  have n5 : ru ≠ td := fun e => by rw [e, htd'] at hru; omega
  have n6 : G 1 ≠ q := fun e => by rw [e, hq] at g1; omega
  have n7 : G 1 ≠ la := fun e => by rw [e, hla'] at g1; omega
  have n8 : G 1 ≠ td := fun e => by rw [e, htd'] at g1; omega
  have n9 : xo ≠ q := fun e => by rw [e, hq] at hxo; omega
  have n10 : xo ≠ td := fun e => by rw [e, htd'] at hxo; omega
  have n11 : xo ≠ la := fun e => by rw [e, hla'] at hxo; omega
  refine ⟨⟨⟨?_, ?_, ?_, ⟨?_, ?_⟩, ?_, ?_, ?_, ?_, ?_, fun r hr => ?_⟩, ⟨?_, ?_, ?_, ?_, ?_, ?_, ?_⟩, ⟨?_, ?_, ?_⟩, ?_, ?_⟩, ?_⟩
  all_goals try simp [ci_S10, kui, kul, kur, kuar, knew, knewA, iui, iul, iur, iuar, inew, inewA, rui, rul, rur, ruar, rnew, rnewA, nui, nul, nur, nuar, nnew, nnewA, arui, arur, arnew, arnewA, n1, n2, n3, n4, n5, n6, n7, n8, n9, n10, n11, n1.symm, n2.symm, n3.symm, n4.symm, n5.symm, n9.symm, n10.symm, hne, hne.symm, hru, hn, hnr, g1, g2]
  · exact hra r hr
  · have f0 : fX (fun s f a => s = 2 ∧ f = 1206 ∧ a = xo) S (cs_new S q 11) := fX.rfl.new hq
    have f1 := ((f0.ur (f := 1100) (x := some ru) (Or.inr hq)).ui (f := 1101) (x := nI nr) (Or.inr hq)).newA (q := la) (k := 23) (n := 64) (by show cs_k (cs_new S q 11) la = 0; exact hla)
    have f2 := (f1.ur (f := 1102) (x := some la) (Or.inr hq)).new (q := td) (ci := 0) (by
      show cs_k (cs_newA _ la 23 64) td = 0
      rw [knewA, if_neg hne.symm]
      exact htd)
    exact (((f2.ui (f := 0) (x := 0) (Or.inr htd')).ur (f := 1) (x := some (G 1)) (Or.inr htd')).ur (f := 1103) (x := some td) (Or.inr hq)).ur (Or.inl ⟨rfl, rfl, rfl⟩)
