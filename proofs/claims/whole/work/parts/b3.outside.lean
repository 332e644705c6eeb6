/-! ===== what lies outside of the watch changes ===== -/
section OUT
variable {P0 : Nat → Prop} {S0 : cs_S} {G : Nat → Nat} {S S' : cs_S} {σ σ' : rf_S} {wa rr lt tl bk nr te nv ne na ns ks nl now ed : Nat} {ra x k n w q L pr lr le tm ev al : Nat → Nat} {dp : Nat → Nat → Nat} {tr : (r c : Nat) → cT (dp r c)} {ud : Nat → Nat} {ut : (r : Nat) → Option (cT (ud r))} {ko : Nat → Nat → Nat} {Ow : Nat → Nat → Prop} {wl : List Nat} {E : Nat → Nat → Nat → Prop}
theorem FR.base {P1 : Nat → Prop} (h : FR P0 S0 S nr Ow ne ev wl) (hk : ∀ a, P1 a → P0 a ∨ (((cs_k S' a = 26 → ∀ r, r < nr → ¬ Ow r a) ∧ (∀ o, o < ne → ev o ≠ a) ∧ ¬ a ∈ wl) ∧ cs_k S' a ≠ 0 ∧ cs_k S' a ≠ 1 ∧ cs_k S' a ≠ 4 ∧ cs_k S' a ≠ 6 ∧ cs_k S' a ≠ 9 ∧ cs_k S' a ≠ 12 ∧ cs_k S' a ≠ 23 ∧ cs_k S' a ≠ 25 ∧ cs_k S' a ≠ 27)) (hs : ∀ a, P0 a → cs_k S' a = cs_k S a) : FR P1 S' S' nr Ow ne ev wl := by
  refine ⟨fun _ _ => ⟨rfl, rfl⟩, fun a ha => ?_⟩
  rcases hk a ha with z | ⟨z1, z2⟩
  · obtain ⟨h1, ⟨h2, -⟩, h6⟩ := h.2 a z
    have := hs a z
    exact ⟨by omega, ⟨rfl, rfl, fun _ _ => ⟨rfl, rfl, rfl⟩, fun _ _ => ⟨rfl, rfl, rfl⟩⟩, fun y => h6.1 (by omega), h6.2⟩
  · exact ⟨z2, ⟨rfl, rfl, fun _ _ => ⟨rfl, rfl, rfl⟩, fun _ _ => ⟨rfl, rfl, rfl⟩⟩, z1⟩
theorem SHR.out (h : SHR G S σ wa rr lt tl bk nr ra n te ne na 0 0 now pr tm ev ko Ow al ed wl) (hF : fX E S S') (hE : ∀ s f a, E s f a → cs_k S a = 8 ∨ cs_k S a = 10 ∨ cs_k S a = 13 ∨ (cs_k S a = 20 ∧ 24 < cs_n S a) ∨ (cs_k S a = 21 ∧ (8 < cs_n S a ∨ bx S a))) : SHR G S' σ wa rr lt tl bk nr ra n te ne na 0 0 now pr tm ev ko Ow al ed wl := by
  obtain ⟨⟨h1, h2, h3, h4, h5, h6, h7, h8, h9, h10⟩, ⟨i1, i2, i3, i4, i5, i6⟩, h11, h12, ⟨h13, h14⟩, h15, h16, h17, h18, h19, h20, h21⟩ := h
  have ewl : wl = [] := List.length_eq_zero_iff.mp h17
  subst ewl
  have hE0 : e0 S E := fun s f a z => by
    rcases hE s f a z with y | y | y | ⟨y, y'⟩ | ⟨y, y'⟩
    · exact ⟨by omega, fun x => by omega, fun x => by omega, by omega, fun x => by omega⟩
    · exact ⟨by omega, fun x => by omega, fun x => by omega, by omega, fun x => by omega⟩
    · exact ⟨by omega, fun x => by omega, fun x => by omega, by omega, fun x => by omega⟩
    · exact ⟨by omega, fun _ => y', fun x => by omega, by omega, fun x => by omega⟩
    · exact ⟨by omega, fun x => by omega, fun _ => y', by omega, fun x => by omega⟩
  have keep : ∀ a, cs_k S a ≠ 0 → cs_k S a ≠ 8 → cs_k S a ≠ 10 → cs_k S a ≠ 13 → cs_k S a ≠ 20 ∧ cs_k S a ≠ 21 → cs_k S' a = cs_k S a ∧ cs_n S' a = cs_n S a ∧ (∀ f, cs_i S' f a = cs_i S f a) ∧ (∀ f, cs_r S' f a = cs_r S f a) ∧ ∀ j, cs_ar S' a j = cs_ar S a j := fun a z0 z1 z2 z3 z4 => by
    obtain ⟨a1, a2, a3, -, a5, -, -, a8⟩ := hF a z0
    have hno : ∀ s f, ¬ E s f a := fun s f z => by have := hE s f a z; omega
    exact ⟨a1, a2, fun f => a3 f (hno _ _), fun f => a5 f (hno _ _), fun j => a8 j (hno _ _)⟩
  obtain ⟨w1, w2, w3, w4, w5⟩ := keep wa (by omega) (by omega) (by omega) (by omega) (by omega)
  obtain ⟨r1, r2, -, -, r5⟩ := keep rr (by omega) (by omega) (by omega) (by omega) (by omega)
  obtain ⟨l1, l2, -, -, l5⟩ := keep lt (by omega) (by omega) (by omega) (by omega) (by omega)
  refine ⟨⟨w1.trans h1, (w4 _).trans h2, r1.trans h3, by rw [r2]; exact h4, (w3 _).trans h5, (w4 _).trans h6, l1.trans h7, l2.trans h8, (w4 _).trans h9, fun r hr => by rw [r5]; exact h10 r hr⟩, ⟨(w3 _).trans i1, (w3 _).trans i2, (w3 _).trans i3, (w3 _).trans i4, (w3 _).trans i5, (w3 _).trans i6⟩, fun o ho => ?_, fun o ho hl => by rw [l5]; exact h12 o ho hl, ⟨h13.fx hF (fun s f a z => ?_), fun i hi => ?_⟩, h15, ?_, h17, fun i y re z1 _ => by simp at z1, h19, fun y hy => by rw [w4]; exact h20 y hy, h21⟩
  · obtain ⟨⟨m', g1⟩, g2, g3, g4, g5⟩ := h11 o ho
    have ke := g1.1
    obtain ⟨-, -, a3, a4, -⟩ := keep (ev o) (by omega) (by omega) (by omega) (by omega) (by omega)
    exact ⟨⟨m', hE0.evr hF g1⟩, (a3 _).trans g2, (a3 _).trans g3, (a3 _).trans g4, fun vs r hv hr => g5 vs r (by rw [← a4]; exact hv) hr⟩
  · have k1 := h13.1
    have k27 := h13.2.2.1
    have z' := hE s f a z
    exact ⟨fun y => by rw [y] at z'; omega, fun y => by rw [y] at z'; omega⟩
  · obtain ⟨r, e, f, z1, z2, z3, z4, z5, z6, z7, z8, z9, z10, z11, z12⟩ := h14 i hi
    have ka := (h13.2.2.2.2.2.2 i hi).2
    obtain ⟨-, -, a3, a4, -⟩ := keep (al i) (by omega) (by omega) (by omega) (by omega) (by omega)
    exact ⟨r, e, f, z1, z2, z3, z4, z5, z6, (a3 _).trans z7, (a3 _).trans z8, (a3 _).trans z9, (a3 _).trans z10, (a3 _).trans z11, (a4 _).trans z12⟩
  · rw [w4]; exact h16
theorem CR.out {O : Nat → Prop} {r a x k n w q L p : Nat} {dp : Nat → Nat} {tr : (c : Nat) → cT (dp c)} {ud : Nat} {ut : Option (cT ud)} {kk : Nat → Nat} (h : CR S σ O r a bk x k n w q L dp tr ud ut tm ev kk nl lr le now p) (hF : fX E S S') (hE : ∀ s f a, E s f a → cs_k S a = 8 ∨ cs_k S a = 10 ∨ cs_k S a = 13 ∨ (cs_k S a = 20 ∧ 24 < cs_n S a) ∨ (cs_k S a = 21 ∧ (8 < cs_n S a ∨ bx S a))) : CR S' σ O r a bk x k n w q L dp tr ud ut tm ev kk nl lr le now p :=
  h.f0 (fun wt s f a _ z => Or.inr (by
    rcases hE s f a z with y | y | y | ⟨y, y'⟩ | ⟨y, y'⟩
    · exact ⟨by omega, by omega, fun x => by omega, fun x => by omega, by omega, by omega, fun y => by omega, fun y => by omega, fun y => by omega⟩
    · exact ⟨by omega, by omega, fun x => by omega, fun x => by omega, by omega, by omega, fun y => by omega, fun y => by omega, fun y => by omega⟩
    · exact ⟨by omega, by omega, fun x => by omega, fun x => by omega, by omega, by omega, fun y => by omega, fun y => by omega, fun y => by omega⟩
    · exact ⟨by omega, by omega, fun _ => y', fun x => by omega, by omega, by omega, fun y => by omega, fun y => by omega, fun y => by omega⟩
    · exact ⟨by omega, by omega, fun x => by omega, fun _ => y', by omega, by omega, fun y => by omega, fun y => by omega, fun y => by omega⟩)) hF (fun s f a z _ => by
    have := hE s f a z
    exact ⟨by omega, by omega, by omega, by omega, by omega⟩)
/-- the class changes outside of the watch, and P1 is what shall stay from now on -/
theorem CW.out {P1 : Nat → Prop} (h : CW P0 S0 G S σ wa rr lt tl bk nr ra x k n w q L dp tr ud ut te ne na 0 0 nl now pr lr le tm ev) (hF : fX E S S') (hE : ∀ s f a, E s f a → cs_k S a = 8 ∨ cs_k S a = 10 ∨ cs_k S a = 13 ∨ (cs_k S a = 20 ∧ 24 < cs_n S a) ∨ (cs_k S a = 21 ∧ (8 < cs_n S a ∨ bx S a))) (hP : ∀ a, P1 a → P0 a ∨ ((cs_k S a = 0 ∨ (cs_k S' a ≠ 5 ∧ cs_k S' a ≠ 26)) ∧ cs_k S' a ≠ 0 ∧ cs_k S' a ≠ 1 ∧ cs_k S' a ≠ 4 ∧ cs_k S' a ≠ 6 ∧ cs_k S' a ≠ 9 ∧ cs_k S' a ≠ 12 ∧ cs_k S' a ≠ 23 ∧ cs_k S' a ≠ 25 ∧ cs_k S' a ≠ 27)) : CW P1 S' G S' σ wa rr lt tl bk nr ra x k n w q L dp tr ud ut te ne na 0 0 nl now pr lr le tm ev := by
  obtain ⟨ko, Ow, al, ed, wl, hSH, hCR, hdis, hFR⟩ := h
  refine ⟨ko, Ow, al, ed, wl, hSH.out hF hE, fun r hr => (hCR r hr).out hF hE, hdis, hFR.base (fun a ha => ?_) (fun a ha => ?_)⟩
  · rcases hP a ha with z | ⟨z1, z2⟩
    · exact Or.inl z
    · refine Or.inr ⟨⟨fun h26 r hr z => ?_, fun o ho z => ?_, fun z => ?_⟩, z2⟩
      rotate_left
      · have k5 := (hSH.2.2.1 o ho).1.choose_spec.1
        have := (hF (ev o) (by omega)).1
        rw [z] at this k5
        omega
      · obtain ⟨i, hi, rfl⟩ := List.getElem_of_mem z
        have hq := hSH.2.2.2.2.2.2
        have hlen : i < (stL σ 0 (0 - 0)).length := by rw [← hq.2.1]; exact hi
        have k5 := (hq.2.2.1 i wl[i] (stL σ 0 (0 - 0))[i] (List.getElem?_eq_getElem hi) (List.getElem?_eq_getElem hlen)).1
        have := (hF wl[i] (by omega)).1
        omega
      obtain ⟨-, -, _, _, _, _, _, _, _, _, _, hJ, -⟩ := hCR r hr
      have := hJ.1 a z
      omega
  · obtain ⟨h1, ⟨h2, -⟩, -⟩ := hFR.2 a ha
    exact (hF a (by omega)).1
/-- the reference reads: the log rests -/
theorem RD.eb2 (hD : RD σ bk nr x n w te nv ne na ns nl now pr lr le tm) (hE : eB σ σ' ne nv te) (h19 : σ'.1 19 = σ.1 19) (h21 : σ'.1 21 = σ.1 21) (h26 : σ'.1 26 = σ.1 26) (h25 : ∀ j, σ'.2.2.1 25 j = σ.2.2.1 25 j) : RD σ' bk nr x n w te nv ne na ns nl now pr lr le tm := by
  obtain ⟨⟨d1, d2, d3, d4, d5⟩, d6, d7, ⟨d8a, d8, d8b, d8c, d8d⟩, d9, d10, d11, d12, d13, d14⟩ := hD
  have hmn : ∀ o, o < ne → ∃ m, m ≤ 8 ∧ σ.2.2.1 9 o = nI m := fun o ho => by
    obtain ⟨⟨m, g⟩, -⟩ := d6 o ho
    exact ⟨m, g.2.1, g.2.2.1⟩
  have row : ∀ k, 63 ≤ k ∧ k ≤ 83 → σ'.2.2.1 k = σ.2.2.1 k := fun k hk => funext fun j => hE.2.1 k j (by omega) (by omega) (by omega) (by omega) (by omega) (by omega)
  obtain ⟨hT, eF, -⟩ := d8a.on (σ1 := σ') (te1 := te) (cu := 8 * ne) (Nat.le_refl _) d3 d8d h26 (fun j hj => hE.2.1 24 j (by omega) (by omega) (by omega) (by omega) (fun _ => hj) (by omega)) h25 (fun kk j hk hj => hE.2.1 kk j (by omega) (by omega) (by omega) (fun _ => hj) (by omega) (by omega)) (fun j hj => hE.2.1 18 j (by omega) (by omega) (by omega) (by omega) (by omega) (fun _ => hj))
  have num : ∀ o i, o < ne → i < mN σ' o → ∃ v, v < nv ∧ σ'.2.2.1 17 (8 * o + i) = nI v ∧ vC σ' (fF σ' v) = vC σ' (8 * o + i) := fun o i ho' hi => by
    rw [hE.mn ho'] at hi
    obtain ⟨⟨m', g⟩, -⟩ := d6 o ho'
    have hmm : mN σ o = m' := by unfold mN; rw [g.2.2.1, nI_clamp (by have := g.2.1; omega)]
    obtain ⟨v, v1, v2, v3⟩ := d8b o i ho' hi
    have gm := g.2.1
    refine ⟨v, v1, by rw [hE.2.1 17 _ (by omega) (by omega) (by omega) (by omega) (by omega) (by omega)]; exact v2, ?_⟩
    rw [eF v v1, hE.vc d3 (d8d v v1) (d8a.2.2.2.1 v v1).2, hE.vc d3 (by omega) (g.2.2.2 i (by omega))]
    exact v3
  refine ⟨⟨h19.trans d1, d2, d3, h21.trans d4, d5⟩, fun o ho => ?_, d7, ⟨hT, wq_of hT num, num, d8c, fun v hv => by rw [eF v hv]; exact d8d v hv⟩, fun v => by rw [row 68 (by omega)]; exact d9 v, d10.eb hE d11 hmn, d11, fun r f hr hf hk => ?_, fun j hj h0 => ?_, d14⟩
  · obtain ⟨⟨m', g1, g2, g3, g4⟩, g5, g6, g7⟩ := d6 o ho
    rw [hE.2.1 8 o (by omega) (by omega) (by omega) (by omega) (by omega) (by omega), hE.2.1 10 o (by omega) (by omega) (by omega) (by omega) (by omega) (by omega)]
    exact ⟨⟨m', g1, g2, by rw [hE.2.1 9 o (by omega) (by omega) (by omega) (by omega) (by omega) (by omega)]; exact g3, fun k hk => hE.vw (Nat.le_refl _) (by omega) (g4 k hk)⟩, g5, g6, g7⟩
  · rw [row 65 (by omega), row 66 (by omega)]
    refine d12 r f hr hf (fun z => hk ⟨z.1, ?_⟩)
    rw [row 63 (by omega)]; exact z.2
  · rw [row 71 (by omega)] at h0
    exact d13 j hj h0
theorem CW.eb2 (h : CW P0 S0 G S σ wa rr lt tl bk nr ra x k n w q L dp tr ud ut te ne na 0 0 nl now pr lr le tm ev) (hS : RS0 σ bk nr x k n w q L dp tr ud ut) (hD : RD σ bk nr x n w te nv ne na 0 nl now pr lr le tm) (hE : eB σ σ' ne nv te) (h22 : σ'.1 22 = σ.1 22) (h23 : σ'.1 23 = σ.1 23) : CW P0 S0 G S σ' wa rr lt tl bk nr ra x k n w q L dp tr ud ut te ne na 0 0 nl now pr lr le tm ev := by
  obtain ⟨ko, Ow, al, ed, wl, hSH, hCR, hdis, hFR⟩ := h
  obtain ⟨⟨d1, d2, d3, d4, d5⟩, d6, d7, -, -, d10, d11, -⟩ := id hD
  have row : ∀ k, 63 ≤ k ∧ k ≤ 83 → σ'.2.2.1 k = σ.2.2.1 k := fun k hk => funext fun j => hE.2.1 k j (by omega) (by omega) (by omega) (by omega) (by omega) (by omega)
  refine ⟨ko, Ow, al, ed, wl, ?_, fun r hr => ?_, hdis, hFR⟩
  · obtain ⟨h1, ⟨i1, i2, i3, i4, i5, i6⟩, h11, h12, ⟨h13, h14⟩, h15, h16, h17, h18, h19, h20, h21⟩ := hSH
    have ewl : wl = [] := List.length_eq_zero_iff.mp h17
    subst ewl
    refine ⟨h1, ⟨i1, by rw [h23]; exact i2, i3, by rw [hE.1 79 (by omega)]; exact i4, i5, by rw [h22]; exact i6⟩, fun o ho => ?_, h12, ⟨h13, fun i hi => ?_⟩, h15, h16, rfl, fun i y re z1 _ => by simp at z1, h19, h20, h21⟩
    · obtain ⟨⟨m', g1⟩, g2, g3, g4, g5⟩ := h11 o ho
      exact ⟨⟨m', g1.eb hE (Nat.le_refl _) ho⟩, g2, g3, by rw [hE.2.1 10 o (by omega) (by omega) (by omega) (by omega) (by omega) (by omega)]; exact g4, g5⟩
    · have h := h14 i hi
      unfold AL KfO at h ⊢
      rw [row 73 (by omega), row 74 (by omega), row 75 (by omega), row 76 (by omega), row 77 (by omega), row 63 (by omega)]
      exact h
  · obtain ⟨ky1, ky2⟩ := hD.ky hr
    exact (hCR r hr).eb hE d3 (d11 r hr) d2 (fun o ho => (d6 o ho).1) (hS.2.2.2.2 r hr).1.1 ky1 ky2 (fun _ _ => rfl) (fun _ _ => rfl)
theorem sg.eb {ne nv te te0 : Nat} (h : sg 4000 32000 te0 σ σ') (hne : ne ≤ 4000) (hte : te ≤ te0) : eB σ σ' ne nv te := by
  obtain ⟨h1, h2, h3, h4⟩ := h
  exact ⟨fun k hk => h1 k (by omega) (by omega) (by omega) (by omega) (by omega) (by omega), fun k j z1 z2 z3 z4 z5 z6 => h3 k j (fun z => by have := z3 (by omega); omega) (fun z => by have := z4 (by omega); omega) (fun z => by have := z6 z; omega), fun k j z1 z2 z3 => h4 k j (fun z => by have := z1 z; omega) (fun z => by have := z2 z; omega)⟩
end OUT
