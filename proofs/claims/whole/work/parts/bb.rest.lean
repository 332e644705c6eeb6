/-! ===== the log, where what lies outside changes ===== -/
section RST
variable {G : Nat → Nat} {PX : Nat → Prop} {xo ob tp sc kd pl am rv rc pk wt z y te : Nat} {S S' : cs_S} {σ σ' : rf_S} {Bc Bs : Int}
/-- what the reference's calls without the log may change -/
theorem LG.jr (h : LG G PX wt S σ te Bc Bs) (hr : jr σ σ') : LG G PX wt S σ' te Bc Bs := by
  obtain ⟨bk, nr, x, k, n, w, q, L, dp, tr, ud, ut, nv, ne, na, nl, now, pr, lr, le, tm, ev, ra, rr, lt, tl, S0, hS, hB, hD, hW, h20, hBc, hBs, hRQ⟩ := h
  obtain ⟨r1, r2, r3, r4⟩ := hr
  have hE0 : eB σ σ' ne nv te := ⟨fun kk hk => r1 kk (by unfold jr_i; exact decide_eq_false (by omega)), fun kk j h1 _ _ _ _ _ => r3 kk j (by omega) (by omega) (by omega), fun kk j _ _ _ => r4 kk j⟩
  have i : ∀ kk, jr_i kk = false → σ'.1 kk = σ.1 kk := r1
  have hcb : ∀ {p0 p1 t mk kc : Nat} {gf : Nat → Nat}, CB p0 p1 t mk kc gf σ' nr na 0 0 nl n pr lr le = CB p0 p1 t mk kc gf σ nr na 0 0 nl n pr lr le := fun {p0 p1 t mk kc gf} => CB.eb hE0 (fun j hj => by
    obtain ⟨c1, c2⟩ := (hD.bnd hS.2.2.2.1).2.2.2.2 j hj
    have := hD.2.2.2.2.2.2.1 (lr j) c1
    omega) (fun k _ y => absurd y (by omega))
  refine ⟨bk, nr, x, k, n, w, q, L, dp, tr, ud, ut, nv, ne, na, nl, now, pr, lr, le, tm, ev, ra, rr, lt, tl, S0, hS.er hE0.er (i 32 (by decide)) (i 33 (by decide)), fun r' hr' i j hi hj he => hB r' hr' i j hi hj (by rw [hE0.er.2 37 (by decide)] at he; exact he), hD.eb2 hE0 (i 19 (by decide)) (i 21 (by decide)) (i 26 (by decide)) (fun j => r3 25 j (by decide) (by decide) (by decide)), hW.eb2 hS hD hE0 (i 22 (by decide)) (i 23 (by decide)), (i 20 (by decide)).trans h20, by rw [hcb]; exact hBc, by rw [hcb]; exact hBs, hRQ.er hE0.er⟩
/-- and the class's -/
theorem LG.jn (hC : cf_C G S xo tp sc kd pl am rv rc pk wt) (ho : jX_o S ob am rv) (hb : ∃ x : Int32, cs_al S ob 0 = x.toInt64) (h : LG G (PXs G xo ob tp sc kd pl am rv rc pk) wt S σ te Bc Bs) (hj : jn xo sc rc tp kd pl am pk ob S S') : LG G (PXs G xo ob tp sc kd pl am rv rc pk) wt S' σ te Bc Bs := by
  obtain ⟨bk, nr, x, k, n, w, q, L, dp, tr, ud, ut, nv, ne, na, nl, now, pr, lr, le, tm, ev, ra, rr, lt, tl, S0, hS, hB, hD, hW, h20, hBc, hBs, hRQ⟩ := h
  obtain ⟨⟨a1, -⟩, ⟨b1, b2⟩, ⟨c1, -⟩, ⟨d1, d2, d3, d4, d5, d6, d7, d8, -⟩, ⟨e1, -, e3, e4⟩, -, -⟩ := hC
  obtain ⟨j1, j2, j3, j4, j5⟩ := hj
  have hF : fX (fun s f a => (a = xo ∨ a = sc ∨ a = rc) ∨ (s = 3 ∧ (a = tp ∨ a = kd ∨ a = pl ∨ a = pk)) ∨ (s = 4 ∧ (a = am ∨ a = ob))) S S' := fun a ha => by
    refine ⟨(j1 a ha).1, (j1 a ha).2, fun f hf => ?_, fun f hf => ?_, fun f hf => ?_, fun j hf => ?_, fun j hf => ?_, fun j _ => j5 a j ha⟩
    · exact (j2 f a ha (fun z => hf (Or.inl (Or.inl z))) (fun z => hf (Or.inl (Or.inr (Or.inl z)))) (fun z => hf (Or.inl (Or.inr (Or.inr z))))).1
    · exact (j2 f a ha (fun z => hf (Or.inl (Or.inl z))) (fun z => hf (Or.inl (Or.inr (Or.inl z)))) (fun z => hf (Or.inl (Or.inr (Or.inr z))))).2.1
    · exact (j2 f a ha (fun z => hf (Or.inl (Or.inl z))) (fun z => hf (Or.inl (Or.inr (Or.inl z)))) (fun z => hf (Or.inl (Or.inr (Or.inr z))))).2.2
    · exact j3 a j ha (fun z => hf (Or.inr (Or.inl ⟨rfl, Or.inl z⟩))) (fun z => hf (Or.inr (Or.inl ⟨rfl, Or.inr (Or.inl z)⟩))) (fun z => hf (Or.inr (Or.inl ⟨rfl, Or.inr (Or.inr (Or.inl z))⟩))) (fun z => hf (Or.inr (Or.inl ⟨rfl, Or.inr (Or.inr (Or.inr z))⟩)))
    · exact j4 a j ha (fun z => hf (Or.inr (Or.inr ⟨rfl, Or.inl z⟩))) (fun z => hf (Or.inr (Or.inr ⟨rfl, Or.inr z⟩)))
  refine ⟨bk, nr, x, k, n, w, q, L, dp, tr, ud, ut, nv, ne, na, nl, now, pr, lr, le, tm, ev, ra, rr, lt, tl, S', hS, hB, hD, hW.out hF (fun s f a z => ?_) (fun a ha => Or.inl ha), h20, hBc, hBs, hRQ⟩
  rcases z with (z | z | z) | ⟨-, z | z | z | z⟩ | ⟨-, z | z⟩
  · rw [z]; exact Or.inr (Or.inr (Or.inl a1))
  · rw [z]; exact Or.inr (Or.inl c1)
  · rw [z]; exact Or.inl e1
  · rw [z]; exact Or.inr (Or.inr (Or.inr (Or.inl ⟨b1, by omega⟩)))
  · rw [z]; exact Or.inr (Or.inr (Or.inr (Or.inl ⟨d1, by omega⟩)))
  · rw [z]; exact Or.inr (Or.inr (Or.inr (Or.inl ⟨d3, by omega⟩)))
  · rw [z]; exact Or.inr (Or.inr (Or.inr (Or.inl ⟨e3, by omega⟩)))
  · rw [z]; exact Or.inr (Or.inr (Or.inr (Or.inr ⟨d5, Or.inl (by omega)⟩)))
  · rw [z]; exact Or.inr (Or.inr (Or.inr (Or.inr ⟨ho.1, Or.inr ⟨ho.2.1, hb⟩⟩)))
end RST
