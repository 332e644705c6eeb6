/-! ===== rules, as a call of the law ===== -/
def rlE (xo sc kd pl am : Nat) (s f a : Nat) : Prop := scE sc kd pl am s f a ∨ (s = 0 ∧ a = xo) ∨ (s = 2 ∧ f = 1206 ∧ a = xo)
section JRU
variable {G : Nat → Nat} {xo ob tp sc kd pl am rv rc pk wt wt' z y te bk bk' cn nr : Nat} {S S' S0 : cs_S} {σ σ' σ4 σ1 : rf_S} {Bc Bs : Int} {ra : Nat → Nat}
theorem cf_C.fr (hC : cf_C G S xo tp sc kd pl am rv rc pk wt) (hF : fX (rlE xo sc kd pl am) S S') (h6 : cs_r S' 1206 xo = some wt') (hw : cs_k S' wt' = 12) : cf_C G S' xo tp sc kd pl am rv rc pk wt' := by
  obtain ⟨⟨a1, a2, a3, a4, a5⟩, ⟨b1, b2⟩, ⟨c1, c2, c3, c4, c5⟩, ⟨d1, d2, d3, d4, d5, d6, d7, d8, d9⟩, ⟨e1, e2, e3, e4⟩, ⟨f1, f2, f3, f4, f5⟩, g⟩ := hC
  have K : ∀ {a n : Nat}, cs_k S a = n → n ≠ 0 → cs_k S' a = n := fun h1 h2 => ((hF _ (by rw [h1]; exact h2)).1).trans h1
  have N : ∀ {a n m : Nat}, cs_k S a = n → n ≠ 0 → cs_n S a = m → cs_n S' a = m := fun h1 h2 h3 => ((hF _ (by rw [h1]; exact h2)).2.1).trans h3
  have nxs : xo ≠ sc := fun e => by rw [e] at a1; omega
  have nrs : rc ≠ sc := fun e => by rw [e] at e1; omega
  have nrx : rc ≠ xo := fun e => by rw [e] at e1; omega
  have rx : ∀ f, f ≠ 1206 → cs_r S' f xo = cs_r S f xo := fun f hf => (hF xo (by omega)).2.2.2.2.1 f (fun q => by
    rcases q with (q | q | q | q) | q | q
    · exact absurd q.1 (by decide)
    · exact nxs q.2.1
    · exact absurd q.1 (by decide)
    · exact absurd q.1 (by decide)
    · exact absurd q.1 (by decide)
    · exact hf q.2.1)
  have rs : ∀ f, f ≠ 904 → cs_r S' f sc = cs_r S f sc := fun f hf => (hF sc (by omega)).2.2.2.2.1 f (fun q => by
    rcases q with (q | q | q | q) | q | q
    · exact absurd q.1 (by decide)
    · exact hf q.2.2
    · exact absurd q.1 (by decide)
    · exact absurd q.1 (by decide)
    · exact absurd q.1 (by decide)
    · exact nxs q.2.2.symm)
  have rr : ∀ f, cs_r S' f rc = cs_r S f rc := fun f => (hF rc (by omega)).2.2.2.2.1 f (fun q => by
    rcases q with (q | q | q | q) | q | q
    · exact absurd q.1 (by decide)
    · exact nrs q.2.1
    · exact absurd q.1 (by decide)
    · exact absurd q.1 (by decide)
    · exact absurd q.1 (by decide)
    · exact nrx q.2.2)
  have lv : ∀ j, cs_al S' rv j = cs_al S rv j := fun j => (hF rv (by omega)).2.2.2.2.2.2.1 j (fun q => by
    rcases q with (q | q | q | q) | q | q
    · exact absurd q.1 (by decide)
    · exact absurd q.1 (by decide)
    · exact absurd q.1 (by decide)
    · exact g.2.2.2.2.2.2.1 q.2.symm
    · exact absurd q.1 (by decide)
    · exact absurd q.1 (by decide))
  exact ⟨⟨K a1 (by decide), (rx _ (by decide)).trans a2, (rx _ (by decide)).trans a3, (rx _ (by decide)).trans a4, h6⟩, ⟨K b1 (by decide), N b1 (by decide) b2⟩, ⟨K c1 (by decide), (rs _ (by decide)).trans c2, (rs _ (by decide)).trans c3, (rs _ (by decide)).trans c4, (rs _ (by decide)).trans c5⟩, ⟨K d1 (by decide), N d1 (by decide) d2, K d3 (by decide), N d3 (by decide) d4, K d5 (by decide), N d5 (by decide) d6, K d7 (by decide), N d7 (by decide) d8, fun j => (lv j).trans (d9 j)⟩, ⟨K e1 (by decide), (rr _).trans e2, K e3 (by decide), N e3 (by decide) e4⟩, ⟨hw, K f2 (by decide), N f2 (by decide) f3, K f4 (by decide), N f4 (by decide) f5⟩, g⟩
theorem jX_p.fr (hC : cf_C G S xo tp sc kd pl am rv rc pk wt) (h : jX_p S σ xo rc pk y) (hF : fX (rlE xo sc kd pl am) S S') (h2 : cs_i S' 1202 xo = σ'.1 5) (h3 : cs_i S' 1203 xo = σ'.1 7) (h85 : σ'.1 85 = σ.1 85) (h84 : ∀ j, σ'.2.2.1 84 j = σ.2.2.1 84 j) : jX_p S' σ' xo rc pk y := by
  obtain ⟨-, -, p3, p4, p5, p6⟩ := h
  obtain ⟨⟨a1, -⟩, -, ⟨c1, -⟩, ⟨d1, d2, d3, -⟩, ⟨e1, e2, e3, e4⟩, -, g⟩ := hC
  refine ⟨h2, h3, ((hF rc (by omega)).2.2.1 703 (fun q => ?_)).trans p3, p4, h85.trans p5, fun j hj => ?_⟩
  · rcases q with (q | q | q | q) | q | q
    · have := q.2; rw [← this] at c1; omega
    · exact absurd q.1 (by decide)
    · exact absurd q.1 (by decide)
    · exact absurd q.1 (by decide)
    · have := q.2; rw [← this] at a1; omega
    · exact absurd q.1 (by decide)
  · rw [(hF pk (by omega)).2.2.2.2.2.1 j (fun q => ?_), h84]
    · exact p6 j hj
    · rcases q with (q | q | q | q) | q | q
      · exact absurd q.1 (by decide)
      · exact absurd q.1 (by decide)
      · rcases q.2 with w | w
        · exact g.2.2.2.2.1 w.symm
        · exact g.2.2.2.2.2.1 w.symm
      · exact absurd q.1 (by decide)
      · exact absurd q.1 (by decide)
      · exact absurd q.1 (by decide)
theorem rlE.jn (hC : cf_C G S xo tp sc kd pl am rv rc pk wt) (hF : fX (rlE xo sc kd pl am) S S') : jn xo sc rc tp kd pl am pk ob S S' := by
  refine ⟨fun a ha => ⟨(hF a ha).1, (hF a ha).2.1⟩, fun f a ha n1 n2 n3 => ⟨(hF a ha).2.2.1 f (fun q => ?_), (hF a ha).2.2.2.1 f (fun q => ?_), (hF a ha).2.2.2.2.1 f (fun q => ?_)⟩, fun a j ha n1 n2 n3 n4 => (hF a ha).2.2.2.2.2.1 j (fun q => ?_), fun a j ha n1 n2 => (hF a ha).2.2.2.2.2.2.1 j (fun q => ?_), fun a j ha => (hF a ha).2.2.2.2.2.2.2 j (fun q => ?_)⟩
  · rcases q with (q | q | q | q) | q | q
    · exact n2 q.2
    · exact absurd q.1 (by decide)
    · exact absurd q.1 (by decide)
    · exact absurd q.1 (by decide)
    · exact n1 q.2
    · exact absurd q.1 (by decide)
  · rcases q with (q | q | q | q) | q | q <;> exact absurd q.1 (by decide)
  · rcases q with (q | q | q | q) | q | q
    · exact absurd q.1 (by decide)
    · exact n2 q.2.1
    · exact absurd q.1 (by decide)
    · exact absurd q.1 (by decide)
    · exact absurd q.1 (by decide)
    · exact n1 q.2.2
  · rcases q with (q | q | q | q) | q | q
    · exact absurd q.1 (by decide)
    · exact absurd q.1 (by decide)
    · rcases q.2 with w | w
      · exact n2 w
      · exact n3 w
    · exact absurd q.1 (by decide)
    · exact absurd q.1 (by decide)
    · exact absurd q.1 (by decide)
  · rcases q with (q | q | q | q) | q | q
    · exact absurd q.1 (by decide)
    · exact absurd q.1 (by decide)
    · exact absurd q.1 (by decide)
    · exact n1 q.2
    · exact absurd q.1 (by decide)
    · exact absurd q.1 (by decide)
  · rcases q with (q | q | q | q) | q | q <;> exact absurd q.1 (by decide)
theorem TX.to {E : Nat → Nat → Nat → Prop} (h : TX S0 S σ bk cn nr ra) (hbk : bk ≤ 1) (hc : cn ≤ 1100) (hN : RN σ bk cn) (hRT : RT σ bk cn) (er : σ'.2.2 = σ.2.2) (hF : fX E S S') (hE : ∀ s f b, E s f b → cs_k S b = 7 ∨ cs_k S b = 22 ∨ cs_k S b = 12 ∨ cs_k S b = 13) : TX S0 S' σ' bk cn nr ra := by
  have hE' : eK σ σ' bk cn := ⟨fun k n h1 h2 hn => by rw [er], fun n hn => by rw [er], fun j _ _ => by rw [er]⟩
  have hP : prS σ σ' bk cn := fun d m t hm hl hr => ⟨rR_bk hN hbk hc (fun k n h1 h2 hn => hE'.1 k n h1 (by omega) hn) d m t hm hl hr, rLv_bk hN hbk hc hE' d m t hm hl hr, fun S hc' => cLv_bk hN hbk hc hE' hRT d m t hm hl hr hc'⟩
  have e : ∀ r, r < nr → ∀ f, cs_r S' f (ra r) = cs_r S f (ra r) := fun r hr f => by
    obtain ⟨bt, wt, nb, x, k, n, w, q, L, tr, ut, hf⟩ := h.1 r hr
    have k9 := hf.2.2.1.1
    exact (hF (ra r) (by omega)).2.2.2.2.1 f (fun q => by rcases hE _ _ _ q with w | w | w | w <;> omega)
  refine ⟨fun r hr => ?_, fun r r' a hr hr' ha ha' => ?_⟩
  · obtain ⟨bt, wt, nb, x, k, n, w, q, L, tr, ut, hf⟩ := h.1 r hr
    exact ⟨bt, wt, nb, x, k, n, w, q, L, tr, ut, hf.on0 hbk hP (fun kk _ _ _ => by rw [er]) (fun c _ => by rw [er]) (by rw [er]) (fun j _ => by rw [er]) (Nat.le_refl _) hc hF hE⟩
  · rw [e r hr, e r hr] at ha
    rw [e r' hr', e r' hr'] at ha'
    exact h.2 r r' a hr hr' ha ha'
/-- the other bank is left alone -/
theorem eL_of (hbk : bk ≤ 1) (hr : ∀ k j, ¬ (k = 46 ∧ 2120 * (1 - bk) ≤ j ∧ j < 2120 * (1 - bk) + 2120) → σ4.2.2.1 k j = σ.2.2.1 k j) (hl : σ4.2.2.2 = σ.2.2.2) (hg : gF (1 - bk) 0 0 σ4 σ1) (e1 : σ'.2.2 = σ1.2.2) : eL σ σ' bk 1100 := by
  have hb : bk = 0 ∨ bk = 1 := by omega
  refine ⟨⟨⟨fun k n h1 h2 hn => ?_, fun n hn => ?_, fun j h1 h2 => ?_⟩, fun k b h1 h2 h3 h4 h5 => ?_, fun j h1 h2 => ?_, fun k b h1 h2 h3 => ?_, fun j h1 h2 => ?_⟩, fun k j hk => ?_, fun k j h1 h2 => ?_⟩
  · rw [e1, hg.2.2.1 k n (by omega) (by omega) (fun _ => by have := hn.1; have := hn.2; omega), hr k n (by omega)]
  · rw [e1, hg.2.2.2 52 n (by omega) (by omega) (fun _ => by have := hn.1; have := hn.2; omega), hl]
  · rw [e1, hg.2.2.1 46 j (by omega) (by omega) (by omega), hr 46 j (by omega)]
  · rw [e1, hg.2.2.1 k b (by omega) (by omega) (by omega), hr k b (by omega)]
  · rw [e1, hg.2.2.1 41 j (by omega) (by omega) (by omega), hr 41 j (by omega)]
  · rw [e1, hg.2.2.2 k b (by omega) (by omega) (by omega), hl]
  · rw [e1, hg.2.2.2 37 j (by omega) (by omega) (by omega), hl]
  · rw [e1, hg.2.2.1 k j (by omega) (by omega) (by omega), hr k j (by omega)]
  · rw [e1, hg.2.2.2 k j (by omega) (by omega) (by omega), hl]
end JRU
