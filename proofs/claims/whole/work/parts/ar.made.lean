/-! ===== one made event comes ===== -/
theorem nI_64 {n : Nat} (h : n < 4000) : nI n - nI n / 64 * 64 = nI (n % 64) := by
  have hh : (nI n).toInt = n := nI_toInt (by omega)
  have e1 : (nI n / 64).toInt = (nI n).toInt.tdiv (64 : Int32).toInt := Int32.toInt_div_of_ne_right _ _ (by decide)
  have e64 : (64 : Int32).toInt = 64 := by decide
  have e2 := Int.tmod_add_tdiv_mul (n : Int) 64
  have e3 : (n : Int).tmod 64 = (n : Int) % 64 := Int.tmod_eq_emod_of_nonneg (by omega)
  rw [hh, e64] at e1
  refine nI_at ?_ (by omega)
  rw [Int32.toInt_sub, Int32.toInt_mul, e1, e64, hh]
  generalize (n : Int).tdiv 64 * 64 = d at *
  rw [Int.bmod_eq_of_le (n := d) (by omega) (by omega), Int.bmod_eq_of_le (by omega) (by omega)]
  omega
/-- come: the event gets its number -/
theorem come_pre {G : Nat → Nat} {S : cs_S} {post : cs_S → Prop} {mc ms wa q lt ne : Nat} {mkv : Int32} (k12 : cs_k S wa = 12) (k5 : cs_k S q = 5) (h1102 : cs_r S 1102 wa = some lt) (k23 : cs_k S lt = 23) (n64 : cs_n S lt = 64) (h1104 : cs_i S 1104 wa = nI ne) (hne : ne < 4000) (h402 : cs_i S 402 q = mkv)
    (h : ∀ S', fX (fun s f a => (s = 0 ∧ a = q ∧ f = 405) ∨ (s = 5 ∧ a = lt ∧ f = ne % 64) ∨ (s = 0 ∧ a = wa ∧ f = 1104)) S S' → cs_i S' 405 q = nI ne → cs_ar S' lt (ne % 64) = some q → cs_i S' 1104 wa = nI (ne + 1) → ∃ n9, w_X10_come_38 post G mc ms n9 S' 0 0 wa (some q) (mkv + 1)) : wp_X10_come post G mc ms S wa (some q) := by
  have nwq : wa ≠ q := fun e => by rw [e, k5] at k12; cases k12
  refine ⟨k12, q, rfl, k5, fun S44 e44 => ?_⟩
  have i44 : cs_i S44 1104 wa = nI ne := by rw [e44, iui, if_neg (fun z => nwq z.2)]; exact h1104
  have r44 : cs_r S44 1102 wa = some lt := by rw [e44]; exact h1102
  rw [i44, nI_64 hne, nI_clamp (by omega)]
  refine ⟨by rw [e44]; exact k12, fun r46 e46 => ⟨by decide, lt, e46.trans r44, by rw [e44]; exact k23, ?_, fun b hb => ?_, fun S49 e49 => ⟨by rw [e49, e44]; exact k12, fun S51 e51 => ?_⟩⟩⟩
  · rw [show cs_n S44 lt = 64 from by rw [e44]; exact n64]
    exact nI_in (by omega) (by decide)
  · cases hb
    rw [e44]; exact k5
  · have i49 : cs_i S49 1104 wa = nI ne := by rw [e49]; exact i44
    have hF : fX (fun s f a => (s = 0 ∧ a = q ∧ f = 405) ∨ (s = 5 ∧ a = lt ∧ f = ne % 64) ∨ (s = 0 ∧ a = wa ∧ f = 1104)) S S51 := by
      rw [e51, e49, e44]
      exact ((fX.rfl.ui (Or.inl (Or.inl ⟨rfl, rfl, rfl⟩))).uar (Or.inl (Or.inr (Or.inl ⟨rfl, rfl, rfl⟩)))).ui (Or.inl (Or.inr (Or.inr ⟨rfl, rfl, rfl⟩)))
    have i405 : cs_i S51 405 q = nI ne := by
      rw [e51, iui, if_neg (fun z => absurd z.1 (by decide)), e49, iuar, e44, iui, if_pos ⟨rfl, rfl⟩]
      exact h1104
    have ilt : cs_ar S51 lt (ne % 64) = some q := by rw [e51, arui, e49, aruar, if_pos ⟨rfl, rfl⟩]
    have i1104 : cs_i S51 1104 wa = nI (ne + 1) := by rw [e51, iui, if_pos ⟨rfl, rfl⟩, i49, nI_1]
    have i402 : cs_i S51 402 q = mkv := by
      rw [e51, iui, if_neg (fun z => absurd z.1 (by decide)), e49, iuar, e44, iui, if_neg (fun z => absurd z.1 (by decide))]
      exact h402
    rw [i402]
    exact ⟨by rw [e51, e49, e44]; exact k5, h S51 hF i405 ilt i1104⟩
section CBM
variable {σ σ' : rf_S} {nr ne nv te na ns ks nl p0 p1 t mk kc : Nat} {gf n pr lr le : Nat → Nat}
theorem CB.eb (hE : eB σ σ' ne nv te) (hlk : ∀ j, j < nl → le j < ne) (hst : ∀ k, ks ≤ k → k < ns → (σ.2.2.1 82 k).toNatClampNeg < ne) : CB p0 p1 t mk kc gf σ' nr na ns ks nl n pr lr le = CB p0 p1 t mk kc gf σ nr na ns ks nl n pr lr le := by
  have row : ∀ k, 63 ≤ k ∧ k ≤ 83 → σ'.2.2.1 k = σ.2.2.1 k := fun k hk => funext fun j => hE.2.1 k j (by omega) (by omega) (by omega) (by omega) (by omega) (by omega)
  have hK : ∀ r p, KfO σ' r p = KfO σ r p := fun r p => funext fun f => propext (by unfold KfO; rw [row 63 (by omega)])
  have pc : ∀ o, o < ne → pcB p0 p1 σ' o = pcB p0 p1 σ o := fun o ho => by unfold pcB; rw [hE.mn ho]
  have r10 : ∀ o, o < ne → σ'.2.2.1 10 o = σ.2.2.1 10 o := fun o ho => hE.2.1 10 o (by omega) (by omega) (by omega) (by omega) (by omega) (by omega)
  have e1 : sS (fun r => n r = 0 ∧ ∀ f, ¬ KfO σ' r (pr r) f) (fun _ => (kc : Int)) 0 nr = sS (fun r => n r = 0 ∧ ∀ f, ¬ KfO σ r (pr r) f) (fun _ => (kc : Int)) 0 nr := sS_cong _ (fun y _ _ => ⟨by rw [hK], fun _ => rfl⟩)
  have e2 : sS (fun j => σ'.2.2.1 71 j = 0) (fun j => (lcB p0 p1 t mk σ' (lr j) (le j) : Int)) 0 nl = sS (fun j => σ.2.2.1 71 j = 0) (fun j => (lcB p0 p1 t mk σ (lr j) (le j) : Int)) 0 nl := sS_cong _ (fun y _ hy => ⟨by rw [row 71 (by omega)], fun _ => by
    have := hlk y (by omega)
    unfold lcB
    rw [r10 _ this, pc _ this]⟩)
  have e3 : sS (fun k => σ'.2.2.1 10 (σ'.2.2.1 82 k).toNatClampNeg = -1) (fun k => (scB p0 p1 t σ' (σ'.2.2.1 81 k).toNatClampNeg (σ'.2.2.1 82 k).toNatClampNeg : Int)) ks (ns - ks) = sS (fun k => σ.2.2.1 10 (σ.2.2.1 82 k).toNatClampNeg = -1) (fun k => (scB p0 p1 t σ (σ.2.2.1 81 k).toNatClampNeg (σ.2.2.1 82 k).toNatClampNeg : Int)) ks (ns - ks) := sS_cong _ (fun y h1 hy => by
    have := hst y h1 (by omega)
    refine ⟨by rw [row 82 (by omega), r10 _ this], fun _ => ?_⟩
    unfold scB
    rw [row 82 (by omega), row 81 (by omega), pc _ this])
  unfold CB
  rw [e1, e2, e3]
theorem CB.pop (h : ks < ns) : CB p0 p1 t mk kc gf σ nr na ns ks nl n pr lr le = CB p0 p1 t mk kc gf σ nr na ns (ks + 1) nl n pr lr le + (if σ.2.2.1 10 (σ.2.2.1 82 ks).toNatClampNeg = -1 then (scB p0 p1 t σ (σ.2.2.1 81 ks).toNatClampNeg (σ.2.2.1 82 ks).toNatClampNeg : Int) else 0) := by
  unfold CB
  rw [show ns - ks = (ns - (ks + 1)) + 1 from by omega, sS_down]
  by_cases c : σ.2.2.1 10 (σ.2.2.1 82 ks).toNatClampNeg = -1
  · rw [one_y c, if_pos c]; simp only [Int.natCast_one, Int.one_mul]; omega
  · rw [one_n c, if_neg c]; simp only [Int.natCast_zero, Int.zero_mul]; omega
end CBM
section CRM
variable {G : Nat → Nat} {S S' : cs_S} {σ σ' : rf_S} {wa rr lt tl bk nr te nv ne na ns ks nl now q0 : Nat} {ra x k n w q L : Nat → Nat} {dp : Nat → Nat → Nat} {tr : (r c : Nat) → cT (dp r c)} {ud : Nat → Nat} {ut : (r : Nat) → Option (cT (ud r))} {pr lr le tm ev : Nat → Nat} {ko : Nat → Nat → Nat} {Ow : Nat → Nat → Prop}
theorem CR.f0 {E : Nat → Nat → Nat → Prop} {O : Nat → Prop} {r a x k n w q L p : Nat} {dp : Nat → Nat} {tr : (c : Nat) → cT (dp c)} {ud : Nat} {ut : Option (cT ud)} {kk : Nat → Nat} (h : CR S σ O r a bk x k n w q L dp tr ud ut tm ev kk nl lr le now p) (hsh : ∀ wt, sh S wt E) (hF : fX E S S') (hE : ∀ s f a, E s f a → O a → cs_k S a ≠ 4 ∧ cs_k S a ≠ 6 ∧ cs_k S a ≠ 9 ∧ cs_k S a ≠ 23 ∧ cs_k S a ≠ 25) : CR S' σ O r a bk x k n w q L dp tr ud ut tm ev kk nl lr le now p := by
  obtain ⟨h1, h2, wt, bt, nb, bl, eo, so, lo, sr, an, h3, h4⟩ := id h
  have kwt : cs_k S wt = 26 := h3.2.2.1.1.2.2.2.1
  exact ⟨h1.fx (hsh wt) hF kwt, h.fx' (hsh wt) kwt hF, wt, bt, nb, bl, eo, so, lo, sr, an, h3.fx (hsh wt) kwt hF hE (fun vs _ z => z), h4⟩
/-- each event has its key, each key is its first event's -/
theorem RD.ky (hD : RD σ bk nr x n w te nv ne na ns nl now pr lr le tm) {r : Nat} (hr : r < nr) : (∀ o, o < pr r → hkO σ r o → KfO σ r (pr r) (kfO σ r o)) ∧ ∀ f, KfO σ r (pr r) f → kH σ (12 * bk + r) (n r) f := by
  obtain ⟨-, -, -, -, -, d10, -⟩ := hD
  obtain ⟨jp, jK, -⟩ := d10.1 r hr
  refine ⟨fun o ho hk => ?_, fun f hf => ?_⟩
  · rcases jK.1 o (by omega) with z | ⟨f, g1, g2, g3, -⟩
    · exact absurd z hk
    · have e1 : kfO σ r o = f := by unfold kfO; rw [g2, nI_clamp (by omega)]
      rw [e1]
      exact ⟨by omega, g3⟩
  · have h1 := hf.1
    rcases jK.1 f (by omega) with z | ⟨f', g1, g2, g3, g4, -⟩
    · rw [hf.2] at z; exact absurd z (nI_m f (by omega))
    · exact g4
/-- all rules, where the log has one event more -/
theorem CR.more (hS : RS0 σ bk nr x k n w q L dp tr ud ut) (hD : RD σ bk nr x n w te nv ne na ns nl now pr lr le tm) (hE : eB σ σ' ne nv te) (kw : cs_k S wa = 12) (kl : cs_k S lt = 23) (hol : ∀ r, r < nr → ¬ Ow r lt) (k5 : cs_k S q0 = 5)
    (hF : fX (fun s f a => (a = q0 ∧ (f = 405 ∨ f = 406)) ∨ (s = 5 ∧ a = lt ∧ f = ne % 64) ∨ (a = wa ∧ (f = 1104 ∨ f = 1105 ∨ f = 1109 ∨ f = 1110 ∨ f = 1111))) S S') {r : Nat} (hr : r < nr) (h : CR S σ (Ow r) r (ra r) bk (x r) (k r) (n r) (w r) (q r) (L r) (dp r) (tr r) (ud r) (ut r) tm ev (ko r) nl lr le now (pr r)) : CR S' σ' (Ow r) r (ra r) bk (x r) (k r) (n r) (w r) (q r) (L r) (dp r) (tr r) (ud r) (ut r) (prU tm ne now) (prU ev ne q0) (ko r) nl lr le now (pr r) := by
  obtain ⟨ky1, ky2⟩ := hD.ky hr
  obtain ⟨⟨d1, d2, d3, d4, d5⟩, d6, d7, -, -, d10, d11, -⟩ := id hD
  have hp := d11 r hr
  have h1 := h.f0 (fun wt s f a _ z => Or.inr (by
    rcases z with ⟨rfl, z⟩ | ⟨-, rfl, -⟩ | ⟨rfl, -⟩
    · exact ⟨by omega, by omega, by omega, by omega, by omega, by omega, fun _ => by omega, fun y => by omega, fun y => by omega⟩
    · exact ⟨by omega, by omega, by omega, by omega, by omega, by omega, fun y => by omega, fun y => by omega, fun y => by omega⟩
    · exact ⟨by omega, by omega, by omega, by omega, by omega, by omega, fun y => by omega, fun y => by omega, fun y => by omega⟩)) hF (fun s f a z ho => by
    rcases z with ⟨rfl, z⟩ | ⟨-, rfl, -⟩ | ⟨rfl, -⟩
    · exact ⟨by omega, by omega, by omega, by omega, by omega⟩
    · exact absurd ho (hol r hr)
    · exact ⟨by omega, by omega, by omega, by omega, by omega⟩)
  exact h1.eb hE d3 hp d2 (fun o ho => (d6 o ho).1) (hS.2.2.2.2 r hr).1.1 ky1 ky2 (fun o ho => prU_o (by omega)) (fun o ho => prU_o (by omega))
end CRM
