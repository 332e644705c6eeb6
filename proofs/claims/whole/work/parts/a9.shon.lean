/-! ===== what rules share, where the reference goes on ===== -/
theorem stL_cong {σ σ' : rf_S} (h10 : σ'.2.2.1 10 = σ.2.2.1 10) : ∀ d k, (∀ j, k ≤ j → j < k + d → σ'.2.2.1 81 j = σ.2.2.1 81 j ∧ σ'.2.2.1 82 j = σ.2.2.1 82 j) → stL σ' k d = stL σ k d := by
  intro d
  induction d with
  | zero => intro k _; rfl
  | succ d ih =>
    intro k h
    obtain ⟨h1, h2⟩ := h k (Nat.le_refl _) (by omega)
    rw [stL, stL, h10, h1, h2, ih (k + 1) (fun j z1 z2 => h j (by omega) (by omega))]
theorem stL_snoc {σ : rf_S} : ∀ d k, stL σ k (d + 1) = stL σ k d ++ (if σ.2.2.1 10 (σ.2.2.1 82 (k + d)).toNatClampNeg = -1 then [((σ.2.2.1 81 (k + d)).toNatClampNeg, (σ.2.2.1 82 (k + d)).toNatClampNeg)] else []) := by
  intro d
  induction d with
  | zero =>
    intro k
    rw [stL, stL, stL, Nat.add_zero]
    split <;> rfl
  | succ d ih =>
    intro k
    have e1 : ∀ d, stL σ k (d + 1) = if σ.2.2.1 10 (σ.2.2.1 82 k).toNatClampNeg = -1 then ((σ.2.2.1 81 k).toNatClampNeg, (σ.2.2.1 82 k).toNatClampNeg) :: stL σ (k + 1) d else stL σ (k + 1) d := fun d => by rw [stL]
    rw [e1 (d + 1), e1 d, ih (k + 1), show k + 1 + d = k + (d + 1) from by omega]
    by_cases c : σ.2.2.1 10 (σ.2.2.1 82 k).toNatClampNeg = -1
    · rw [if_pos c, if_pos c, List.cons_append]
    · rw [if_neg c, if_neg c]
section SHO
variable {G : Nat → Nat} {S : cs_S} {σ σ' : rf_S} {wa rr lt tl bk nr te ne na ns ks now ed : Nat} {ra n pr pr' tm ev al : Nat → Nat} {ko ko' : Nat → Nat → Nat} {Ow Ow' : Nat → Nat → Prop} {wl : List Nat}
theorem WV.on {q r e : Nat} (h : WV S σ te bk nr now n Ow q r e) (hE : eV σ σ') (hO : ∀ r a, r < nr → cs_k S a ≠ 0 → Ow' r a → Ow r a) : WV S σ' te bk nr now n Ow' q r e := by
  obtain ⟨h1, h2, h3, h4, h5, nm, vs, π, h6, h7, h8, h9, h10, h11, h12, h13, h14, h15⟩ := h
  refine ⟨h1, h2, h3, h4, h5, nm, vs, π, h6, h7, h8, h9, h10, h11, fun r' hr' z => h12 r' hr' (hO r' vs hr' (by omega) z), h13, h14, fun j hj => ?_⟩
  obtain ⟨z1, z2, va, i, z3, z4, z5⟩ := h15 j hj
  exact ⟨by rw [hE.2]; exact z1, z2, va, i, z3, by rw [hE.2, hE.fo]; exact z4, hE.vl z5⟩
theorem EV.on {o : Nat} (h : EV S σ te tm ev nr Ow o) (hE : eV σ σ') (hO : ∀ r a, r < nr → cs_k S a ≠ 0 → Ow' r a → Ow r a) : EV S σ' te tm ev nr Ow' o := by
  obtain ⟨⟨m, h1⟩, h2, h3, h4, h5⟩ := h
  refine ⟨⟨m, hE.evr h1⟩, h2, h3, by rw [hE.1 10 (by decide)]; exact h4, fun vs r hv hr z => h5 vs r hv hr (hO r vs hr ?_ z)⟩
  obtain ⟨-, -, -, -, nm, vs', -, -, -, k1, k2, -⟩ := h1
  rw [hv] at k1
  cases k1
  omega
theorem SHR.on (h : SHR G S σ wa rr lt tl bk nr ra n te ne na ns ks now pr tm ev ko Ow al ed wl) (hE : eV σ σ') (h22 : σ'.1 22 = σ.1 22) (h23 : σ'.1 23 = σ.1 23) (h79 : σ'.1 79 = σ.1 79) (hpr : ∀ r, r < nr → pr r ≤ pr' r) (h63 : ∀ r o, r < nr → o < pr r → σ'.2.2.1 63 (4000 * r + o) = σ.2.2.1 63 (4000 * r + o)) (h73 : ∀ k j, 73 ≤ k → k ≤ 77 → j < min na 500 → σ'.2.2.1 k j = σ.2.2.1 k j) (h81 : ∀ j, j < ns → σ'.2.2.1 81 j = σ.2.2.1 81 j ∧ σ'.2.2.1 82 j = σ.2.2.1 82 j) (hO : ∀ r a, r < nr → cs_k S a ≠ 0 → Ow' r a → Ow r a) (hko : ∀ r f, r < nr → KfO σ r (pr r) f → ko' r f = ko r f) : SHR G S σ' wa rr lt tl bk nr ra n te ne na ns ks now pr' tm ev ko' Ow' al ed wl := by
  obtain ⟨h1, ⟨i1, i2, i3, i4, i5, i6⟩, h11, h12, ⟨h13, h14⟩, h15, h16, h17, h18, h19, h20, h21⟩ := h
  have es : stL σ' ks (ns - ks) = stL σ ks (ns - ks) := stL_cong (hE.1 10 (by decide)) _ _ (fun j z1 z2 => h81 j (by omega))
  refine ⟨h1, ⟨i1, by rw [h23]; exact i2, i3, by rw [h79]; exact i4, i5, by rw [h22]; exact i6⟩, fun o ho => (h11 o ho).on hE hO, h12, ⟨h13, fun i hi => ?_⟩, fun r hr z => h15 r hr (hO r lt hr (by rw [h1.2.2.2.2.2.2.1]; decide) z), h16, by rw [es]; exact h17, fun i q re z1 z2 => (h18 i q re z1 (by rw [← es]; exact z2)).on hE hO, h19, h20, h21⟩
  obtain ⟨r, e, f, z1, z2, z3, z4, z5, z6, z7, z8, z9, z10, z11, z12⟩ := h14 i hi
  refine ⟨r, e, f, z1, by rw [h73 73 i (by omega) (by omega) hi]; exact z2, by have := hpr r z1; omega, by rw [h73 75 i (by omega) (by omega) hi]; exact z4, by rw [h63 r e z1 z3]; exact z5, ⟨by have := hpr r z1; have := z6.1; omega, by rw [h63 r f z1 z6.1]; exact z6.2⟩, z7, by rw [h73 77 i (by omega) (by omega) hi]; exact z8, by rw [h73 74 i (by omega) (by omega) hi]; exact z9, z10, by rw [h73 76 i (by omega) (by omega) hi]; exact z11, by rw [hko r f z1 z6]; exact z12⟩
end SHO
/-- the lacks of rule r -/
def lcR (σ : rf_S) (r nl : Nat) (lr le an : Nat → Nat) (lo p : Nat) : Prop := (∀ j, j < nl → lr j = r → le j < p ∧ c4O σ r (le j) ∧ (σ.2.2.1 71 j = 0 ↔ lo ≤ le j ∧ ¬ le j < an (kfO σ r (le j)))) ∧ (∀ o, o < p → c4O σ r o → ∃ j, j < nl ∧ lr j = r ∧ le j = o) ∧ ∀ j j', j < j' → j' < nl → lr j = r → lr j' = r → le j < le j'
/-- rule r of the class -/
def CR (S : cs_S) (σ : rf_S) (Ow : Nat → Prop) (r ra bk x k n w q L : Nat) (dp : Nat → Nat) (tr : (c : Nat) → cT (dp c)) (ud : Nat) (ut : Option (cT ud)) (tm ev ko : Nat → Nat) (nl : Nat) (lr le : Nat → Nat) (now p : Nat) : Prop :=
  ruC S σ r ra (12 * bk + r) x k n w q dp tr ud ut ∧ (∀ by0, cs_r S 808 ra = some by0 → ∀ i j, i < n → j < n → cs_al S by0 i = cs_al S by0 j → i = j) ∧ ∃ (wt bt nb : Nat) (bl : Nat → List Nat) (eo : Nat → Nat) (so : Nat → Option Nat) (lo : Nat) (sr an : Nat → Nat), JK S σ Ow r ra (12 * bk + r) x k n w L tm ev wt bt nb bl ko eo so lo sr an (KfO σ r p) (KfO σ r p) now p ∧ (x = 4 → lcR σ r nl lr le an lo p)
section CRX
variable {S S' : cs_S} {σ σ' : rf_S} {Ow : Nat → Prop} {r ra bk x k n w q L nl nl' now now' p : Nat} {dp : Nat → Nat} {tr : (c : Nat) → cT (dp c)} {ud : Nat} {ut : Option (cT ud)} {tm ev ko lr le lr' le' : Nat → Nat}
/-- another rule goes on, in the class -/
theorem CR.fx {E : Nat → Nat → Nat → Prop} {wt1 : Nat} (h : CR S σ Ow r ra bk x k n w q L dp tr ud ut tm ev ko nl lr le now p) (hs : sh S wt1 E) (hwk1 : cs_k S wt1 = 26) (hF : fX E S S') (hE : ∀ s f a, E s f a → Ow a → cs_k S a ≠ 4 ∧ cs_k S a ≠ 6 ∧ cs_k S a ≠ 9 ∧ cs_k S a ≠ 23 ∧ cs_k S a ≠ 25) (hne : ¬ Ow wt1) : CR S' σ Ow r ra bk x k n w q L dp tr ud ut tm ev ko nl lr le now p := by
  obtain ⟨h1, h2, wt, bt, nb, bl, eo, so, lo, sr, an, h3, h4⟩ := h
  refine ⟨h1.fx hs hF hwk1, fun by0 hb i j hi hj he => ?_, wt, bt, nb, bl, eo, so, lo, sr, an, h3.fx hs hwk1 hF hE (fun vs hv _ e => hne (by rw [← e]; exact hv)), h4⟩
  have hr9 := h1.1
  have e808 := (hs.ru hF hwk1 hr9).2.2.2 808 (by omega)
  rw [e808] at hb
  obtain ⟨-, -, -, by1, b1, b2, b3, -⟩ := h1.2.2.2.2.2.2.2.2.1
  rw [hb] at b1
  cases b1
  have nby : by0 ≠ wt1 := fun z => by rw [z, hwk1] at b2; cases b2
  have a7 := (hs.a21 hF b2 (by omega) (fun y => by have := y.1; omega) nby).2.2.2.2.2.2.1
  rw [a7, a7] at he
  exact h2 by0 hb i j hi hj he
/-- the names behind by stay apart -/
theorem CR.fx' {E : Nat → Nat → Nat → Prop} {wt1 : Nat} (h : CR S σ Ow r ra bk x k n w q L dp tr ud ut tm ev ko nl lr le now p) (hs : sh S wt1 E) (hwk1 : cs_k S wt1 = 26) (hF : fX E S S') : ∀ by0, cs_r S' 808 ra = some by0 → ∀ i j, i < n → j < n → cs_al S' by0 i = cs_al S' by0 j → i = j := by
  obtain ⟨h1, h2, -⟩ := h
  intro by0 hb i j hi hj he
  have hr9 := h1.1
  have e808 := (hs.ru hF hwk1 hr9).2.2.2 808 (by omega)
  rw [e808] at hb
  obtain ⟨-, -, -, by1, b1, b2, b3, -⟩ := h1.2.2.2.2.2.2.2.2.1
  rw [hb] at b1
  cases b1
  have nby : by0 ≠ wt1 := fun z => by rw [z, hwk1] at b2; cases b2
  have a7 := (hs.a21 hF b2 (by omega) (fun y => by have := y.1; omega) nby).2.2.2.2.2.2.1
  rw [a7, a7] at he
  exact h2 by0 hb i j hi hj he
/-- another rule goes on, in the reference -/
theorem CR.on (h : CR S σ Ow r ra bk x k n w q L dp tr ud ut tm ev ko nl lr le now p) (hE : eV σ σ') (h63 : ∀ o, o < 4000 → σ'.2.2.1 63 (4000 * r + o) = σ.2.2.1 63 (4000 * r + o) ∧ σ'.2.2.1 64 (4000 * r + o) = σ.2.2.1 64 (4000 * r + o)) (hal : ∀ f, f < 4000 → σ'.2.2.1 65 (4000 * r + f) = σ.2.2.1 65 (4000 * r + f) ∧ σ'.2.2.1 66 (4000 * r + f) = σ.2.2.1 66 (4000 * r + f)) (h67 : σ'.2.2.1 67 r = σ.2.2.1 67 r) (hp : p ≤ 4000) (hl : nl ≤ nl') (hnew : ∀ j, nl ≤ j → j < nl' → lr' j ≠ r) (hold : ∀ j, j < nl → lr' j = lr j ∧ le' j = le j ∧ (lr j = r → (σ'.2.2.1 71 j = 0 ↔ σ.2.2.1 71 j = 0))) (hlk : ∀ j, j < nl → lr j = r → le j < p) : CR S σ' Ow r ra bk x k n w q L dp tr ud ut tm ev ko nl' lr' le' now p := by
  obtain ⟨h1, h2, wt, bt, nb, bl, eo, so, lo, sr, an, h3, h4⟩ := h
  have eK : KfO σ' r p = KfO σ r p := funext fun f => propext ⟨fun z => ⟨z.1, by rw [← (h63 f (by have := z.1; omega)).1]; exact z.2⟩, fun z => ⟨z.1, by rw [(h63 f (by have := z.1; omega)).1]; exact z.2⟩⟩
  refine ⟨h1.ev hE, h2, wt, bt, nb, bl, eo, so, lo, sr, an, ?_, fun hx => ?_⟩
  · rw [eK]
    exact h3.on hE (fun o ho => (h63 o (by omega)).1) (fun o ho => (h63 o (by omega)).2) (fun f hf => hal f (by have := hf.1; omega)) h67 hp (fun hx => (h3.2.2.2.2.2.2.2.1 hx).1.1.1)
  · obtain ⟨l1, l2, l3⟩ := h4 hx
    have hc4 : ∀ o, o < p → (c4O σ' r o ↔ c4O σ r o) := fun o ho => by
      unfold c4O hkO
      rw [(h63 o (by omega)).1, (h63 o (by omega)).2]
    have hkf : ∀ o, o < p → kfO σ' r o = kfO σ r o := fun o ho => by
      unfold kfO
      rw [(h63 o (by omega)).1]
    have sel : ∀ j, j < nl' → lr' j = r → j < nl := fun j z1 z2 => by
      by_cases c : j < nl
      · exact c
      · exact absurd z2 (hnew j (by omega) z1)
    refine ⟨fun j hj hr => ?_, fun o ho hc => ?_, fun j j' z1 z2 z3 z4 => ?_⟩
    · have hjn := sel j hj hr
      obtain ⟨o1, o2, o3⟩ := hold j hjn
      rw [o1] at hr
      obtain ⟨m1, m2, m3⟩ := l1 j hjn hr
      rw [o2, hc4 _ m1, o3 hr, hkf _ m1]
      exact ⟨m1, m2, m3⟩
    · obtain ⟨j, m1, m2, m3⟩ := l2 o ho ((hc4 o ho).mp hc)
      obtain ⟨o1, o2, -⟩ := hold j m1
      exact ⟨j, by omega, o1.trans m2, o2.trans m3⟩
    · have q2 := sel j' z2 z4
      have q1 : j < nl := by omega
      obtain ⟨o1, o2, -⟩ := hold j q1
      obtain ⟨o3, o4, -⟩ := hold j' q2
      rw [o2, o4]
      exact l3 j j' z1 q2 (o1.symm.trans z3) (o3.symm.trans z4)
end CRX
