/-! ===== class and reference: the steps of a look, prepared ===== -/
def OwU (Ow : Nat → Nat → Prop) (r : Nat) (O : Nat → Prop) : Nat → Nat → Prop := fun r' a => (r' = r ∧ O a) ∨ (r' ≠ r ∧ Ow r' a)
def koU (ko : Nat → Nat → Nat) (r : Nat) (k1 : Nat → Nat) : Nat → Nat → Nat := fun r' => if r' = r then k1 else ko r'
theorem koU_r {ko : Nat → Nat → Nat} {r : Nat} {k1 : Nat → Nat} : koU ko r k1 r = k1 := if_pos rfl
theorem koU_o {ko : Nat → Nat → Nat} {r r' : Nat} {k1 : Nat → Nat} (h : r' ≠ r) : koU ko r k1 r' = ko r' := if_neg h
theorem OwU_r {Ow : Nat → Nat → Prop} {r : Nat} {O : Nat → Prop} : OwU Ow r O r = O := funext fun a => propext ⟨fun z => by
  rcases z with z | z
  · exact z.2
  · exact absurd rfl z.1, fun z => Or.inl ⟨rfl, z⟩⟩
theorem OwU_o {Ow : Nat → Nat → Prop} {r r' : Nat} {O : Nat → Prop} (h : r' ≠ r) : OwU Ow r O r' = Ow r' := funext fun a => propext ⟨fun z => by
  rcases z with z | z
  · exact absurd z.1 h
  · exact z.2, fun z => Or.inr ⟨h, z⟩⟩
/-- what lies outside of the watch is as it was in S0 -/
def FR (P0 : Nat → Prop) (S0 S : cs_S) (nr : Nat) (Ow : Nat → Nat → Prop) (ne : Nat) (ev : Nat → Nat) (wl : List Nat) : Prop := (∀ a, cs_k S0 a ≠ 0 → cs_k S a = cs_k S0 a ∧ cs_n S a = cs_n S0 a) ∧ ∀ a, P0 a → (cs_k S0 a ≠ 0 ∧ cs_k S0 a ≠ 1 ∧ cs_k S0 a ≠ 4 ∧ cs_k S0 a ≠ 6 ∧ cs_k S0 a ≠ 9 ∧ cs_k S0 a ≠ 12 ∧ cs_k S0 a ≠ 23 ∧ cs_k S0 a ≠ 25 ∧ cs_k S0 a ≠ 27) ∧ (cs_k S a = cs_k S0 a ∧ cs_n S a = cs_n S0 a ∧ (∀ f, (cs_k S0 a = 5 → f < 405) → cs_i S f a = cs_i S0 f a ∧ cs_l S f a = cs_l S0 f a ∧ cs_r S f a = cs_r S0 f a) ∧ (cs_k S0 a ≠ 5 → ∀ j, cs_ai S a j = cs_ai S0 a j ∧ cs_al S a j = cs_al S0 a j ∧ cs_ar S a j = cs_ar S0 a j)) ∧ (cs_k S0 a = 26 → ∀ r, r < nr → ¬ Ow r a) ∧ (∀ o, o < ne → ev o ≠ a) ∧ ¬ a ∈ wl
theorem FR.fx {P0 : Nat → Prop} {S0 S S' : cs_S} {nr : Nat} {Ow Ow' : Nat → Nat → Prop} {E : Nat → Nat → Nat → Prop} {ne : Nat} {ev : Nat → Nat} {wl : List Nat} (h : FR P0 S0 S nr Ow ne ev wl) (hF : fX E S S') (hE : ∀ s f a, E s f a → (cs_k S a = 26 ∧ ∃ r, r < nr ∧ Ow r a) ∨ cs_k S a = 1 ∨ cs_k S a = 4 ∨ cs_k S a = 6 ∨ cs_k S a = 9 ∨ cs_k S a = 12 ∨ cs_k S a = 23 ∨ cs_k S a = 25 ∨ cs_k S a = 27 ∨ (cs_k S a = 5 ∧ 405 ≤ f)) (hO : ∀ r a, r < nr → cs_k S a ≠ 0 → Ow' r a → Ow r a) : FR P0 S0 S' nr Ow' ne ev wl := by
  refine ⟨fun a ha => ?_, fun a ha => ?_⟩
  · obtain ⟨g1, g2⟩ := h.1 a ha
    obtain ⟨a1, a2, -⟩ := hF a (by omega)
    exact ⟨a1.trans g1, a2.trans g2⟩
  obtain ⟨h1, ⟨h2, h3, h4, h5⟩, h6, h7⟩ := h.2 a ha
  obtain ⟨a1, a2, a3, a4, a5, a6, a7, a8⟩ := hF a (by omega)
  have hno : ∀ s f, E s f a → cs_k S0 a = 5 ∧ 405 ≤ f := fun s f z => by
    rcases hE s f a z with ⟨hk, r, hr, ho⟩ | z
    · exact absurd ho (h6 (by omega) r hr)
    · omega
  refine ⟨h1, ⟨a1.trans h2, a2.trans h3, fun f hf => ?_, fun h9 j => ?_⟩, fun h26 r hr z => h6 h26 r hr (hO r a hr (by omega) z), h7⟩
  · have hn : ∀ s, ¬ E s f a := fun s z => by
      have := hno s f z
      have := hf this.1
      omega
    obtain ⟨b1, b2, b3⟩ := h4 f hf
    exact ⟨(a3 f (hn 0)).trans b1, (a4 f (hn 1)).trans b2, (a5 f (hn 2)).trans b3⟩
  · have hn : ∀ s, ¬ E s j a := fun s z => h9 (hno s j z).1
    obtain ⟨b1, b2, b3⟩ := h5 h9 j
    exact ⟨(a6 j (hn 3)).trans b1, (a7 j (hn 4)).trans b2, (a8 j (hn 5)).trans b3⟩
theorem FR.wl {P0 : Nat → Prop} {S0 S : cs_S} {nr ne ne' : Nat} {Ow : Nat → Nat → Prop} {ev ev' : Nat → Nat} {wl wl' : List Nat} (h : FR P0 S0 S nr Ow ne ev wl) (hw : ∀ a, P0 a → cs_k S a ≠ 0 → (∀ o, o < ne → ev o ≠ a) → ¬ a ∈ wl → (∀ o, o < ne' → ev' o ≠ a) ∧ ¬ a ∈ wl') : FR P0 S0 S nr Ow ne' ev' wl' := ⟨h.1, fun a ha => by
  obtain ⟨h1, ⟨h2, h3⟩, h6, h7, h8⟩ := h.2 a ha
  exact ⟨h1, ⟨h2, h3⟩, h6, hw a ha (by omega) h7 h8⟩⟩
/-- all of the class -/
def CW (P0 : Nat → Prop) (S0 : cs_S) (G : Nat → Nat) (S : cs_S) (σ : rf_S) (wa rr lt tl bk nr : Nat) (ra x k n w q L : Nat → Nat) (dp : Nat → Nat → Nat) (tr : (r c : Nat) → cT (dp r c)) (ud : Nat → Nat) (ut : (r : Nat) → Option (cT (ud r))) (te ne na ns ks nl now : Nat) (pr lr le tm ev : Nat → Nat) : Prop :=
  ∃ (ko : Nat → Nat → Nat) (Ow : Nat → Nat → Prop) (al : Nat → Nat) (ed : Nat) (wl : List Nat), SHR G S σ wa rr lt tl bk nr ra n te ne na ns ks now pr tm ev ko Ow al ed wl ∧ (∀ r, r < nr → CR S σ (Ow r) r (ra r) bk (x r) (k r) (n r) (w r) (q r) (L r) (dp r) (tr r) (ud r) (ut r) tm ev (ko r) nl lr le now (pr r)) ∧ (∀ r r' a, r < nr → r' < nr → Ow r a → Ow r' a → r = r') ∧ FR P0 S0 S nr Ow ne ev wl
section RDS
variable {σ σ' : rf_S} {bk nr te nv ne na ns nl now na' ns' nl' : Nat} {x n w : Nat → Nat} {pr pr' lr le tm lr' le' : Nat → Nat}
theorem RD.bnd (h : RD σ bk nr x n w te nv ne na ns nl now pr lr le tm) (hnr : nr ≤ 12) : nl ≤ 48000 ∧ na ≤ 48000 ∧ ns ≤ 48000 ∧ (∀ r, r < nr → pr r ≤ 4000) ∧ ∀ j, j < nl → lr j < nr ∧ le j < pr (lr j) := by
  obtain ⟨-, -, -, -, -, d10, d11, -⟩ := h
  have hb : ∀ r, r < nr → pr r ≤ 4000 := fun r hr => (d10.1 r hr).1
  have h1 := pr_sum hb
  have h2 := fct_le d10
  have h3 := d10.2.1.2.1
  have h4 := d10.2.2.2.1
  have h5 := d10.2.2.2.2.2
  exact ⟨by omega, by omega, by omega, hb, fun j hj => ⟨(d10.2.1.2.2 j hj).1, (d10.2.1.2.2 j hj).2.1⟩⟩
theorem RD.lk (h : RD σ bk nr x n w te nv ne na ns nl now pr lr le tm) (h' : RD σ' bk nr x n w te nv ne na' ns' nl' now pr' lr' le' tm) (hnr : nr ≤ 12) {j : Nat} (h1 : j < nl) (h2 : j < nl') (h3 : σ'.2.2.1 69 j = σ.2.2.1 69 j) (h4 : σ'.2.2.1 70 j = σ.2.2.1 70 j) : lr' j = lr j ∧ le' j = le j := by
  obtain ⟨-, -, -, b4, b5⟩ := h.bnd hnr
  obtain ⟨-, -, -, c4, c5⟩ := h'.bnd hnr
  obtain ⟨-, -, -, -, -, d10, -⟩ := h
  obtain ⟨-, -, -, -, -, e10, -⟩ := h'
  obtain ⟨a1, a2, a3, a4, -⟩ := e10.2.1.2.2 j h2
  obtain ⟨f1, f2, f3, f4, -⟩ := d10.2.1.2.2 j h1
  rw [a3, f3] at h3
  rw [a4, f4] at h4
  have := c4 (lr' j) a1
  have := b4 (lr j) f1
  exact ⟨(nI_eq (by omega) (by omega)).mp h3, (nI_eq (by omega) (by omega)).mp h4⟩
end RDS
/-- the lacks of the rule that has looked -/
theorem lcR.step {σ σ1 σ4 σ' : rf_S} {r e f0 B nl nl' lo now : Nat} {lr le lr' le' an tm w : Nat → Nat} (h : lcR σ r nl lr le an lo e) (hU : upD σ σ1 r e f0 B) (hB : B < 64) (hf0 : f0 ≤ e) (he : e < 4000) (hkf : ∀ o, o < e → hkO σ r o → kfO σ r o ≤ o ∧ σ.2.2.1 63 (4000 * r + o) = nI (kfO σ r o)) (hlo : lo ≤ e) (han : ∀ f, KfO σ r e f → an f ≤ e) (hK0 : f0 < e → KfO σ r e f0) (h4 : l71 σ1 σ4) (h71 : ∀ j, j < nl → (B.testBit 1 = true → anS σ1 r e lr le tm w j → σ4.2.2.1 71 j = 1) ∧ ((B.testBit 1 = false ∨ ¬ anS σ1 r e lr le tm w j) → σ4.2.2.1 71 j = σ.2.2.1 71 j))
    (hσ : (B.testBit 0 = true ∧ σ' = wtS σ4 r e nl ∧ nl' = nl + 1 ∧ lr' nl = r ∧ le' nl = e) ∨ (B.testBit 0 = false ∧ σ' = σ4 ∧ nl' = nl)) (hold : ∀ j, j < nl → lr' j = lr j ∧ le' j = le j) (hnow : tm e = now) (hd : ∀ j, j < nl → σ.2.2.1 71 j = 0 → now ≤ tm (le j) + w (lr j)) : lcR σ' r nl' lr' le' (if B.testBit 1 = true then prU (if f0 = e then prU an e 0 else an) f0 e else (if f0 = e then prU an e 0 else an)) lo (e + 1) := by
  obtain ⟨l1, l2, l3⟩ := h
  obtain ⟨q1, q2, q3, q4⟩ := h4
  have r63 : ∀ j, σ'.2.2.1 63 j = σ1.2.2.1 63 j ∧ σ'.2.2.1 64 j = σ1.2.2.1 64 j := fun j => by
    rcases hσ with ⟨-, z, -⟩ | ⟨-, z, -⟩
    · rw [z, (wtS_r (σ := σ4) (r := r) (e := e) (nl := nl)).1 63 (by decide) (by decide) (by decide), (wtS_r (σ := σ4) (r := r) (e := e) (nl := nl)).1 64 (by decide) (by decide) (by decide), q3 63 (by decide), q3 64 (by decide)]
      exact ⟨rfl, rfl⟩
    · rw [z, q3 63 (by decide), q3 64 (by decide)]
      exact ⟨rfl, rfl⟩
  have r71 : ∀ j, j < nl → σ'.2.2.1 71 j = σ4.2.2.1 71 j := fun j hj => by
    rcases hσ with ⟨-, z, -⟩ | ⟨-, z, -⟩
    · rw [z, (wtS_r (σ := σ4) (r := r) (e := e) (nl := nl)).2.2.2.1, if_neg (by omega)]
    · rw [z]
  have c4o : ∀ o, o < e → (c4O σ' r o ↔ c4O σ r o) := fun o ho => by
    unfold c4O hkO
    rw [(r63 _).1, (r63 _).2, hU.o63 (by omega), hU.o64 (by omega)]
  have c4e : c4O σ' r e ↔ B.testBit 0 = true := by
    unfold c4O hkO
    rw [(r63 _).1, (r63 _).2, hU.e63, hU.e64, (bt_a B hB).2.1]
    exact ⟨fun z => z.2, fun z => ⟨nI_m f0 (by omega), z⟩⟩
  have kfo : ∀ o, o < e → kfO σ' r o = kfO σ r o := fun o ho => by
    unfold kfO
    rw [(r63 _).1, hU.o63 (by omega)]
  have kfe : kfO σ' r e = f0 := by
    unfold kfO
    rw [(r63 _).1, hU.e63, nI_clamp (by omega)]
  have an0 : ∀ f, f < e → (if f0 = e then prU an e 0 else an) f = an f := fun f hf => by
    by_cases c : f0 = e
    · rw [if_pos c, prU_o (by omega)]
    · rw [if_neg c]
  have anf : (if f0 = e then prU an e 0 else an) f0 ≤ e := by
    by_cases c : f0 = e
    · rw [if_pos c, c, prU_r]; omega
    · rw [if_neg c]; exact han f0 (hK0 (by omega))
  have oldj : ∀ j, j < nl → lr j = r → (le j < e + 1 ∧ c4O σ' r (le j) ∧ (σ'.2.2.1 71 j = 0 ↔ lo ≤ le j ∧ ¬ le j < (if B.testBit 1 = true then prU (if f0 = e then prU an e 0 else an) f0 e else (if f0 = e then prU an e 0 else an)) (kfO σ' r (le j)))) := fun j hj hr => by
    obtain ⟨m1, m2, m3⟩ := l1 j hj hr
    have hk := hkf _ m1 m2.1
    have hk1 := hk.1
    refine ⟨by omega, (c4o _ m1).mpr m2, ?_⟩
    rw [r71 j hj, kfo _ m1]
    by_cases hB1 : B.testBit 1 = true
    · rw [if_pos hB1]
      by_cases hA : anS σ1 r e lr le tm w j
      · rw [(h71 j hj).1 hB1 hA]
        have e1 : kfO σ r (le j) = f0 := by
          have := hA.2.1
          rw [hU.o63 (by omega), hU.e63] at this
          unfold kfO
          rw [this, nI_clamp (by omega)]
        rw [e1, prU_r]
        exact ⟨fun z => absurd z (by decide), fun z => absurd m1 z.2⟩
      · rw [(h71 j hj).2 (Or.inr hA)]
        by_cases e1 : kfO σ r (le j) = f0
        · rw [e1, prU_r]
          refine ⟨fun z => ?_, fun z => absurd m1 z.2⟩
          exfalso
          refine hA ⟨hr, ?_, ?_⟩
          · rw [hU.o63 (by omega), hU.e63]
            rw [hk.2, e1]
          · have := hd j hj z
            omega
        · rw [prU_o e1, an0 _ (by omega)]
          exact m3
    · rw [if_neg hB1, an0 _ (by omega), (h71 j hj).2 (Or.inl (by
        cases hb : B.testBit 1 with
        | true => exact absurd hb hB1
        | false => rfl))]
      exact m3
  rcases hσ with ⟨b0, z, n1, n2, n3⟩ | ⟨b0, z, n1⟩
  · refine ⟨fun j hj hr => ?_, fun o ho hc => ?_, fun j j' j1 j2 j3 j4 => ?_⟩
    · by_cases c : j = nl
      · rw [c, n3, kfe]
        refine ⟨by omega, c4e.mpr b0, ?_⟩
        rw [z, (wtS_r (σ := σ4) (r := r) (e := e) (nl := nl)).2.2.2.1, if_pos rfl]
        refine ⟨fun _ => ⟨hlo, ?_⟩, fun _ => rfl⟩
        by_cases hB1 : B.testBit 1 = true
        · rw [if_pos hB1, prU_r]; omega
        · rw [if_neg hB1]; omega
      · have hj' : j < nl := by omega
        rw [(hold j hj').1] at hr
        rw [(hold j hj').2]
        exact oldj j hj' hr
    · by_cases c : o = e
      · exact ⟨nl, by omega, n2, by rw [n3, c]⟩
      · obtain ⟨j, m1, m2, m3⟩ := l2 o (by omega) ((c4o o (by omega)).mp hc)
        exact ⟨j, by omega, (hold j m1).1.trans m2, (hold j m1).2.trans m3⟩
    · have q1' : j < nl := by omega
      rw [(hold j q1').1] at j3
      rw [(hold j q1').2]
      by_cases c : j' = nl
      · rw [c, n3]; exact (l1 j q1' j3).1
      · have q2' : j' < nl := by omega
        rw [(hold j' q2').1] at j4
        rw [(hold j' q2').2]
        exact l3 j j' j1 q2' j3 j4
  · refine ⟨fun j hj hr => ?_, fun o ho hc => ?_, fun j j' j1 j2 j3 j4 => ?_⟩
    · have hj' : j < nl := by omega
      rw [(hold j hj').1] at hr
      rw [(hold j hj').2]
      exact oldj j hj' hr
    · by_cases c : o = e
      · rw [c, c4e, b0] at hc; cases hc
      · obtain ⟨j, m1, m2, m3⟩ := l2 o (by omega) ((c4o o (by omega)).mp hc)
        exact ⟨j, by omega, (hold j m1).1.trans m2, (hold j m1).2.trans m3⟩
    · have q1' : j < nl := by omega
      have q2' : j' < nl := by omega
      rw [(hold j q1').1] at j3
      rw [(hold j q1').2]
      rw [(hold j' q2').1] at j4
      rw [(hold j' q2').2]
      exact l3 j j' j1 q2' j3 j4
