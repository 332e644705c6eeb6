/-! ===== class and reference: one rule looks at one event ===== -/
theorem lcR.on {σ σ' : rf_S} {r nl nl' lo p p' : Nat} {lr le lr' le' an : Nat → Nat} (h : lcR σ r nl lr le an lo p) (hp : p ≤ p') (h63 : ∀ o, o < p → σ'.2.2.1 63 (4000 * r + o) = σ.2.2.1 63 (4000 * r + o) ∧ σ'.2.2.1 64 (4000 * r + o) = σ.2.2.1 64 (4000 * r + o)) (hc : ∀ o, p ≤ o → o < p' → ¬ c4O σ' r o) (hl : nl ≤ nl') (hnew : ∀ j, nl ≤ j → j < nl' → lr' j ≠ r) (hold : ∀ j, j < nl → lr' j = lr j ∧ le' j = le j ∧ (lr j = r → (σ'.2.2.1 71 j = 0 ↔ σ.2.2.1 71 j = 0))) : lcR σ' r nl' lr' le' an lo p' := by
  obtain ⟨l1, l2, l3⟩ := h
  have hc4 : ∀ o, o < p → (c4O σ' r o ↔ c4O σ r o) := fun o ho => by
    unfold c4O hkO
    rw [(h63 o ho).1, (h63 o ho).2]
  have hkf : ∀ o, o < p → kfO σ' r o = kfO σ r o := fun o ho => by
    unfold kfO
    rw [(h63 o ho).1]
  have sel : ∀ j, j < nl' → lr' j = r → j < nl := fun j z1 z2 => by
    by_cases c : j < nl
    · exact c
    · exact absurd z2 (hnew j (by omega) z1)
  refine ⟨fun j hj hr => ?_, fun o ho hc' => ?_, fun j j' z1 z2 z3 z4 => ?_⟩
  · have hjn := sel j hj hr
    obtain ⟨o1, o2, o3⟩ := hold j hjn
    rw [o1] at hr
    obtain ⟨m1, m2, m3⟩ := l1 j hjn hr
    rw [o2, hc4 _ m1, o3 hr, hkf _ m1]
    exact ⟨by omega, m2, m3⟩
  · by_cases c : o < p
    · obtain ⟨j, m1, m2, m3⟩ := l2 o c ((hc4 o c).mp hc')
      obtain ⟨o1, o2, -⟩ := hold j m1
      exact ⟨j, by omega, o1.trans m2, o2.trans m3⟩
    · exact absurd hc' (hc o (by omega) ho)
  · have q2 := sel j' z2 z4
    have q1 : j < nl := by omega
    obtain ⟨o1, o2, -⟩ := hold j q1
    obtain ⟨o3, o4, -⟩ := hold j' q2
    rw [o2, o4]
    exact l3 j j' z1 q2 (o1.symm.trans z3) (o3.symm.trans z4)
/-- only key and bits of event e in rule r may have changed -/
def pD (σ σ1 : rf_S) (r e : Nat) : Prop := eV σ σ1 ∧ σ1.1 = σ.1 ∧ ∀ k j, k ≠ 62 → ¬ ((k = 63 ∨ k = 64) ∧ j = 4000 * r + e) → σ1.2.2.1 k j = σ.2.2.1 k j
theorem upD.pd {σ σ1 : rf_S} {r e f B : Nat} (h : upD σ σ1 r e f B) : pD σ σ1 r e := ⟨h.ev, h.1, fun k j h1 h2 => by
  by_cases c3 : k = 63
  · subst c3
    rw [h.2.2.2.2.1, if_neg (fun z => h2 ⟨Or.inl rfl, z⟩)]
  · by_cases c4 : k = 64
    · subst c4
      rw [h.2.2.2.2.2, if_neg (fun z => h2 ⟨Or.inr rfl, z⟩)]
    · rw [h.2.2.2.1 k h1 c3 c4]⟩
section ASM
variable {G : Nat → Nat} {S S1 : cs_S} {σ σ1 : rf_S} {wa rr lt tl bk nr te ne na ns ks nl now ed r e wt bt : Nat} {ra x k n w q L : Nat → Nat} {dp : Nat → Nat → Nat} {tr : (r c : Nat) → cT (dp r c)} {ud : Nat → Nat} {ut : (r : Nat) → Option (cT (ud r))} {pr lr le tm ev al k1 : Nat → Nat} {ko : Nat → Nat → Nat} {Ow : Nat → Nat → Prop} {O1 : Nat → Prop} {wl : List Nat}
theorem asm (hSH : SHR G S σ wa rr lt tl bk nr ra n te ne na ns ks now pr tm ev ko Ow al ed wl) (hCR : ∀ r, r < nr → CR S σ (Ow r) r (ra r) bk (x r) (k r) (n r) (w r) (q r) (L r) (dp r) (tr r) (ud r) (ut r) tm ev (ko r) nl lr le now (pr r)) (hdis : ∀ r r' a, r < nr → r' < nr → Ow r a → Ow r' a → r = r') (hr : r < nr) (hp : pr r ≤ e) (he : e < 4000) (hpb : ∀ r, r < nr → pr r ≤ 4000) (hlk : ∀ j, j < nl → le j < pr (lr j)) (kwt : cs_k S wt = 26) (kbt : cs_k S bt = 25) (hOw : Ow r wt) (hF : fX (rE S wt bt (Ow r)) S S1) (hO : oX S (Ow r) O1) (hk1 : ∀ f, KfO σ r e f → k1 f = ko r f) (hP : pD σ σ1 r e) :
    SHR G S1 σ1 wa rr lt tl bk nr ra n te ne na ns ks now (prU pr r (e + 1)) tm ev (koU ko r k1) (OwU Ow r O1) al ed wl ∧ (∀ r', r' < nr → r' ≠ r → CR S1 σ1 (Ow r') r' (ra r') bk (x r') (k r') (n r') (w r') (q r') (L r') (dp r') (tr r') (ud r') (ut r') tm ev (ko r') nl lr le now (pr r')) ∧ (∀ r1 r2 a, r1 < nr → r2 < nr → OwU Ow r O1 r1 a → OwU Ow r O1 r2 a → r1 = r2) := by
  obtain ⟨hE, hi, hrow⟩ := hP
  have hlive : ∀ r a, r < nr → Ow r a → cs_k S a ≠ 0 := fun r' a hr' z => by
    obtain ⟨-, -, _, _, _, _, _, _, _, _, _, hJ, -⟩ := hCR r' hr'
    exact hJ.1 a z
  have hs := rE.sh (wt := wt) (Ow := Ow r) kbt
  refine ⟨?_, fun r' hr' hne => ?_, fun r1 r2 a h1 h2 z1 z2 => ?_⟩
  · have h1 := hSH.on (σ' := σ1) (pr' := prU pr r (e + 1)) (ko' := koU ko r k1) (Ow' := OwU Ow r O1) hE (by rw [hi]) (by rw [hi]) (by rw [hi]) (fun r' hr' => ?_) (fun r' o hr' ho => hrow 63 _ (by decide) (fun z => ?_)) (fun kk j h1 h2 _ => hrow kk j (by omega) (fun z => by omega)) (fun j _ => ⟨hrow 81 j (by decide) (fun z => by omega), hrow 82 j (by decide) (fun z => by omega)⟩) (fun r' a hr' ha z => ?_) (fun r' f hr' hf => ?_)
    · refine h1.fx hs kwt hF (fun s f a z => ?_) (fun vs hv e => hv r hr (by rw [OwU_r, e]; exact hO.1 _ hOw))
      rcases z.2 with y | y | y | y | y | y
      · exact Or.inr (Or.inr (Or.inr (Or.inr (Or.inl y))))
      · exact Or.inr (Or.inr (Or.inr (Or.inl (by rw [y]; exact kbt))))
      · exact Or.inr (Or.inr (Or.inl y.1))
      · exact Or.inr (Or.inl y.1)
      · exact Or.inl y.1
      · exact Or.inr (Or.inr (Or.inr (Or.inr (Or.inr ⟨y, fun w => hSH.2.2.2.2.2.1 r hr (by rw [← w]; exact z.1)⟩))))
    · by_cases c : r' = r
      · rw [c, prU_r]; omega
      · rw [prU_o c]; exact Nat.le_refl _
    · have := hpb r' hr'
      have hz := z.2
      by_cases c : r' = r
      · rw [c] at ho; omega
      · omega
    · rcases z with ⟨y1, y2⟩ | ⟨-, y2⟩
      · rw [y1]; exact hO.2 a ha y2
      · exact y2
    · by_cases c : r' = r
      · subst c
        rw [koU_r]
        exact hk1 f ⟨by have := hf.1; omega, hf.2⟩
      · rw [koU_o c]
  · have hb := hpb r' hr'
    refine ((hCR r' hr').fx hs kwt hF (fun s f a z ho => absurd (hdis r r' a hr hr' z.1 ho) (Ne.symm hne)) (fun z => hne (hdis r r' wt hr hr' hOw z).symm)).on hE (fun o ho => ⟨hrow 63 _ (by decide) (fun z => by omega), hrow 64 _ (by decide) (fun z => by omega)⟩) (fun f hf => ⟨hrow 65 _ (by decide) (fun z => by omega), hrow 66 _ (by decide) (fun z => by omega)⟩) (hrow 67 _ (by decide) (fun z => by omega)) hb (Nat.le_refl _) (fun j z1 z2 => absurd z1 (by omega)) (fun j hj => ⟨rfl, rfl, fun _ => by rw [hrow 71 j (by decide) (fun z => by omega)]⟩) (fun j hj hjr => by have := hlk j hj; rw [hjr] at this; exact this)
  · rcases z1 with ⟨y1, y2⟩ | ⟨y1, y2⟩
    · rcases z2 with ⟨w1, w2⟩ | ⟨w1, w2⟩
      · rw [y1, w1]
      · rw [y1]
        exact hdis r r2 a hr h2 (hO.2 a (hlive r2 a h2 w2) y2) w2
    · rcases z2 with ⟨w1, w2⟩ | ⟨w1, w2⟩
      · rw [w1]
        exact hdis r1 r a h1 hr y2 (hO.2 a (hlive r1 a h1 y2) w2)
      · exact hdis r1 r2 a h1 h2 y2 w2
end ASM
