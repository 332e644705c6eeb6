/-! ===== numbering a value ===== -/
theorem least_of {P : Nat → Prop} (h : ∃ d, P d) : ∃ d, P d ∧ ∀ d', d' < d → ¬ P d' := by
  apply Classical.byContradiction
  intro hn
  have key : ∀ n, ∀ d, d < n → ¬ P d := by
    intro n
    induction n with
    | zero => intro d hd; omega
    | succ n ih =>
      intro d hd hp
      exact hn ⟨d, hp, fun d' hd' => ih d' (by omega)⟩
  obtain ⟨d, hd⟩ := h
  exact key (d + 1) d (by omega) hd
section NUM2
variable {σ : rf_S} {te nv f : Nat}
theorem rnu_h {Q : rf_S → Prop} (hf : vW σ te f) (hte : te ≤ 24000) (h : ∃ n9, w_X12_numbered_77 Q n9 σ (nI f) (nI (sV (vC σ f)))) : wp_X12_numbered Q σ (nI f) := by
  have hf1 := hf.1
  have hf31 : f < 2 ^ 31 := by omega
  have hi : ∀ k, k = 14 ∨ k = 15 ∨ k = 16 → vp_in (nI f) (rf_n k) := fun k hk => by rcases hk with rfl | rfl | rfl <;> exact nI_in (N := 32008) hf.1 (by decide)
  have h67 : ∀ x, x = hV (vC σ f) → w_X12_numbered_67 Q σ (nI f) x := by
    intro x hx
    show ∃ n9, w_X12_numbered_77 Q n9 σ (nI f) _
    rw [hx, (sV_lt (vC σ f)).2]
    exact h
  refine ⟨hi 14 (Or.inl rfl), hi 15 (Or.inr (Or.inl rfl)), hi 14 (Or.inl rfl), ?_⟩
  rw [nI_clamp hf31]
  refine ⟨fun hc => h67 _ ?_, fun hc => ?_⟩
  · rw [hV, if_neg (by exact hc)]
    rfl
  · rcases hf.2 with ⟨-, L, o, a1, a2, a3, a4⟩ | a | a
    · refine ⟨L + 1, ?_⟩
      have key : ∀ r k, k + r = L → w_X12_numbered_32 Q (r + 1) σ (nI f) (vh ((σ.2.2.1 14 f * 40503) + (σ.2.2.1 15 f * 31)) (vC σ f).2.2 k) (nI k) := by
        intro r
        induction r with
        | zero =>
          intro k hk
          refine ⟨hi 15 (Or.inr (Or.inl rfl)), fun _ => h67 _ ?_, fun hq => ?_⟩
          · rw [hV, if_pos (by exact hc)]
            show vh _ _ k = vh ((σ.2.2.1 14 f * 40503) + (σ.2.2.1 15 f * 31)) (vC σ f).2.2 (σ.2.2.1 15 f).toNatClampNeg
            rw [a1, nI_clamp (by omega), show k = L from by omega]
          · rw [nI_clamp hf31, a1] at hq
            exact absurd (nI_le (by omega) (by omega)) hq
        | succ r ih =>
          intro k hk
          refine ⟨hi 15 (Or.inr (Or.inl rfl)), fun hq => ?_, fun _ => ⟨hi 16 (Or.inr (Or.inr rfl)), ?_, ?_⟩⟩
          · rw [nI_clamp hf31, a1] at hq
            exact absurd hq (nI_ge (by omega) (by omega))
          · rw [nI_clamp hf31, a3, nI_add]
            exact nI_in (N := 24000) (by omega) (by decide)
          · rw [nI_clamp hf31, a3, nI_add, nI_clamp (by omega), nI_1]
            have := ih (k + 1) (by omega)
            rw [vh] at this
            have e : (vC σ f).2.2 k = σ.2.2.1 18 (o + k) := by
              show (if σ.2.2.1 14 f = 1 ∧ k < (σ.2.2.1 15 f).toNatClampNeg then σ.2.2.1 18 ((σ.2.2.1 16 f).toNatClampNeg + k) else 0) = _
              rw [a1, a3, nI_clamp (by omega), nI_clamp (by omega), if_pos ⟨hc, by omega⟩]
            rw [e] at this
            exact this
      exact key L 0 (by omega)
    · rw [hc] at a; exact absurd a (by decide)
    · rw [hc] at a; exact absurd a (by decide)
theorem rnu (h : nT σ te nv) (hnv : nv < 32000) (hf : vW σ te f) (hte : te ≤ 24000) : ∃ σ' w nv', (∀ Q : rf_S → Prop, Q σ' → wp_X12_numbered Q σ (nI f)) ∧ nT σ' te nv' ∧ nv ≤ nv' ∧ nv' ≤ nv + 1 ∧ nF f nv σ σ' ∧ w < nv' ∧ σ'.2.2.1 17 f = nI w ∧ vC σ' (fF σ' w) = vC σ' f ∧ ∀ v, v < nv' → fF σ' v = f ∨ (v < nv ∧ fF σ' v = fF σ v) := by
  have hf1 := hf.1
  have hf31 : f < 2 ^ 31 := by omega
  have i17 : vp_in (nI f) (rf_n 17) := nI_in (N := 32008) hf.1 (by decide)
  have hlt : ∀ d, (sV (vC σ f) + d) % 65536 < 65536 := fun d => Nat.mod_lt _ (by decide)
  have hin : ∀ d, vp_in (nI ((sV (vC σ f) + d) % 65536)) (rf_n 25) := fun d => nI_in (N := 65536) (hlt d) (by decide)
  have hcl : ∀ d, (nI ((sV (vC σ f) + d) % 65536)).toNatClampNeg = (sV (vC σ f) + d) % 65536 := fun d => nI_clamp (by have := hlt d; omega)
  have h0 : (sV (vC σ f) + 0) % 65536 = sV (vC σ f) := by have := (sV_lt (vC σ f)).1; omega
  obtain ⟨t1, t2, t3, t4, t5, t6, t7⟩ := id h
  obtain ⟨D, hD, hDmin⟩ := least_of (P := fun d => σ.2.2.1 25 ((sV (vC σ f) + d) % 65536) = 0) (by obtain ⟨d, -, hd⟩ := h.free (sV (vC σ f)); exact ⟨d, hd⟩)
  by_cases hx : ∃ v, v < nv ∧ vC σ (fF σ v) = vC σ f
  · obtain ⟨v, hv, ev⟩ := hx
    obtain ⟨d, hd1, hd2, hd3⟩ := t5 v hv
    rw [ev] at hd2 hd3
    have hnF : nF f nv σ (rf_ua σ 17 f (nI v)) := ⟨fun _ _ => rfl, rfl, fun k j h1 h2 h3 => by rw [r3ua, if_neg (fun q => h2 q.1 q.2)], rfl⟩
    have e24 : ∀ x, fF (rf_ua σ 17 f (nI v)) x = fF σ x := fun x => by
      show ((rf_ua σ 17 f (nI v)).2.2.1 24 x).toNatClampNeg = _
      rw [r3ua, if_neg (fun q => absurd q.1 (by decide))]; rfl
    have e25 : ∀ x, (rf_ua σ 17 f (nI v)).2.2.1 25 x = σ.2.2.1 25 x := fun x => by rw [r3ua, if_neg (fun q => absurd q.1 (by decide))]
    refine ⟨rf_ua σ 17 f (nI v), v, nv, fun Q hQ => rnu_h hf hte ⟨D + 1, ?_⟩, ⟨t1, t2, fun s hs => by rw [e25]; exact t3 s hs, fun x hx => ?_, fun x hx => ?_, fun s s' a b => by rw [e25, e25]; exact t6 s s' a b, fun x x' a b c => ?_⟩, Nat.le_refl _, by omega, hnF, hv, by rw [r3ua, if_pos ⟨rfl, rfl⟩], by rw [e24, hnF.vc, hnF.vc]; exact ev, fun x hx => Or.inr ⟨hx, e24 x⟩⟩
    · have := rnu_77 (post := Q) h hf hte hD (fun d' g1 g2 g3 => ?_) D 0 (by omega) (fun d' hd' => absurd hd' (by omega)) (fun d' v hd' => absurd hd' (by omega))
      · rw [h0] at this; exact this
      · have hmatch : σ.2.2.1 25 ((sV (vC σ f) + d') % 65536) = nI (v + 1) := by
          rcases g3 with g3 | ⟨v', hv', e1, e2⟩
          · exfalso
            by_cases c1 : d < d'
            · exact g2 d v c1 hv hd2 ev
            · by_cases c2 : d' < d
              · exact hd3 d' c2 g3
              · have : d' = d := by omega
                rw [this, hd2] at g3
                exact nI_ne0 (by omega) (by omega) g3
          · rw [t7 v v' hv hv' (ev.trans e2.symm)]; exact e1
        refine ⟨hin d', fun _ => ⟨hin d', i17, ?_⟩, fun hc => ?_⟩
        · rw [hcl, hmatch, nI_pred, nI_clamp hf31]; exact hQ
        · rw [hcl, hmatch] at hc
          exact absurd hc (nI_ne0 (by omega) (by omega))
    · rw [e24]
      refine ⟨by rw [r3ua, if_neg (fun q => absurd q.1 (by decide))]; exact (t4 x hx).1, hnF.vw.mpr (t4 x hx).2⟩
    · rw [e24, hnF.vc]
      obtain ⟨d, a, b, c⟩ := t5 x hx
      exact ⟨d, a, by rw [e25]; exact b, fun d' hd' => by rw [e25]; exact c d' hd'⟩
    · rw [e24, e24, hnF.vc, hnF.vc] at c; exact t7 x x' a b c
  · -- a new one
    have hs0 := hlt D
    generalize hsd : (sV (vC σ f) + D) % 65536 = s0 at hs0
    have hz0 : σ.2.2.1 25 s0 = 0 := by rw [← hsd]; exact hD
    have hnF : nF f nv σ (rf_ua (rf_ua (rf_ui (rf_ua σ 24 nv (nI f)) 26 (nI (nv + 1))) 25 s0 (nI (nv + 1))) 17 f (nI nv)) := by
      refine ⟨fun k hk => by rw [r1ua, r1ua, r1ui, if_neg hk, r1ua], rfl, fun k j h1 h2 h3 => ?_, rfl⟩
      rw [r3ua, if_neg (fun q => h2 q.1 q.2), r3ua, if_neg (fun q => h1 q.1), r3ui, r3ua, if_neg (fun q => by have := h3 q.1; omega)]
    have e24 : ∀ x, (rf_ua (rf_ua (rf_ui (rf_ua σ 24 nv (nI f)) 26 (nI (nv + 1))) 25 s0 (nI (nv + 1))) 17 f (nI nv)).2.2.1 24 x = if x = nv then nI f else σ.2.2.1 24 x := fun x => by
      rw [r3ua, if_neg (fun q => absurd q.1 (by decide)), r3ua, if_neg (fun q => absurd q.1 (by decide)), r3ui, r3ua]
      by_cases c : x = nv
      · rw [if_pos ⟨rfl, c⟩, if_pos c]
      · rw [if_neg (fun q => c q.2), if_neg c]
    have e25 : ∀ x, (rf_ua (rf_ua (rf_ui (rf_ua σ 24 nv (nI f)) 26 (nI (nv + 1))) 25 s0 (nI (nv + 1))) 17 f (nI nv)).2.2.1 25 x = if x = s0 then nI (nv + 1) else σ.2.2.1 25 x := fun x => by
      rw [r3ua, if_neg (fun q => absurd q.1 (by decide)), r3ua]
      by_cases c : x = s0
      · rw [if_pos ⟨rfl, c⟩, if_pos c]
      · rw [if_neg (fun q => c q.2), if_neg c, r3ui, r3ua, if_neg (fun q => absurd q.1 (by decide))]
    have eF : ∀ x, x < nv → fF (rf_ua (rf_ua (rf_ui (rf_ua σ 24 nv (nI f)) 26 (nI (nv + 1))) 25 s0 (nI (nv + 1))) 17 f (nI nv)) x = fF σ x := fun x hx => by
      rw [fF, e24, if_neg (by omega)]; rfl
    have eFn : fF (rf_ua (rf_ua (rf_ui (rf_ua σ 24 nv (nI f)) 26 (nI (nv + 1))) 25 s0 (nI (nv + 1))) 17 f (nI nv)) nv = f := by
      rw [fF, e24, if_pos rfl, nI_clamp hf31]
    have hnz : ∀ x, σ.2.2.1 25 x ≠ 0 → (rf_ua (rf_ua (rf_ui (rf_ua σ 24 nv (nI f)) 26 (nI (nv + 1))) 25 s0 (nI (nv + 1))) 17 f (nI nv)).2.2.1 25 x ≠ 0 := fun x hx => by
      rw [e25]
      by_cases c : x = s0
      · rw [if_pos c]; exact nI_ne0 (by omega) (by omega)
      · rw [if_neg c]; exact hx
    refine ⟨rf_ua (rf_ua (rf_ui (rf_ua σ 24 nv (nI f)) 26 (nI (nv + 1))) 25 s0 (nI (nv + 1))) 17 f (nI nv), nv, nv + 1, fun Q hQ => rnu_h hf hte ⟨D + 1, ?_⟩, ⟨by rw [r1ua, r1ua, r1ui, if_pos rfl], by omega, fun s hs => ?_, fun x hx => ?_, fun x hx => ?_, fun s s' a b c d => ?_, fun x x' a b c => ?_⟩, by omega, Nat.le_refl _, hnF, by omega, by rw [r3ua, if_pos ⟨rfl, rfl⟩], by rw [eFn], fun x hx => ?_⟩
    · have := rnu_77 (post := Q) h hf hte hD (fun d' g1 g2 g3 => ?_) D 0 (by omega) (fun d' hd' => absurd hd' (by omega)) (fun d' v hd' => absurd hd' (by omega))
      · rw [h0] at this; exact this
      · have hzero : σ.2.2.1 25 ((sV (vC σ f) + d') % 65536) = 0 := by
          rcases g3 with g3 | ⟨v', hv', e1, e2⟩
          · exact g3
          · exact absurd ⟨v', hv', e2⟩ hx
        have hdD : d' = D := by
          by_cases c1 : D < d'
          · exact absurd hD (g1 D c1)
          · by_cases c2 : d' < D
            · exact absurd hzero (hDmin d' c2)
            · omega
        refine ⟨hin d', fun hc => ?_, fun _ => ⟨by rw [t1]; exact nI_in (N := 32000) hnv (by decide), hin d', hin d', i17, ?_⟩⟩
        · rw [hcl] at hc; exact absurd hzero hc
        · rw [hcl, t1, nI_clamp (by omega), nI_1, hdD, hsd, nI_clamp hf31, r3ua, if_pos ⟨rfl, rfl⟩, nI_pred]
          exact hQ
    · rw [e25]
      by_cases c : s = s0
      · rw [if_pos c]; exact ⟨nv + 1, Nat.le_refl _, rfl⟩
      · rw [if_neg c]
        obtain ⟨v, h1, h2⟩ := t3 s hs
        exact ⟨v, by omega, h2⟩
    · by_cases c : x = nv
      · rw [c, eFn, e24, if_pos rfl]
        exact ⟨rfl, hnF.vw.mpr hf⟩
      · rw [eF x (by omega), e24, if_neg c]
        exact ⟨(t4 x (by omega)).1, hnF.vw.mpr (t4 x (by omega)).2⟩
    · by_cases c : x = nv
      · rw [c, eFn, hnF.vc]
        obtain ⟨D2, hD2a, hD2b⟩ := h.free (sV (vC σ f))
        have hDlt : D < 65536 := by
          by_cases q : D ≤ D2
          · omega
          · exact absurd hD2b (hDmin D2 (by omega))
        exact ⟨D, hDlt, by rw [hsd, e25, if_pos rfl], fun d' hd' => hnz _ (hDmin d' hd')⟩
      · rw [eF x (by omega), hnF.vc]
        obtain ⟨d, a, b, g⟩ := t5 x (by omega)
        refine ⟨d, a, ?_, fun d' hd' => hnz _ (g d' hd')⟩
        rw [e25, if_neg]
        · exact b
        · intro q
          rw [q, hz0] at b
          exact nI_ne0 (by omega) (by omega) b.symm
    · rw [e25, e25] at c
      rw [e25] at d
      have big : ∀ y, y < 65536 → σ.2.2.1 25 y ≠ nI (nv + 1) := fun y hy q => by
        obtain ⟨v, h1, h2⟩ := t3 y hy
        rw [h2] at q
        have := (nI_eq (by omega) (by omega)).mp q
        omega
      by_cases c1 : s = s0
      · by_cases c2 : s' = s0
        · omega
        · rw [if_pos c1, if_neg c2] at c
          exact absurd c.symm (big s' b)
      · by_cases c2 : s' = s0
        · rw [if_neg c1, if_pos c2] at c
          exact absurd c (big s a)
        · rw [if_neg c1, if_neg c2] at c
          rw [if_neg c1] at d
          exact t6 s s' a b c d
    · rw [hnF.vc, hnF.vc] at c
      by_cases c1 : x = nv
      · by_cases c2 : x' = nv
        · omega
        · rw [c1, eFn, eF x' (by omega)] at c
          exact absurd ⟨x', by omega, c.symm⟩ hx
      · by_cases c2 : x' = nv
        · rw [c2, eFn, eF x (by omega)] at c
          exact absurd ⟨x, by omega, c⟩ hx
        · rw [eF x (by omega), eF x' (by omega)] at c
          exact t7 x x' (by omega) (by omega) c
    · by_cases c : x = nv
      · exact Or.inl (by rw [c]; exact eFn)
      · exact Or.inr ⟨by omega, eF x (by omega)⟩
end NUM2
