/-! ===== the reference alone: what a look leaves ===== -/
theorem eV.kh {σ σ1 : rf_S} (h : eV σ σ1) {b n x : Nat} : kH σ1 b n x ↔ kH σ b n x := by
  unfold kH
  rw [h.2]
  constructor
  · intro g k hk; obtain ⟨i, e⟩ := g k hk; rw [h.fo] at e; exact ⟨i, e⟩
  · intro g k hk; obtain ⟨i, e⟩ := g k hk; rw [← h.fo] at e; exact ⟨i, e⟩
theorem eV.km {σ σ1 : rf_S} (h : eV σ σ1) {b n x y : Nat} : kM σ1 b n x y ↔ kM σ b n x y := by
  unfold kM
  rw [h.2, h.1 17 (by decide)]
  constructor
  · intro g k hk; obtain ⟨i, j, e1, e2, e3⟩ := g k hk; rw [h.fo] at e1 e2; exact ⟨i, j, e1, e2, e3⟩
  · intro g k hk; obtain ⟨i, j, e1, e2, e3⟩ := g k hk; rw [← h.fo] at e1 e2; exact ⟨i, j, e1, e2, e3⟩
theorem kM.sy {σ : rf_S} {b n x y : Nat} (h : kM σ b n x y) : kM σ b n y x := fun k hk => by
  obtain ⟨i, j, e1, e2, e3⟩ := h k hk
  exact ⟨j, i, e2, e1, e3.symm⟩
theorem kM.rf {σ : rf_S} {b n x : Nat} (h : kH σ b n x) : kM σ b n x x := fun k hk => by
  obtain ⟨i, e⟩ := h k hk
  exact ⟨i, i, e, e, rfl⟩
theorem kI.on {σ σ1 : rf_S} (h : eV σ σ1) {r b n : Nat} (g : kI σ r b n 4000) (h63 : ∀ o, o < 4000 → σ1.2.2.1 63 (4000 * r + o) = σ.2.2.1 63 (4000 * r + o)) : kI σ1 r b n 4000 := by
  refine ⟨fun o ho => ?_, fun f g' hf hg e1 e2 hm => ?_⟩
  · rw [h63 o ho]
    rcases g.1 o ho with z | ⟨f, a1, a2, a3, a4, a5⟩
    · exact Or.inl z
    · exact Or.inr ⟨f, a1, a2, by rw [h63 f (by omega)]; exact a3, h.kh.mpr a4, h.km.mpr a5⟩
  · rw [h63 f hf] at e1
    rw [h63 g' hg] at e2
    exact g.2 f g' hf hg e1 e2 (h.km.mp hm)
theorem jDr.on {σ σ1 : rf_S} (h : eV σ σ1) {r b n nl nl' p : Nat} (g : jDr σ r b n nl p) (hrow : ∀ k, k = 63 ∨ k = 64 ∨ k = 65 ∨ k = 66 → ∀ o, o < 4000 → σ1.2.2.1 k (4000 * r + o) = σ.2.2.1 k (4000 * r + o)) (h67 : σ1.2.2.1 67 r = σ.2.2.1 67 r) (hw : wct σ1 r nl' ≤ wct σ r nl) : jDr σ1 r b n nl' p := by
  obtain ⟨a1, a2, a3, a4, F, a5, a6, a7⟩ := g
  refine ⟨a1, a2.on h (hrow 63 (by omega)), fun o x y => by rw [hrow 63 (by omega) o y]; exact a3 o x y, fun o y z => ?_, F, by rw [h67]; exact a5, by omega, fun f hf => ?_⟩
  · rw [hrow 63 (by omega) o y] at z
    rw [hrow 64 (by omega) o y]; exact a4 o y z
  · rw [hrow 65 (by omega) f hf, hrow 66 (by omega) f hf]; exact a7 f hf
def prU (pr : Nat → Nat) (r v : Nat) : Nat → Nat := fun x => if x = r then v else pr x
theorem prU_r {pr : Nat → Nat} {r v : Nat} : prU pr r v r = v := if_pos rfl
theorem prU_o {pr : Nat → Nat} {r v x : Nat} (h : x ≠ r) : prU pr r v x = pr x := if_neg h
theorem pr_inc {pr : Nat → Nat} {nr r e : Nat} (hr : r < nr) (hp : pr r = e) : sS (fun _ => True) (fun x => ((prU pr r (e + 1) x : Nat) : Int)) 0 nr = sS (fun _ => True) (fun x => (pr x : Int)) 0 nr + 1 :=
  sS_inc hr (fun x hx => by show ((prU pr r (e + 1) x : Nat) : Int) = _; rw [prU_o hx]) (by show ((prU pr r (e + 1) r : Nat) : Int) = _; rw [prU_r, hp]; omega)
section STP
variable {σ : rf_S} {nr bk nl na ns r e : Nat} {bn pr lr le : Nat → Nat}
/-- a rule that still has one event less than it has looked at in its books -/
def slk (σ : rf_S) (r e nl : Nat) : Prop := ∃ F, σ.2.2.1 67 r = nI F ∧ (F : Int) + wct σ r nl ≤ e
/-- key and bits of an event -/
theorem jD.key {σ2 : rf_S} {f B : Nat} (h : jD σ nr bk nl na ns bn pr lr le) (hr : r < nr) (hp : pr r = e) (he : e < 4000) (hkh : kH σ (12 * bk + r) (bn r) e) (hfk : (f < e ∧ σ.2.2.1 63 (4000 * r + f) = nI f ∧ kM σ (12 * bk + r) (bn r) f e) ∨ (f = e ∧ ∀ g, g < e → σ.2.2.1 63 (4000 * r + g) = nI g → ¬ kM σ (12 * bk + r) (bn r) g e)) (hl : l62 (rf_ua σ 63 (4000 * r + e) (nI f)) σ2) (hB : B < 64) :
    jD (rf_ua σ2 64 (4000 * r + e) (nI B)) nr bk nl na ns bn (prU pr r (e + 1)) lr le ∧ slk (rf_ua σ2 64 (4000 * r + e) (nI B)) r e nl := by
  obtain ⟨h1, ⟨l1, l2, l3⟩, h78, hna, h83, hns⟩ := h
  have hE : eV σ (rf_ua σ2 64 (4000 * r + e) (nI B)) := (((gE.rfl.ua (by omega)).trans hl.ge).ua (by omega)).ev
  have hi1 : (rf_ua σ2 64 (4000 * r + e) (nI B)).1 = σ.1 := by show σ2.1 = σ.1; rw [hl.1]; rfl
  have hrow : ∀ k, k ≠ 62 → k ≠ 63 → k ≠ 64 → (rf_ua σ2 64 (4000 * r + e) (nI B)).2.2.1 k = σ.2.2.1 k := fun k a b c => funext fun j => by rw [r3ua, if_neg (fun z => c z.1), hl.2.2.1 k a, r3ua, if_neg (fun z => b z.1)]
  have h63 : ∀ j, (rf_ua σ2 64 (4000 * r + e) (nI B)).2.2.1 63 j = if j = 4000 * r + e then nI f else σ.2.2.1 63 j := fun j => by
    rw [r3ua, if_neg (fun z => absurd z.1 (by decide)), hl.2.2.1 63 (by decide), r3ua]
    by_cases c : j = 4000 * r + e
    · rw [if_pos ⟨rfl, c⟩, if_pos c]
    · rw [if_neg (fun z => c z.2), if_neg c]
  have h64 : ∀ j, (rf_ua σ2 64 (4000 * r + e) (nI B)).2.2.1 64 j = if j = 4000 * r + e then nI B else σ.2.2.1 64 j := fun j => by
    rw [r3ua]
    by_cases c : j = 4000 * r + e
    · rw [if_pos ⟨rfl, c⟩, if_pos c]
    · rw [if_neg (fun z => c z.2), if_neg c, hl.2.2.1 64 (by decide), r3ua, if_neg (fun z => absurd z.1 (by decide))]
  have hwct : ∀ r', wct (rf_ua σ2 64 (4000 * r + e) (nI B)) r' nl = wct σ r' nl := fun r' => by
    unfold wct
    rw [hrow 69 (by decide) (by decide) (by decide), hrow 71 (by decide) (by decide) (by decide)]
  have hfct : fct (rf_ua σ2 64 (4000 * r + e) (nI B)) nr = fct σ nr := by
    unfold fct
    rw [hrow 67 (by decide) (by decide) (by decide)]
  generalize hσ3 : rf_ua σ2 64 (4000 * r + e) (nI B) = σ3 at hE hi1 hrow h63 h64 hwct hfct
  obtain ⟨a1, a2, a3, a4, F, a5, a6, a7⟩ := h1 r hr
  have hunset : σ.2.2.1 63 (4000 * r + e) = -1 := a3 e (by omega) he
  have hfe : f ≤ e := by rcases hfk with z | z <;> omega
  have n1 : ∀ x : Nat, x < 2 ^ 31 → ¬ nI x = -1 := fun x hx z => by
    have h0 := nI_pos' hx
    rw [z] at h0
    exact absurd h0 (by decide)
  refine ⟨⟨fun r' hr' => ?_, ⟨by rw [hi1]; exact l1, ?_, fun j hj => ?_⟩, by rw [hi1]; exact h78, by rw [hfct]; exact hna, by rw [hi1]; exact h83, by rw [hfct]; exact hns⟩, F, by rw [hrow 67 (by decide) (by decide) (by decide)]; exact a5, by rw [hwct, hp] at *; exact a6⟩
  · by_cases er : r' = r
    · subst er
      rw [prU_r]
      have hK : kI σ3 r' (12 * bk + r') (bn r') 4000 := by
        refine ⟨fun o ho => ?_, fun f1 g1 hf1 hg1 e1 e2 hm => ?_⟩
        · rw [h63]
          by_cases eo : o = e
          · rw [if_pos (by rw [eo])]
            refine Or.inr ⟨f, by omega, rfl, ?_, by rw [eo]; exact hE.kh.mpr hkh, ?_⟩
            · rw [h63]
              rcases hfk with z | z
              · rw [if_neg (by omega)]; exact z.2.1
              · rw [if_pos (by omega)]
            · rw [eo]
              rcases hfk with z | z
              · exact hE.km.mpr z.2.2
              · rw [z.1]; exact hE.km.mpr (kM.rf hkh)
          · rw [if_neg (by omega)]
            rcases a2.1 o ho with z | ⟨f', b1, b2, b3, b4, b5⟩
            · exact Or.inl z
            · refine Or.inr ⟨f', b1, b2, ?_, hE.kh.mpr b4, hE.km.mpr b5⟩
              rw [h63, if_neg ?_]
              · exact b3
              · intro z
                have : f' = e := by omega
                rw [this, hunset] at b3
                exact n1 e (by omega) b3.symm
        · rw [h63] at e1 e2
          have hm' := hE.km.mp hm
          by_cases c1 : f1 = e
          · by_cases c2 : g1 = e
            · omega
            · rw [if_neg (by omega)] at e2
              rw [if_pos (by omega)] at e1
              have hff : f = e := by rw [c1] at e1; exact (nI_eq (by omega) (by omega)).mp e1
              have hg : g1 < e := by
                by_cases c : g1 < e
                · exact c
                · exact absurd (a3 g1 (by omega) hg1) (by rw [e2]; exact n1 g1 (by omega))
              rcases hfk with z | z
              · omega
              · rw [c1] at hm'
                exact absurd hm'.sy (z.2 g1 hg e2)
          · rw [if_neg (by omega)] at e1
            by_cases c2 : g1 = e
            · rw [if_pos (by omega)] at e2
              have hff : f = e := by rw [c2] at e2; exact (nI_eq (by omega) (by omega)).mp e2
              have hg : f1 < e := by
                by_cases c : f1 < e
                · exact c
                · exact absurd (a3 f1 (by omega) hf1) (by rw [e1]; exact n1 f1 (by omega))
              rcases hfk with z | z
              · omega
              · rw [c2] at hm'
                exact absurd hm' (z.2 f1 hg e1)
            · rw [if_neg (by omega)] at e2
              exact a2.2 f1 g1 hf1 hg1 e1 e2 hm'
      refine ⟨by omega, hK, fun o x y => ?_, fun o y z => ?_, F, by rw [hrow 67 (by decide) (by decide) (by decide)]; exact a5, by rw [hwct]; omega, fun f' hf' => ?_⟩
      · rw [h63, if_neg (by omega)]; exact a3 o (by omega) y
      · rw [h64]
        by_cases eo : o = e
        · rw [if_pos (by omega)]; exact ⟨B, hB, rfl⟩
        · rw [if_neg (by omega)]
          rw [h63, if_neg (by omega)] at z
          exact a4 o y z
      · rw [hrow 65 (by decide) (by decide) (by decide), hrow 66 (by decide) (by decide) (by decide)]; exact a7 f' hf'
    · rw [prU_o er]
      refine (h1 r' hr').on hE (fun k hk o ho => ?_) (by rw [hrow 67 (by decide) (by decide) (by decide)]) (by rw [hwct]; exact Int.le_refl _)
      have hne : 4000 * r' + o ≠ 4000 * r + e := by omega
      rcases hk with rfl | rfl | rfl | rfl
      · rw [h63, if_neg hne]
      · rw [h64, if_neg hne]
      · rw [hrow 65 (by decide) (by decide) (by decide)]
      · rw [hrow 66 (by decide) (by decide) (by decide)]
  · have := pr_inc (pr := pr) hr hp
    omega
  · obtain ⟨b1, b2, b3, b4, b5, f', b6, b7⟩ := l3 j hj
    have hlp : le j < prU pr r (e + 1) (lr j) := by
      by_cases c : lr j = r
      · rw [c, prU_r]; rw [c, hp] at b2; omega
      · rw [prU_o c]; exact b2
    refine ⟨b1, hlp, by rw [hrow 69 (by decide) (by decide) (by decide)]; exact b3, by rw [hrow 70 (by decide) (by decide) (by decide)]; exact b4, by rw [hrow 71 (by decide) (by decide) (by decide)]; exact b5, f', b6, ?_⟩
    have hle4 : le j < 4000 := by have := (h1 (lr j) b1).1; omega
    rw [h63, if_neg ?_]
    · exact b7
    · intro z
      by_cases c : lr j = r
      · rw [c, hp] at b2; rw [c] at z; omega
      · omega
end STP
