/-! ===== what rules share, with one event more ===== -/
theorem stL_c2 {σ σ' : rf_S} : ∀ d k, (∀ j, k ≤ j → j < k + d → σ'.2.2.1 81 j = σ.2.2.1 81 j ∧ σ'.2.2.1 82 j = σ.2.2.1 82 j ∧ σ'.2.2.1 10 (σ.2.2.1 82 j).toNatClampNeg = σ.2.2.1 10 (σ.2.2.1 82 j).toNatClampNeg) → stL σ' k d = stL σ k d := by
  intro d
  induction d with
  | zero => intro k _; rfl
  | succ d ih =>
    intro k h
    obtain ⟨h1, h2, h3⟩ := h k (Nat.le_refl _) (by omega)
    rw [stL, stL, h1, h2, h3, ih (k + 1) (fun j z1 z2 => h j (by omega) (by omega))]
theorem stL_mem {σ : rf_S} {ne : Nat} : ∀ d k, (∀ j, k ≤ j → j < k + d → (σ.2.2.1 82 j).toNatClampNeg < ne) → ∀ (i : Nat) (re : Nat × Nat), (stL σ k d)[i]? = some re → re.2 < ne := by
  intro d
  induction d with
  | zero => intro k _ i re h; rw [stL] at h; simp at h
  | succ d ih =>
    intro k hh i re h
    rw [stL] at h
    split at h
    · cases i with
      | zero =>
        have : re = _ := (Option.some.inj h).symm
        rw [this]
        exact hh k (Nat.le_refl _) (by omega)
      | succ i => exact ih (k + 1) (fun j z1 z2 => hh j (by omega) (by omega)) i re h
    · exact ih (k + 1) (fun j z1 z2 => hh j (by omega) (by omega)) i re h
section SHM
variable {G : Nat → Nat} {S S' : cs_S} {σ σ' : rf_S} {wa rr lt tl bk nr te te' ne nv na ns ks ks' now ed q m : Nat} {ra n pr tm ev al : Nat → Nat} {ko : Nat → Nat → Nat} {Ow : Nat → Nat → Prop} {wl wl' : List Nat}
theorem SHR.more (h : SHR G S σ wa rr lt tl bk nr ra n te ne na ns ks now pr tm ev ko Ow al ed wl) (hE : eB σ σ' ne nv te) (hte : te ≤ te') (hew : ∀ o, o < ne → ∃ m, eW σ te o m) (hst : ∀ j, ks' ≤ j → j < ns → (σ.2.2.1 82 j).toNatClampNeg < ne)
    (hq1 : wl'.length = (stL σ ks' (ns - ks')).length) (hq2 : ∀ (i y : Nat) (re : Nat × Nat), wl'[i]? = some y → (stL σ ks' (ns - ks'))[i]? = some re → WV S σ te bk nr now n Ow y re.1 re.2) (hq3 : ∀ i j y : Nat, wl'[i]? = some y → wl'[j]? = some y → i = j) (hq4 : ∀ o, o < ne → ¬ ev o ∈ wl') (hq5 : ¬ q ∈ wl') (hqe : ∀ o, o < ne → ev o ≠ q)
    (k5 : cs_k S q = 5) (hqv : evR S σ' te' q ne m) (h400 : cs_i S 400 q = nI now) (h402 : cs_i S 402 q = σ'.2.2.1 10 ne) (hqr : ∀ vs r, cs_r S 404 q = some vs → r < nr → ¬ Ow r vs)
    (hF : fX (fun s f a => (a = q ∧ (f = 405 ∨ f = 406)) ∨ (s = 5 ∧ a = lt ∧ f = ne % 64) ∨ (a = wa ∧ (f = 1104 ∨ f = 1105 ∨ f = 1109 ∨ f = 1110 ∨ f = 1111))) S S') (f405 : cs_i S' 405 q = nI ne) (flt : cs_ar S' lt (ne % 64) = some q) (f1104 : cs_i S' 1104 wa = nI (ne + 1)) (f1105 : cs_i S' 1105 wa = σ'.1 23) (f1109 : cs_i S' 1109 wa = σ'.1 22) (h79 : σ'.1 79 = σ.1 79) (hch : chn S' 406 wl' (cs_r S' 1110 wa)) (hlast : ∀ y, wl'.getLast? = some y → cs_r S' 1111 wa = some y) :
    SHR G S' σ' wa rr lt tl bk nr ra n te' (ne + 1) na ns ks' now pr (prU tm ne now) (prU ev ne q) ko Ow al ed wl' := by
  obtain ⟨⟨h1, h2, h3, h4, h5, h6, h7, h8, h9, h10⟩, ⟨i1, i2, i3, i4, i5, i6⟩, h11, h12, ⟨h13, h14⟩, h15, h16, h17, h18, h19, h20, h21⟩ := h
  have nwq : wa ≠ q := fun e => by rw [e, k5] at h1; cases h1
  have nlq : lt ≠ q := fun e => by rw [e, k5] at h7; cases h7
  have nlw : lt ≠ wa := fun e => by rw [e, h1] at h7; cases h7
  have hE0 : e0 S (fun s f a => (a = q ∧ (f = 405 ∨ f = 406)) ∨ (s = 5 ∧ a = lt ∧ f = ne % 64) ∨ (a = wa ∧ (f = 1104 ∨ f = 1105 ∨ f = 1109 ∨ f = 1110 ∨ f = 1111))) := fun s f a z => by
    rcases z with ⟨rfl, z⟩ | ⟨-, rfl, -⟩ | ⟨rfl, -⟩
    · exact ⟨by omega, by omega, by omega, by omega, fun _ => by omega⟩
    · exact ⟨by omega, by omega, by omega, by omega, fun y => by omega⟩
    · exact ⟨by omega, by omega, by omega, by omega, fun y => by omega⟩
  have row : ∀ kk, 63 ≤ kk ∧ kk ≤ 83 → σ'.2.2.1 kk = σ.2.2.1 kk := fun kk hk => funext fun j => hE.2.1 kk j (by omega) (by omega) (by omega) (by omega) (by omega) (by omega)
  obtain ⟨w1, w2, w3, -, w4, -⟩ := hF wa (by omega)
  obtain ⟨r1, r2, -, -, -, -, -, r5⟩ := hF rr (by omega)
  obtain ⟨l1, l2, -, -, -, -, -, l5⟩ := hF lt (by omega)
  have wno : ∀ s f, f ≠ 1104 → f ≠ 1105 → f ≠ 1109 → f ≠ 1110 → f ≠ 1111 → ¬ ((wa = q ∧ (f = 405 ∨ f = 406)) ∨ (s = 5 ∧ wa = lt ∧ f = ne % 64) ∨ (wa = wa ∧ (f = 1104 ∨ f = 1105 ∨ f = 1109 ∨ f = 1110 ∨ f = 1111))) := fun s f z1 z2 z3 z4 z5 z => by
    rcases z with ⟨z, -⟩ | ⟨-, z, -⟩ | ⟨-, z⟩
    · exact nwq z
    · exact nlw z.symm
    · omega
  have wi : ∀ f, f ≠ 1104 → f ≠ 1105 → f ≠ 1109 → f ≠ 1110 → f ≠ 1111 → cs_i S' f wa = cs_i S f wa := fun f z1 z2 z3 z4 z5 => w3 f (wno 0 f z1 z2 z3 z4 z5)
  have wr : ∀ f, f ≠ 1104 → f ≠ 1105 → f ≠ 1109 → f ≠ 1110 → f ≠ 1111 → cs_r S' f wa = cs_r S f wa := fun f z1 z2 z3 z4 z5 => w4 f (wno 2 f z1 z2 z3 z4 z5)
  have es : stL σ' ks' (ns - ks') = stL σ ks' (ns - ks') := stL_c2 _ _ (fun j z1 z2 => ⟨by rw [row 81 (by omega)], by rw [row 82 (by omega)], hE.2.1 10 _ (by omega) (by omega) (fun _ => hst j z1 (by omega)) (by omega) (by omega) (by omega)⟩)
  have sel : ∀ o, o < ne + 1 → o = ne ∨ o < ne := fun o ho => by omega
  refine ⟨⟨w1.trans h1, (wr _ (by decide) (by decide) (by decide) (by decide) (by decide)).trans h2, r1.trans h3, by rw [r2]; exact h4, (wi _ (by decide) (by decide) (by decide) (by decide) (by decide)).trans h5, (wr _ (by decide) (by decide) (by decide) (by decide) (by decide)).trans h6, l1.trans h7, l2.trans h8, (wr _ (by decide) (by decide) (by decide) (by decide) (by decide)).trans h9, fun r hr => ?_⟩, ⟨f1104, f1105, (wi _ (by decide) (by decide) (by decide) (by decide) (by decide)).trans i3, by rw [h79]; exact (wi _ (by decide) (by decide) (by decide) (by decide) (by decide)).trans i4, (wi _ (by decide) (by decide) (by decide) (by decide) (by decide)).trans i5, f1109⟩, fun o ho => ?_, fun o ho hl => ?_, ⟨?_, fun i hi => ?_⟩, h15, hch, by rw [es]; exact hq1, fun i y re z1 z2 => ?_, hq3, hlast, fun o ho => ?_⟩
  · rw [r5 r (fun z => ?_)]
    · exact h10 r hr
    · rcases z with ⟨z, -⟩ | ⟨-, z, -⟩ | ⟨z, -⟩
      · rw [z, k5] at h3; cases h3
      · rw [z, h7] at h3; cases h3
      · rw [z, h1] at h3; cases h3
  · rcases sel o ho with rfl | ho'
    · unfold EV
      rw [prU_r, prU_r]
      obtain ⟨a1, a2, a3, a4⟩ := hE0.ev hF k5
      exact ⟨⟨m, hE0.evr hF hqv⟩, (a2 400 (by omega)).trans h400, f405, (a2 402 (by omega)).trans h402, fun vs r hv hr => hqr vs r (by rw [← a4 404 (by omega)]; exact hv) hr⟩
    · obtain ⟨⟨m', g1⟩, g2, g3, g4, g5⟩ := h11 o ho'
      unfold EV
      rw [prU_o (by omega), prU_o (by omega)]
      have ke := g1.1
      obtain ⟨a1, a2, a3, a4⟩ := hE0.ev hF ke
      refine ⟨⟨m', (hE0.evr hF g1).eb hE hte ho'⟩, (a2 400 (by omega)).trans g2, ?_, ?_, fun vs r hv hr => g5 vs r (by rw [← a4 404 (by omega)]; exact hv) hr⟩
      · rw [(hF (ev o) (by omega)).2.2.1 405 (fun z => ?_)]
        · exact g3
        · rcases z with ⟨z, -⟩ | ⟨z, -⟩ | ⟨z, -⟩
          · exact hqe o ho' z
          · exact absurd z (by decide)
          · rw [z, h1] at ke; cases ke
      · rw [a2 402 (by omega), g4, hE.2.1 10 o (by omega) (by omega) (by omega) (by omega) (by omega) (by omega)]
  · rcases sel o ho with rfl | ho'
    · rw [prU_r]; exact flt
    · rw [prU_o (by omega), l5 (o % 64) (fun z => ?_)]
      · exact h12 o ho' (by omega)
      · rcases z with ⟨z, -⟩ | ⟨-, -, z⟩ | ⟨z, -⟩
        · exact nlq z
        · omega
        · exact nlw z
  · refine h13.fx hF (fun s f a z => ?_)
    have k1 := h13.1
    have k27 := h13.2.2.1
    rcases z with ⟨rfl, z⟩ | ⟨-, rfl, -⟩ | ⟨rfl, -⟩
    · exact ⟨fun y => (by rw [y, k1] at k5; cases k5), fun y => (by rw [y, k27] at k5; cases k5)⟩
    · exact ⟨fun y => (by rw [y, k1] at h7; cases h7), fun y => (by rw [y, k27] at h7; cases h7)⟩
    · exact ⟨fun y => (by rw [y, k1] at h1; cases h1), fun y => (by rw [y, k27] at h1; cases h1)⟩
  · obtain ⟨r, e, f, z1, z2, z3, z4, z5, z6, z7, z8, z9, z10, z11, z12⟩ := h14 i hi
    have ka := (h13.2.2.2.2.2.2 i hi).2
    obtain ⟨-, -, a3, -, a5, -⟩ := hF (al i) (by omega)
    have hno : ∀ s f, ¬ ((al i = q ∧ (f = 405 ∨ f = 406)) ∨ (s = 5 ∧ al i = lt ∧ f = ne % 64) ∨ (al i = wa ∧ (f = 1104 ∨ f = 1105 ∨ f = 1109 ∨ f = 1110 ∨ f = 1111))) := fun s f z => by
      rcases z with ⟨z, -⟩ | ⟨-, z, -⟩ | ⟨z, -⟩
      · rw [z, k5] at ka; cases ka
      · rw [z, h7] at ka; cases ka
      · rw [z, h1] at ka; cases ka
    unfold AL KfO
    rw [row 73 (by omega), row 74 (by omega), row 75 (by omega), row 76 (by omega), row 77 (by omega), row 63 (by omega)]
    exact ⟨r, e, f, z1, z2, z3, z4, z5, z6, (a3 _ (hno 0 _)).trans z7, (a3 _ (hno 0 _)).trans z8, (a3 _ (hno 0 _)).trans z9, (a3 _ (hno 0 _)).trans z10, (a3 _ (hno 0 _)).trans z11, (a5 _ (hno 2 _)).trans z12⟩
  · rw [es] at z2
    have hlt := stL_mem _ _ (fun j z1 z2 => hst j z1 (by omega)) i re z2
    obtain ⟨m', hm'⟩ := hew re.2 hlt
    exact ((hq2 i y re z1 z2).eb hE hte hlt hm').f0 hE0 hF (fun s f a z => by
      rcases z with ⟨rfl, -⟩ | ⟨-, rfl, -⟩ | ⟨rfl, -⟩ <;> omega)
  · rcases sel o ho with rfl | ho'
    · rw [prU_r]; exact hq5
    · rw [prU_o (by omega)]; exact hq4 o ho'
end SHM
