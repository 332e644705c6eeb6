/-! ===== the queue of waiting events ===== -/
section SQX
variable {P0 : Nat → Prop} {S0 : cs_S} {G : Nat → Nat} {S S' : cs_S} {σ σ' : rf_S} {wa rr lt tl bk nr te ne nv na ns ns' ks ks' nl now now' ed : Nat} {ra x k n w q L pr lr le tm ev al : Nat → Nat} {dp : Nat → Nat → Nat} {tr : (r c : Nat) → cT (dp r c)} {ud : Nat → Nat} {ut : (r : Nat) → Option (cT (ud r))} {ko : Nat → Nat → Nat} {Ow : Nat → Nat → Prop} {wl wl' : List Nat}
theorem SHR.queue (h : SHR G S σ wa rr lt tl bk nr ra n te ne na ns ks now pr tm ev ko Ow al ed wl) (hF : fX (fun s f a => (s = 2 ∧ ((cs_k S a = 5 ∧ f = 406) ∨ (a = wa ∧ (f = 1110 ∨ f = 1111)))) ∨ (s = 0 ∧ a = wa ∧ f = 1108)) S S') (h1108 : cs_i S' 1108 wa = nI now')
    (hq1 : wl'.length = (stL σ ks' (ns' - ks')).length) (hq2 : ∀ (i y : Nat) (re : Nat × Nat), wl'[i]? = some y → (stL σ ks' (ns' - ks'))[i]? = some re → WV S σ te bk nr now' n Ow y re.1 re.2) (hq3 : ∀ i j y : Nat, wl'[i]? = some y → wl'[j]? = some y → i = j) (hq4 : ∀ o, o < ne → ¬ ev o ∈ wl') (hch : chn S' 406 wl' (cs_r S' 1110 wa)) (hlast : ∀ y, wl'.getLast? = some y → cs_r S' 1111 wa = some y) :
    SHR G S' σ wa rr lt tl bk nr ra n te ne na ns' ks' now' pr tm ev ko Ow al ed wl' := by
  obtain ⟨⟨h1, h2, h3, h4, h5, h6, h7, h8, h9, h10⟩, ⟨i1, i2, i3, i4, i5, i6⟩, h11, h12, ⟨h13, h14⟩, h15, h16, h17, h18, h19, h20, h21⟩ := h
  have hE0 : e0 S (fun s f a => (s = 2 ∧ ((cs_k S a = 5 ∧ f = 406) ∨ (a = wa ∧ (f = 1110 ∨ f = 1111)))) ∨ (s = 0 ∧ a = wa ∧ f = 1108)) := fun s f a z => by
    rcases z with ⟨-, ⟨z, zf⟩ | ⟨rfl, -⟩⟩ | ⟨-, rfl, -⟩
    · exact ⟨by omega, by omega, by omega, by omega, fun _ => by omega⟩
    · exact ⟨by omega, by omega, by omega, by omega, fun y => by omega⟩
    · exact ⟨by omega, by omega, by omega, by omega, fun y => by omega⟩
  obtain ⟨w1, w2, w3, -, w4, -⟩ := hF wa (by omega)
  obtain ⟨r1, r2, -, -, -, -, -, r5⟩ := hF rr (by omega)
  obtain ⟨l1, l2, -, -, -, -, -, l5⟩ := hF lt (by omega)
  have wi : ∀ f, f ≠ 1108 → cs_i S' f wa = cs_i S f wa := fun f z1 => w3 f (fun z => by
    rcases z with ⟨z, -⟩ | ⟨-, -, z⟩
    · exact absurd z (by decide)
    · exact z1 z)
  have wr : ∀ f, f ≠ 1110 → f ≠ 1111 → cs_r S' f wa = cs_r S f wa := fun f z1 z2 => w4 f (fun z => by
    rcases z with ⟨-, ⟨z, -⟩ | ⟨-, z⟩⟩ | ⟨z, -⟩
    · omega
    · omega
    · exact absurd z (by decide))
  have ai5 : ∀ a f, cs_k S a = 5 → cs_i S' f a = cs_i S f a := fun a f z1 => (hF a (by omega)).2.2.1 f (fun z => by
    rcases z with ⟨z, -⟩ | ⟨-, z, -⟩
    · exact absurd z (by decide)
    · rw [z, h1] at z1; cases z1)
  have rno : ∀ j, ¬ ((5 = 2 ∧ ((cs_k S rr = 5 ∧ j = 406) ∨ (rr = wa ∧ (j = 1110 ∨ j = 1111)))) ∨ (5 = 0 ∧ rr = wa ∧ j = 1108)) := fun j z => by
    rcases z with ⟨z, -⟩ | ⟨z, -⟩ <;> exact absurd z (by decide)
  have lno : ∀ j, ¬ ((5 = 2 ∧ ((cs_k S lt = 5 ∧ j = 406) ∨ (lt = wa ∧ (j = 1110 ∨ j = 1111)))) ∨ (5 = 0 ∧ lt = wa ∧ j = 1108)) := fun j z => by
    rcases z with ⟨z, -⟩ | ⟨z, -⟩ <;> exact absurd z (by decide)
  refine ⟨⟨w1.trans h1, (wr _ (by decide) (by decide)).trans h2, r1.trans h3, by rw [r2]; exact h4, (wi _ (by decide)).trans h5, (wr _ (by decide) (by decide)).trans h6, l1.trans h7, l2.trans h8, (wr _ (by decide) (by decide)).trans h9, fun r hr => by rw [r5 r (rno r)]; exact h10 r hr⟩, ⟨(wi _ (by decide)).trans i1, (wi _ (by decide)).trans i2, (wi _ (by decide)).trans i3, (wi _ (by decide)).trans i4, h1108, (wi _ (by decide)).trans i6⟩, fun o ho => ?_, fun o ho hl => by rw [l5 _ (lno _)]; exact h12 o ho hl, ⟨?_, fun i hi => ?_⟩, h15, hch, hq1, fun i y re z1 z2 => (hq2 i y re z1 z2).f0 hE0 hF (fun s f a z => by
    rcases z with ⟨-, ⟨z, zf⟩ | ⟨rfl, -⟩⟩ | ⟨-, rfl, -⟩ <;> omega), hq3, hlast, hq4⟩
  · obtain ⟨⟨m', g1⟩, g2, g3, g4, g5⟩ := h11 o ho
    have ke := g1.1
    obtain ⟨a1, a2, a3, a4⟩ := hE0.ev hF ke
    exact ⟨⟨m', hE0.evr hF g1⟩, (a2 400 (by omega)).trans g2, (ai5 _ _ ke).trans g3, (a2 402 (by omega)).trans g4, fun vs r hv hr => g5 vs r (by rw [← a4 404 (by omega)]; exact hv) hr⟩
  · refine h13.fx hF (fun s f a z => ?_)
    have k1 := h13.1
    have k27 := h13.2.2.1
    rcases z with ⟨rfl, ⟨z, -⟩ | ⟨rfl, -⟩⟩ | ⟨rfl, rfl, -⟩
    · exact ⟨fun y => (by rw [y, k1] at z; cases z), fun _ => by decide⟩
    · exact ⟨fun y => (by rw [y, k1] at h1; cases h1), fun _ => by decide⟩
    · exact ⟨fun y => (by rw [y, k1] at h1; cases h1), fun _ => by decide⟩
  · obtain ⟨r, e, f, z1, z2, z3, z4, z5, z6, z7, z8, z9, z10, z11, z12⟩ := h14 i hi
    have ka := (h13.2.2.2.2.2.2 i hi).2
    obtain ⟨-, -, a3, -, a5, -⟩ := hF (al i) (by omega)
    have hno : ∀ s f, ¬ ((s = 2 ∧ ((cs_k S (al i) = 5 ∧ f = 406) ∨ (al i = wa ∧ (f = 1110 ∨ f = 1111)))) ∨ (s = 0 ∧ al i = wa ∧ f = 1108)) := fun s f z => by
      rcases z with ⟨-, ⟨z, -⟩ | ⟨z, -⟩⟩ | ⟨-, z, -⟩
      · omega
      · rw [z, h1] at ka; cases ka
      · rw [z, h1] at ka; cases ka
    exact ⟨r, e, f, z1, z2, z3, z4, z5, z6, (a3 _ (hno 0 _)).trans z7, (a3 _ (hno 0 _)).trans z8, (a3 _ (hno 0 _)).trans z9, (a3 _ (hno 0 _)).trans z10, (a3 _ (hno 0 _)).trans z11, (a5 _ (hno 2 _)).trans z12⟩
/-- rules rest where only the queue changes -/
theorem CR.queue {O : Nat → Prop} {r a x k n w q L p : Nat} {dp : Nat → Nat} {tr : (c : Nat) → cT (dp c)} {ud : Nat} {ut : Option (cT ud)} {kk : Nat → Nat} (h : CR S σ O r a bk x k n w q L dp tr ud ut tm ev kk nl lr le now p) (h1 : cs_k S wa = 12) (hF : fX (fun s f a => (s = 2 ∧ ((cs_k S a = 5 ∧ f = 406) ∨ (a = wa ∧ (f = 1110 ∨ f = 1111)))) ∨ (s = 0 ∧ a = wa ∧ f = 1108)) S S') : CR S' σ O r a bk x k n w q L dp tr ud ut tm ev kk nl lr le now p :=
  h.f0 (fun wt s f a _ z => Or.inr (by
    rcases z with ⟨-, ⟨z, zf⟩ | ⟨rfl, -⟩⟩ | ⟨-, rfl, -⟩
    · exact ⟨by omega, by omega, by omega, by omega, by omega, by omega, fun _ => by omega, fun y => by omega, fun y => by omega⟩
    · exact ⟨by omega, by omega, by omega, by omega, by omega, by omega, fun y => by omega, fun y => by omega, fun y => by omega⟩
    · exact ⟨by omega, by omega, by omega, by omega, by omega, by omega, fun y => by omega, fun y => by omega, fun y => by omega⟩)) hF (fun s f a z ho => by
    rcases z with ⟨-, ⟨z, zf⟩ | ⟨rfl, -⟩⟩ | ⟨-, rfl, -⟩
    · exact ⟨by omega, by omega, by omega, by omega, by omega⟩
    · exact ⟨by omega, by omega, by omega, by omega, by omega⟩
    · exact ⟨by omega, by omega, by omega, by omega, by omega⟩)
/-- a step that makes nothing -/
theorem CW.skip (h : CW P0 S0 G S σ wa rr lt tl bk nr ra x k n w q L dp tr ud ut te ne na ns ks nl now pr lr le tm ev) (hks : ks < ns) (hmk : ¬ σ.2.2.1 10 (σ.2.2.1 82 ks).toNatClampNeg = -1) : CW P0 S0 G S σ wa rr lt tl bk nr ra x k n w q L dp tr ud ut te ne na ns (ks + 1) nl now pr lr le tm ev := by
  obtain ⟨ko, Ow, al, ed, wl, hSH, hCR, hdis, hFR⟩ := h
  obtain ⟨a1, a2, a3, a4, a5, a6, h16, h17, h18, h19, h20, h21⟩ := hSH
  have est : stL σ ks (ns - ks) = stL σ (ks + 1) (ns - (ks + 1)) := by
    rw [show ns - ks = (ns - (ks + 1)) + 1 from by omega, stL, if_neg hmk]
  rw [est] at h17 h18
  exact ⟨ko, Ow, al, ed, wl, ⟨a1, a2, a3, a4, a5, a6, h16, h17, h18, h19, h20, h21⟩, hCR, hdis, hFR⟩
/-- an event that waited goes, for the log is full -/
theorem CW.drop (h : CW P0 S0 G S σ wa rr lt tl bk nr ra x k n w q L dp tr ud ut te ne na ns ks nl now pr lr le tm ev) (hks : ks < ns) (hmk : σ.2.2.1 10 (σ.2.2.1 82 ks).toNatClampNeg = -1) : ∃ q0, cs_r S 1110 wa = some q0 ∧ cs_k S q0 = 5 ∧ CW P0 S0 G (cs_ur (cs_ur S 1110 wa (cs_r S 406 q0)) 406 q0 none) σ wa rr lt tl bk nr ra x k n w q L dp tr ud ut te ne na ns (ks + 1) nl now pr lr le tm ev := by
  obtain ⟨ko, Ow, al, ed, wl, hSH, hCR, hdis, hFR⟩ := h
  obtain ⟨⟨h1, -⟩, ⟨-, -, -, -, i5, -⟩, -, -, -, -, h16, h17, h18, h19, h20, h21⟩ := id hSH
  have est : stL σ ks (ns - ks) = ((σ.2.2.1 81 ks).toNatClampNeg, (σ.2.2.1 82 ks).toNatClampNeg) :: stL σ (ks + 1) (ns - (ks + 1)) := by
    rw [show ns - ks = (ns - (ks + 1)) + 1 from by omega, stL, if_pos hmk]
  rw [est] at h17 h18
  cases wl with
  | nil => exact absurd h17 (by simp)
  | cons q0 wl' =>
    have k5 : cs_k S q0 = 5 := (h18 0 q0 _ rfl rfl).1
    obtain ⟨c1, c2⟩ := h16
    have nwq : wa ≠ q0 := fun z => by rw [z, k5] at h1; cases h1
    have hF : fX (fun s f a => (s = 2 ∧ ((cs_k S a = 5 ∧ f = 406) ∨ (a = wa ∧ (f = 1110 ∨ f = 1111)))) ∨ (s = 0 ∧ a = wa ∧ f = 1108)) S (cs_ur (cs_ur S 1110 wa (cs_r S 406 q0)) 406 q0 none) := (fX.rfl.ur (Or.inl (Or.inl ⟨rfl, Or.inr ⟨rfl, by omega⟩⟩))).ur (Or.inl (Or.inl ⟨rfl, Or.inl ⟨k5, rfl⟩⟩))
    have hq5 : ¬ q0 ∈ wl' := fun z => by
      obtain ⟨i, hi, hz⟩ := List.getElem_of_mem z
      have := h19 0 (i + 1) q0 rfl (by rw [List.getElem?_cons_succ, List.getElem?_eq_getElem hi, hz])
      omega
    have hlen : wl'.length = (stL σ (ks + 1) (ns - (ks + 1))).length := by
      have := h17
      simp only [List.length_cons] at this
      omega
    refine ⟨q0, c1, k5, ko, Ow, al, ed, wl', hSH.queue hF i5 hlen (fun i y re z1 z2 => h18 (i + 1) y re (by rw [List.getElem?_cons_succ]; exact z1) (by rw [List.getElem?_cons_succ]; exact z2)) (fun i j y z1 z2 => by
      have := h19 (i + 1) (j + 1) y (by rw [List.getElem?_cons_succ]; exact z1) (by rw [List.getElem?_cons_succ]; exact z2)
      omega) (fun o ho z => h21 o ho (List.mem_cons_of_mem _ z)) ?_ (fun y hy => ?_), fun r hr => (hCR r hr).queue h1 hF, hdis, (hFR.wl (wl' := wl') (ne' := ne) (ev' := ev) (fun a _ _ z1 z2 => ⟨z1, fun z => z2 (List.mem_cons_of_mem _ z)⟩)).fx hF (fun s f a z => Or.inr (by
      rcases z with ⟨-, ⟨z1, z2⟩ | ⟨rfl, -⟩⟩ | ⟨-, rfl, -⟩ <;> omega)) (fun _ _ _ _ z => z)⟩
    · rw [rur, if_neg (fun z => absurd z.1 (by decide)), rur, if_pos ⟨rfl, rfl⟩]
      refine chn.fx _ _ c2 (fun a ha => ?_)
      rw [rur, if_neg (fun z => hq5 (by rw [← z.2]; exact ha)), rur, if_neg (fun z => absurd z.1 (by decide))]
    · rw [rur, if_neg (fun z => absurd z.1 (by decide)), rur, if_neg (fun z => absurd z.1 (by decide))]
      refine h20 y ?_
      rw [List.getLast?_cons, hy]
      rfl
/-- no step is left -/
theorem RD.st0 (h : RD σ bk nr x n w te nv ne na ns nl now pr lr le tm) : RD (rf_ui σ 83 0) bk nr x n w te nv ne na 0 nl now pr lr le tm := by
  obtain ⟨⟨d1, d2, d3, d4, d5⟩, d6, d7, ⟨d8a, d8, d8b, d8c, d8d⟩, d9, ⟨e1, ⟨e2, e3, e4⟩, e5, e6, e7, e8⟩, d11, d12, d13, d14⟩ := h
  have hE : eV σ (rf_ui σ 83 0) := ⟨fun _ _ => rfl, rfl⟩
  refine ⟨⟨d1, d2, d3, d4, d5⟩, fun o ho => ?_, d7, ⟨d8a.ev hE rfl, d8.on hE, d8b, d8c, d8d⟩, d9, ⟨e1, ⟨e2, e3, e4⟩, e5, e6, by rw [r1ui, if_pos rfl]; rfl, ?_⟩, d11, d12, d13, d14⟩
  · obtain ⟨⟨m, a1⟩, a2⟩ := d6 o ho
    exact ⟨⟨m, hE.ew a1⟩, a2⟩
  · show ((0 : Nat) : Int) ≤ fct σ nr
    omega
theorem CB.st0 {p0 p1 t mk kc : Nat} {gf : Nat → Nat} : CB p0 p1 t mk kc gf (rf_ui σ 83 0) nr na 0 0 nl n pr lr le ≤ CB p0 p1 t mk kc gf σ nr na ns ks nl n pr lr le := by
  have nn : 0 ≤ sS (fun k => σ.2.2.1 10 (σ.2.2.1 82 k).toNatClampNeg = -1) (fun k => (scB p0 p1 t σ (σ.2.2.1 81 k).toNatClampNeg (σ.2.2.1 82 k).toNatClampNeg : Int)) ks (ns - ks) := sS_nn (fun _ => Int.natCast_nonneg _) _
  show (gf (min na 500) : Int) + sS (fun r => n r = 0 ∧ ∀ f, ¬ KfO σ r (pr r) f) (fun _ => (kc : Int)) 0 nr + sS (fun j => σ.2.2.1 71 j = 0) (fun j => (lcB p0 p1 t mk σ (lr j) (le j) : Int)) 0 nl + 0 ≤ _
  unfold CB
  omega
/-- the queue is empty: all steps are done -/
theorem CW.end0 (h : CW P0 S0 G S σ wa rr lt tl bk nr ra x k n w q L dp tr ud ut te ne na ns ks nl now pr lr le tm ev) (hmk : ∀ kk, ks ≤ kk → kk < ns → ¬ σ.2.2.1 10 (σ.2.2.1 82 kk).toNatClampNeg = -1) (hp : ∀ r, r < nr → pr r ≤ 4000) (hlk : ∀ j, j < nl → le j < pr (lr j)) : cs_k S wa = 12 ∧ cs_r S 1110 wa = none ∧ CW P0 S0 G (cs_ur S 1111 wa none) (rf_ui σ 83 0) wa rr lt tl bk nr ra x k n w q L dp tr ud ut te ne na 0 0 nl now pr lr le tm ev := by
  obtain ⟨ko, Ow, al, ed, wl, hSH, hCR, hdis, hFR⟩ := h
  obtain ⟨⟨h1, -⟩, ⟨-, -, -, -, i5, -⟩, -, -, -, -, h16, h17, h18, h19, h20, h21⟩ := id hSH
  have e0 : ∀ d kk, ks ≤ kk → kk + d = ns → stL σ kk d = [] := by
    intro d
    induction d with
    | zero => intro kk _ _; rfl
    | succ d ih =>
      intro kk z1 z2
      rw [stL, if_neg (hmk kk z1 (by omega))]
      exact ih (kk + 1) (by omega) (by omega)
  have ewl : wl = [] := by
    by_cases c : ks ≤ ns
    · rw [e0 (ns - ks) ks (Nat.le_refl _) (by omega)] at h17
      exact List.length_eq_zero_iff.mp h17
    · rw [show ns - ks = 0 from by omega, stL] at h17
      exact List.length_eq_zero_iff.mp h17
  rw [ewl] at h16
  have hF : fX (fun s f a => (s = 2 ∧ ((cs_k S a = 5 ∧ f = 406) ∨ (a = wa ∧ (f = 1110 ∨ f = 1111)))) ∨ (s = 0 ∧ a = wa ∧ f = 1108)) S (cs_ur S 1111 wa none) := fX.rfl.ur (Or.inl (Or.inl ⟨rfl, Or.inr ⟨rfl, by omega⟩⟩))
  have hq := hSH.queue (ns' := 0) (ks' := 0) (wl' := []) hF i5 rfl (fun i y re z1 _ => by simp at z1) (fun i j y z1 _ => by simp at z1) (fun o _ z => by simp at z) (by
    rw [rur, if_neg (fun z => absurd z.1 (by decide))]
    exact h16) (fun y hy => by simp at hy)
  have hE : eV σ (rf_ui σ 83 0) := ⟨fun _ _ => rfl, rfl⟩
  refine ⟨h1, h16, ko, Ow, al, ed, [], hq.on hE rfl rfl rfl (fun _ _ => Nat.le_refl _) (fun _ _ _ _ => rfl) (fun _ _ _ _ _ => rfl) (fun j hj => absurd hj (by omega)) (fun _ _ _ _ z => z) (fun _ _ _ _ => rfl), fun r hr => ((hCR r hr).queue h1 hF).on hE (fun _ _ => ⟨rfl, rfl⟩) (fun _ _ => ⟨rfl, rfl⟩) rfl (hp r hr) (Nat.le_refl _) (fun j z1 z2 => absurd z1 (by omega)) (fun j _ => ⟨rfl, rfl, fun _ => Iff.rfl⟩) (fun j hj hjr => by have := hlk j hj; rw [hjr] at this; exact this), hdis, (hFR.wl (wl' := []) (ne' := ne) (ev' := ev) (fun a _ _ z1 _ => ⟨z1, fun z => by simp at z⟩)).fx hF (fun s f a z => Or.inr (by
      rcases z with ⟨-, ⟨z1, z2⟩ | ⟨rfl, -⟩⟩ | ⟨-, rfl, -⟩ <;> omega)) (fun _ _ _ _ z => z)⟩
end SQX
