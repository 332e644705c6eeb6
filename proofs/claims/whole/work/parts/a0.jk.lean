/-! ===== a rule of the class against the reference ===== -/
theorem cfn_cong {M M' : Nat → Nat → Prop} : ∀ j p, (∀ j o, o < p → (M j o ↔ M' j o)) → cfn M j p = cfn M' j p := by
  intro j
  induction j with
  | zero => intro p h; exact lst_cong p (fun x hx => h 0 x hx)
  | succ j ih =>
    intro p h
    rw [cfn, cfn, lst_cong p (fun x hx => h (j + 1) x hx)]
    cases c : lst (M' (j + 1)) p with
    | none => rfl
    | some o =>
      obtain ⟨o1, -⟩ := lst_some p o c
      exact ih o (fun j' x hx => h j' x (by omega))
theorem chV_cong {ev ev' : Nat → Nat} {M M' : Nat → Nat → Prop} {U U' : Nat → Prop} {p j : Nat} (hM : ∀ j o, o < p → (M j o ↔ M' j o)) (hU : ∀ o, o < p → (U o ↔ U' o)) (he : ∀ o, o < p → ev o = ev' o) : chV ev M U p j = chV ev' M' U' p j := by
  have e := cfn_cong j p hM
  cases c : cfn M' j p with
  | none => rw [chV_n (e.trans c), chV_n c]
  | some o =>
    have hlt := cfn_lt _ _ _ c
    by_cases d : ∀ x, o < x → x < p → ¬ U' x
    · rw [chV_y c d, chV_y (e.trans c) (fun x h1 h2 h3 => d x h1 h2 ((hU x h2).mp h3)), he o hlt]
    · rw [chV_c c d, chV_c (e.trans c) (fun z => d (fun x h1 h2 h3 => z x h1 h2 ((hU x h2).mpr h3)))]
theorem chI.cong {S : cs_S} {Ow Ow' : Nat → Prop} {ko ko' ev sr : Nat → Nat} {Kf Kf' : Nat → Prop} {M M' : Nat → Nat → Nat → Prop} {U U' : Nat → Nat → Prop} {k p : Nat} (h : chI S Ow ko ev sr Kf M U k p) (hO : ∀ a, cs_k S a ≠ 0 → Ow a → Ow' a) (hK : ∀ f, Kf f ↔ Kf' f) (hk : ∀ f, Kf f → ko f = ko' f) (hM : ∀ f j o, Kf f → o < p → (M f j o ↔ M' f j o)) (hU : ∀ f o, Kf f → o < p → (U f o ↔ U' f o)) : chI S Ow' ko' ev sr Kf' M' U' k p := by
  obtain ⟨h1, h2, h3⟩ := h
  refine ⟨fun f hf => ?_, fun f f' z1 z2 z3 => ?_, fun f f' z1 z2 z3 => h3 f f' ((hK f).mpr z1) ((hK f').mpr z2) z3⟩
  · have hf' := (hK f).mpr hf
    obtain ⟨k1, k2, k3, k4, k5, k6, k7⟩ := h1 f hf'
    rw [← hk f hf']
    refine ⟨k1, hO _ (by omega) k2, k3, hO _ (by omega) k4, k5, k6, fun j hj => ?_⟩
    rw [← chV_cong (fun j o ho => hM f j o hf' ho) (fun o ho => hU f o hf' ho) (fun _ _ => rfl)]
    exact k7 j hj
  · have y1 := (hK f).mpr z1
    have y2 := (hK f').mpr z2
    rw [← hk f y1, ← hk f' y2] at z3
    exact h2 f f' y1 y2 z3
theorem chI.fx {S S' : cs_S} {Ow : Nat → Prop} {ko ev sr : Nat → Nat} {Kf : Nat → Prop} {M : Nat → Nat → Nat → Prop} {U : Nat → Nat → Prop} {k p : Nat} {E : Nat → Nat → Nat → Prop} (h : chI S Ow ko ev sr Kf M U k p) (hF : fX E S S') (hE : ∀ s f a, E s f a → Ow a → (cs_k S a = 6 → f ≠ 512) ∧ cs_k S a ≠ 23) : chI S' Ow ko ev sr Kf M U k p := by
  obtain ⟨h1, h2, h3⟩ := h
  refine ⟨fun f hf => ?_, h2, h3⟩
  obtain ⟨k1, k2, k3, k4, k5, k6, k7⟩ := h1 f hf
  obtain ⟨a1, -, -, -, a5, -⟩ := hF (ko f) (by omega)
  obtain ⟨b1, b2, -, -, -, -, -, b8⟩ := hF (sr f) (by omega)
  refine ⟨a1.trans k1, k2, (a5 512 (fun z => (hE _ _ _ z k2).1 k1 rfl)).trans k3, k4, b1.trans k5, b2.trans k6, fun j hj => ⟨?_, fun b hb => ?_⟩⟩
  · rw [b8 j (fun z => (hE _ _ _ z k4).2 k5)]; exact (k7 j hj).1
  · have := (k7 j hj).2 b hb
    exact (hF b (by omega)).1.trans this
/-- rule r, having looked at p events; Kf its keys, Kc those whose rows of chains stand -/
def JK (S : cs_S) (σ : rf_S) (Ow : Nat → Prop) (r ra b x k n w L : Nat) (tm ev : Nat → Nat) (wt bt nb : Nat) (bl : Nat → List Nat) (ko eo : Nat → Nat) (so : Nat → Option Nat) (lo : Nat) (sr an : Nat → Nat) (Kf Kc : Nat → Prop) (now p : Nat) : Prop :=
  (∀ a, Ow a → cs_k S a ≠ 0) ∧ Ow ra ∧ bI S ra wt bt nb n bl Ow ko Kf (kcO σ b) (kfO σ r) (cO σ r b) so (scO σ b) p ∧
  (∀ f, Kf f → cs_i S 503 (ko f) = σ.2.2.1 65 (4000 * r + f) ∧ cs_i S 504 (ko f) = σ.2.2.1 66 (4000 * r + f)) ∧ (∀ f f', Kf f → Kf f' → ko f = ko f' → f = f') ∧ cs_i S 812 ra = σ.2.2.1 67 r ∧ (x ≠ 1 → ∀ o, so o = none) ∧
  (x ≤ 2 → jC S σ r ra b x w L Ow ko ev Kf so tm eo lo p now) ∧ (x = 3 → chI S Ow ko ev sr Kc (bM σ r) (bU σ r) k p) ∧ (x = 4 → lcI S ra Ow ko eo ev (kfO σ r) an (c4O σ r) Kf lo p)
/-- the same without what tell changes -/
def JKc (S : cs_S) (σ : rf_S) (Ow : Nat → Prop) (r ra b x k n w L : Nat) (tm ev : Nat → Nat) (wt bt nb : Nat) (bl : Nat → List Nat) (ko eo : Nat → Nat) (so : Nat → Option Nat) (lo : Nat) (sr an : Nat → Nat) (Kf Kc : Nat → Prop) (now p : Nat) : Prop :=
  (∀ a, Ow a → cs_k S a ≠ 0) ∧ Ow ra ∧ bI S ra wt bt nb n bl Ow ko Kf (kcO σ b) (kfO σ r) (cO σ r b) so (scO σ b) p ∧ (∀ f f', Kf f → Kf f' → ko f = ko f' → f = f') ∧ (x ≠ 1 → ∀ o, so o = none) ∧
  (x ≤ 2 → jC S σ r ra b x w L Ow ko ev Kf so tm eo lo p now) ∧ (x = 3 → chI S Ow ko ev sr Kc (bM σ r) (bU σ r) k p) ∧ (x = 4 → lcI S ra Ow ko eo ev (kfO σ r) an (c4O σ r) Kf lo p)
section JKS
variable {S S' : cs_S} {σ σ' : rf_S} {Ow : Nat → Prop} {r ra b x k n w L wt bt nb lo now p : Nat} {tm ev ko eo sr an : Nat → Nat} {bl : Nat → List Nat} {so : Nat → Option Nat} {Kf Kc : Nat → Prop}
theorem JK.core (h : JK S σ Ow r ra b x k n w L tm ev wt bt nb bl ko eo so lo sr an Kf Kc now p) : JKc S σ Ow r ra b x k n w L tm ev wt bt nb bl ko eo so lo sr an Kf Kc now p := by
  obtain ⟨h1, h2, h3, h4, h5, h6, h7, h8, h9, h10⟩ := h
  exact ⟨h1, h2, h3, h5, h7, h8, h9, h10⟩
theorem JKc.mk (h : JKc S σ Ow r ra b x k n w L tm ev wt bt nb bl ko eo so lo sr an Kf Kc now p) (h4 : ∀ f, Kf f → cs_i S 503 (ko f) = σ.2.2.1 65 (4000 * r + f) ∧ cs_i S 504 (ko f) = σ.2.2.1 66 (4000 * r + f)) (h6 : cs_i S 812 ra = σ.2.2.1 67 r) : JK S σ Ow r ra b x k n w L tm ev wt bt nb bl ko eo so lo sr an Kf Kc now p := by
  obtain ⟨h1, h2, h3, h5, h7, h8, h9, h10⟩ := h
  exact ⟨h1, h2, h3, h4, h5, h6, h7, h8, h9, h10⟩
theorem JK.kk (h : JK S σ Ow r ra b x k n w L tm ev wt bt nb bl ko eo so lo sr an Kf Kc now p) {f : Nat} (hf : Kf f) : cs_k S (ko f) = 6 ∧ Ow (ko f) := by
  obtain ⟨i, vs, k1, k2, -⟩ := h.2.2.1.2.1 f hf
  exact ⟨(h.2.2.1.2.2.2 i _ k1 k2).2.1, (h.2.2.1.2.2.2 i _ k1 k2).1⟩
/-- the reference goes on: the rule's rows are as they were below p -/
theorem JKc.on (h : JKc S σ Ow r ra b x k n w L tm ev wt bt nb bl ko eo so lo sr an Kf Kc now p) (hE : eV σ σ') (h63 : ∀ o, o < p → σ'.2.2.1 63 (4000 * r + o) = σ.2.2.1 63 (4000 * r + o)) (h64 : ∀ o, o < p → σ'.2.2.1 64 (4000 * r + o) = σ.2.2.1 64 (4000 * r + o)) : JKc S σ' Ow r ra b x k n w L tm ev wt bt nb bl ko eo so lo sr an Kf Kc now p := by
  obtain ⟨h1, h2, h3, h5, h7, h8, h9, h10⟩ := h
  have hco : ∀ o, o < p → (cO σ r b o ↔ cO σ' r b o) := fun o ho => by
    unfold cO hkO
    rw [h63 o ho, h64 o ho, hE.hi]
  have hkf : ∀ o, o < p → kfO σ r o = kfO σ' r o := fun o ho => by
    unfold kfO
    rw [h63 o ho]
  have hc4 : ∀ o, o < p → (c4O σ r o ↔ c4O σ' r o) := fun o ho => by
    unfold c4O hkO
    rw [h63 o ho, h64 o ho]
  refine ⟨h1, h2, h3.cong (fun _ _ z => z) (fun _ => Iff.rfl) (fun f _ => ⟨rfl, fun k _ => hE.kc.symm⟩) (Nat.le_refl _) (fun o ho hc _ => ⟨ho, (hco o ho).mpr hc⟩) (fun o ho hc _ => ⟨(hco o ho).mp hc, rfl, hE.sc.symm, fun k _ => by rw [hE.kc, hkf o ho]⟩) (fun o a _ _ z => z), h5, h7, fun hx => ?_, fun hx => ?_, fun hx => ?_⟩
  · obtain ⟨j1, j2, j3, j4, j5⟩ := h8 hx
    refine ⟨j1.cong hco (fun o ho _ => ⟨hkf o ho, rfl, rfl, hE.am.symm, rfl, hE.vv.symm⟩) (fun _ => Iff.rfl) (fun _ _ => rfl) (fun _ _ z => z), fun hx0 f hf => ?_, j3, fun hx1 o ho hc => j4 hx1 o ho ((hco o ho).mpr hc), fun o ho hc => j5 o ho ((hco o (by have := j1.1.1; omega)).mpr hc)⟩
    have hck : ∀ o, o < p → (cK (cO σ r b) (kfO σ r) f o ↔ cK (cO σ' r b) (kfO σ' r) f o) := fun o ho => by
      unfold cK
      rw [hco o ho, hkf o ho]
    have e0 : sS (cK (cO σ' r b) (kfO σ' r) f) (fun _ => 1) 0 p = sS (cK (cO σ r b) (kfO σ r) f) (fun _ => 1) 0 p := sS_cong _ (fun y _ hy => ⟨(hck y (by omega)).symm, fun _ => rfl⟩)
    obtain ⟨y1, y2⟩ := j2 hx0 f hf
    rw [e0]
    refine ⟨y1, fun z => ?_⟩
    obtain ⟨o, o1, o2, o3, o4⟩ := y2 z
    refine ⟨o, o1, (hck o o1).mp o2, o3, ?_⟩
    rw [← o4]
    exact sS_cong _ (fun y _ hy => ⟨(hck y (by omega)).symm, fun _ => rfl⟩)
  · refine (h9 hx).cong (fun _ _ z => z) (fun _ => Iff.rfl) (fun _ _ => rfl) (fun f j o _ ho => ?_) (fun f o _ ho => ?_)
    · unfold bM
      rw [h63 o ho, h64 o ho]
    · unfold bU
      rw [h63 o ho, h64 o ho]
  · exact (h10 hx).cong hc4 (fun o ho _ => ⟨hkf o ho, rfl, rfl⟩) (fun _ => Iff.rfl) (fun _ _ => ⟨rfl, rfl⟩) (fun _ _ z => z)
theorem JK.on (h : JK S σ Ow r ra b x k n w L tm ev wt bt nb bl ko eo so lo sr an Kf Kc now p) (hE : eV σ σ') (h63 : ∀ o, o < p → σ'.2.2.1 63 (4000 * r + o) = σ.2.2.1 63 (4000 * r + o)) (h64 : ∀ o, o < p → σ'.2.2.1 64 (4000 * r + o) = σ.2.2.1 64 (4000 * r + o)) (hal : ∀ f, Kf f → σ'.2.2.1 65 (4000 * r + f) = σ.2.2.1 65 (4000 * r + f) ∧ σ'.2.2.1 66 (4000 * r + f) = σ.2.2.1 66 (4000 * r + f)) (h67 : σ'.2.2.1 67 r = σ.2.2.1 67 r) (_hp : p ≤ 4000) (_hlo : x ≤ 2 → lo ≤ p) : JK S σ' Ow r ra b x k n w L tm ev wt bt nb bl ko eo so lo sr an Kf Kc now p :=
  (h.core.on hE h63 h64).mk (fun f hf => by rw [(hal f hf).1, (hal f hf).2]; exact h.2.2.2.1 f hf) (by rw [h67]; exact h.2.2.2.2.2.1)
/-- the class goes on: what the rule's window rests on is left alone -/
theorem JKc.fx {E : Nat → Nat → Nat → Prop} {wt1 : Nat} (h : JKc S σ Ow r ra b x k n w L tm ev wt bt nb bl ko eo so lo sr an Kf Kc now p) (hs : sh S wt1 E) (hwk1 : cs_k S wt1 = 26) (hF : fX E S S') (hE : ∀ s f a, E s f a → Ow a → cs_k S a ≠ 4 ∧ (cs_k S a = 6 → f < 505) ∧ (cs_k S a = 9 → f = 812) ∧ cs_k S a ≠ 23 ∧ cs_k S a ≠ 25) (hne : ∀ vs, Ow vs → vs ≠ wt → vs ≠ wt1) : JKc S' σ Ow r ra b x k n w L tm ev wt bt nb bl ko eo so lo sr an Kf Kc now p := by
  obtain ⟨h1, h2, h3, h5, h7, h8, h9, h10⟩ := h
  have kk : ∀ f, Kf f → cs_k S (ko f) = 6 ∧ Ow (ko f) := fun f hf => by
    obtain ⟨i, vs, k1, k2, -⟩ := h3.2.1 f hf
    exact ⟨(h3.2.2.2 i _ k1 k2).2.1, (h3.2.2.2 i _ k1 k2).1⟩
  have kbt : cs_k S bt = 25 := h3.1.1.2.2.1
  refine ⟨fun a ha => hF.live (h1 a ha), h2, h3.fx hs hwk1 hF (fun f z => by have := hE _ _ _ z h3.1.2.1; omega) hne, h5, h7, fun hx => ?_, fun hx => (h9 hx).fx hF (fun s f a z ho => ⟨fun y => by have := hE _ _ _ z ho; omega, by have := hE _ _ _ z ho; omega⟩), fun hx => (h10 hx).fx hF (fun s f a z ho => ?_)⟩
  · obtain ⟨j1, j2, j3, j4, j5⟩ := h8 hx
    refine ⟨j1.fx hF (fun s f a z ho => ?_), fun hx0 => (j2 hx0).fx (fun f hf => ?_), j3, j4, j5⟩
    · have := hE _ _ _ z ho
      by_cases c6 : cs_k S a = 6
      · exact Or.inr (Or.inl ⟨c6, by omega⟩)
      · by_cases c9 : cs_k S a = 9
        · exact Or.inl ⟨c9, by omega⟩
        · exact Or.inr (Or.inr (by omega))
    · obtain ⟨k1, k2⟩ := kk f hf
      obtain ⟨-, -, a3, -, a5, -⟩ := hF (ko f) (by omega)
      exact ⟨a3 508 (fun z => by have := hE _ _ _ z k2; omega), a5 507 (fun z => by have := hE _ _ _ z k2; omega)⟩
  · have := hE _ _ _ z ho
    by_cases c6 : cs_k S a = 6
    · exact Or.inr (Or.inl ⟨c6, by omega⟩)
    · by_cases c9 : cs_k S a = 9
      · exact Or.inl ⟨c9, by omega⟩
      · exact Or.inr (Or.inr (by omega))
/-- the class goes on elsewhere -/
theorem JK.fx {E : Nat → Nat → Nat → Prop} {wt1 : Nat} (h : JK S σ Ow r ra b x k n w L tm ev wt bt nb bl ko eo so lo sr an Kf Kc now p) (hs : sh S wt1 E) (hwk1 : cs_k S wt1 = 26) (hF : fX E S S') (hE : ∀ s f a, E s f a → Ow a → cs_k S a ≠ 4 ∧ cs_k S a ≠ 6 ∧ cs_k S a ≠ 9 ∧ cs_k S a ≠ 23 ∧ cs_k S a ≠ 25) (hne : ∀ vs, Ow vs → vs ≠ wt → vs ≠ wt1) : JK S' σ Ow r ra b x k n w L tm ev wt bt nb bl ko eo so lo sr an Kf Kc now p := by
  refine (h.core.fx hs hwk1 hF (fun s f a z ho => by have := hE s f a z ho; exact ⟨this.1, fun y => absurd y this.2.1, fun y => absurd y this.2.2.1, this.2.2.2⟩) hne).mk (fun f hf => ?_) ?_
  · obtain ⟨k1, k2⟩ := h.kk hf
    obtain ⟨-, -, a3, -⟩ := hF (ko f) (by omega)
    rw [a3 503 (fun z => by have := hE _ _ _ z k2; omega), a3 504 (fun z => by have := hE _ _ _ z k2; omega)]; exact h.2.2.2.1 f hf
  · have k9 := h.2.2.1.1.1.1
    obtain ⟨-, -, a3, -⟩ := hF ra (by omega)
    rw [a3 812 (fun z => by have := hE _ _ _ z h.2.1; omega)]; exact h.2.2.2.2.2.1
/-- what is told of a key -/
theorem JK.tell {E : Nat → Nat → Nat → Prop} {f0 : Nat} (h : JK S σ Ow r ra b x k n w L tm ev wt bt nb bl ko eo so lo sr an Kf Kc now p) (hs : sh S wt E) (hF : fX E S S') (hE : ∀ s f a, E s f a → Ow a → cs_k S a ≠ 4 ∧ (cs_k S a = 6 → a = ko f0 ∧ f < 505) ∧ (cs_k S a = 9 → f = 812) ∧ cs_k S a ≠ 23 ∧ cs_k S a ≠ 25) (hf0 : Kf f0) (hV : eV σ σ') (h63 : ∀ o, o < p → σ'.2.2.1 63 (4000 * r + o) = σ.2.2.1 63 (4000 * r + o)) (h64 : ∀ o, o < p → σ'.2.2.1 64 (4000 * r + o) = σ.2.2.1 64 (4000 * r + o)) (h503 : cs_i S' 503 (ko f0) = σ'.2.2.1 65 (4000 * r + f0)) (h504 : cs_i S' 504 (ko f0) = σ'.2.2.1 66 (4000 * r + f0)) (h65 : ∀ f, Kf f → f ≠ f0 → σ'.2.2.1 65 (4000 * r + f) = σ.2.2.1 65 (4000 * r + f) ∧ σ'.2.2.1 66 (4000 * r + f) = σ.2.2.1 66 (4000 * r + f)) (h812 : cs_i S' 812 ra = σ'.2.2.1 67 r) : JK S' σ' Ow r ra b x k n w L tm ev wt bt nb bl ko eo so lo sr an Kf Kc now p := by
  have kwt : cs_k S wt = 26 := h.2.2.1.1.2.2.2.1
  refine ((h.core.fx hs kwt hF (fun s f a z ho => by have := hE s f a z ho; exact ⟨this.1, fun y => (this.2.1 y).2, this.2.2.1, this.2.2.2⟩) (fun vs _ hne => hne)).on hV h63 h64).mk (fun f hf => ?_) h812
  by_cases c : f = f0
  · rw [c]; exact ⟨h503, h504⟩
  · obtain ⟨k1, k2⟩ := h.kk hf
    obtain ⟨-, -, a3, -⟩ := hF (ko f) (by omega)
    have hno : ∀ s g, ¬ E s g (ko f) := fun s g z => c (h.2.2.2.2.1 f f0 hf hf0 ((hE _ _ _ z k2).2.1 k1).1)
    rw [a3 503 (hno _ _), a3 504 (hno _ _), (h65 f hf c).1, (h65 f hf c).2]
    exact h.2.2.2.1 f hf
end JKS
