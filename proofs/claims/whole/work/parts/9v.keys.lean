/-! ===== the class: the keys of a rule ===== -/
def bI (S : cs_S) (ra wt bt nb n : Nat) (bl : Nat → List Nat) (Ow : Nat → Prop) (ko : Nat → Nat) (Kf : Nat → Prop) (kc : Nat → Nat → Int32 × Int32 × (Nat → Int32)) (kf : Nat → Nat) (C : Nat → Prop) (so : Nat → Option Nat) (sc : Nat → Int32 × Int32 × (Nat → Int32)) (p : Nat) : Prop :=
  (bkW S ra bt nb bl ∧ Ow bt ∧ cs_r S 817 ra = some wt ∧ cs_k S wt = 26 ∧ cs_n S wt = 4 ∧ Ow wt ∧ n ≤ 3) ∧
  (∀ f, Kf f → ∃ i vs, i < nb ∧ ko f ∈ bl i ∧ kyW S (ko f) vs n ∧ ∀ k, k < n → rX S vs k = kc f k) ∧
  (∀ o a, o < p → C o → so o = some a → ∃ i vs, i < nb ∧ a ∈ bl i ∧ kyW S a vs (n + 1) ∧ (∀ k, k < n → rX S vs k = kc (kf o) k) ∧ rX S vs n = sc o) ∧
  (∀ i a, i < nb → a ∈ bl i → Ow a ∧ cs_k S a = 6 ∧ (∃ vs, cs_r S 500 a = some vs ∧ Ow vs ∧ vs ≠ wt ∧ cs_k S vs = 26) ∧ ((∃ f, Kf f ∧ a = ko f) ∨ ∃ o, o < p ∧ C o ∧ so o = some a))
theorem chn.fx {S S' : cs_S} {fi : Nat} : ∀ (l : List Nat) r, chn S fi l r → (∀ a, a ∈ l → cs_r S' fi a = cs_r S fi a) → chn S' fi l r := by
  intro l
  induction l with
  | nil => intro r h _; exact h
  | cons a l ih =>
    intro r h hh
    obtain ⟨h1, h2⟩ := h
    refine ⟨h1, ?_⟩
    rw [hh a (by simp)]
    exact ih _ h2 (fun b hb => hh b (by simp [hb]))
def oV (Ow : Nat → Prop) (q vs a : Nat) : Prop := Ow a ∨ a = q ∨ a = vs
def blU (bl : Nat → List Nat) (i q : Nat) : Nat → List Nat := fun j => if j = i then q :: bl j else bl j
section BI
variable {S S' : cs_S} {ra wt bt nb n : Nat} {bl : Nat → List Nat} {Ow : Nat → Prop} {ko : Nat → Nat} {Kf : Nat → Prop} {kc : Nat → Nat → Int32 × Int32 × (Nat → Int32)} {kf : Nat → Nat} {C : Nat → Prop} {so : Nat → Option Nat} {sc : Nat → Int32 × Int32 × (Nat → Int32)} {p : Nat}
theorem bI.fx {E : Nat → Nat → Nat → Prop} {wt1 : Nat} (h : bI S ra wt bt nb n bl Ow ko Kf kc kf C so sc p) (hs : sh S wt1 E) (hwk1 : cs_k S wt1 = 26) (hF : fX E S S') (hbt : ∀ f, ¬ E 5 f bt) (hne : ∀ vs, Ow vs → vs ≠ wt → vs ≠ wt1) : bI S' ra wt bt nb n bl Ow ko Kf kc kf C so sc p := by
  obtain ⟨⟨⟨b1, b2, b3, b4, b5, b6⟩, h2, h3, h4, h5, h6, h6'⟩, h7, h8, h9⟩ := h
  obtain ⟨r1, r2, r3, r4⟩ := hs.ru hF hwk1 b1
  obtain ⟨t1, t2, -, -, -, -, -, t8⟩ := hF bt (by omega)
  obtain ⟨w1, w2, -⟩ := hF wt (by omega)
  have key : ∀ i a vs m, i < nb → a ∈ bl i → kyW S a vs m → kyW S' a vs m ∧ ∀ k, k < m → rX S' vs k = rX S vs k := fun i a vs m hi ha hk => hs.kyw hF hwk1 (by
    obtain ⟨-, -, ⟨vs', v1, v2, v3, -⟩, -⟩ := h9 i a hi ha
    have : vs' = vs := Option.some.inj (v1.symm.trans hk.2.1)
    rw [← this]
    exact hne _ v2 v3) hk
  refine ⟨⟨⟨r1, (r4 816 (by omega)).trans b2, t1.trans b3, t2.trans b4, b5, fun i hi => ⟨?_, fun a ha => ?_⟩⟩, h2, (r4 817 (by omega)).trans h3, w1.trans h4, w2.trans h5, h6, h6'⟩, fun f hf => ?_, fun o a ho hc ha => ?_, fun i a hi ha => ?_⟩
  · rw [t8 i (hbt i)]
    exact chn.fx _ _ (b6 i hi).1 (fun a ha => (hs.ky hF hwk1 (h9 i a hi ha).2.1).2.2 502 (by omega))
  · obtain ⟨vs, m, k1, k2⟩ := (b6 i hi).2 a ha
    refine ⟨vs, m, (key i a vs m hi ha k1).1, ?_⟩
    rw [(hs.ky hF hwk1 (h9 i a hi ha).2.1).2.1 501 (by omega)]; exact k2
  · obtain ⟨i, vs, k1, k2, k3, k4⟩ := h7 f hf
    obtain ⟨z1, z2⟩ := key i _ vs n k1 k2 k3
    exact ⟨i, vs, k1, k2, z1, fun k hk => (z2 k hk).trans (k4 k hk)⟩
  · obtain ⟨i, vs, k1, k2, k3, k4, k5⟩ := h8 o a ho hc ha
    obtain ⟨z1, z2⟩ := key i _ vs (n + 1) k1 k2 k3
    exact ⟨i, vs, k1, k2, z1, fun k hk => (z2 k (by omega)).trans (k4 k hk), (z2 n (by omega)).trans k5⟩
  · obtain ⟨z1, z2, ⟨vs, v1, v2, v3, v4⟩, z4⟩ := h9 i a hi ha
    obtain ⟨y1, y2, y3⟩ := hs.ky hF hwk1 z2
    exact ⟨z1, y1, ⟨vs, (y3 500 (by omega)).trans v1, v2, v3, (hF vs (by omega)).1.trans v4⟩, z4⟩
theorem bI.cong {ko' : Nat → Nat} {Ow' Kf' C' : Nat → Prop} {kc' : Nat → Nat → Int32 × Int32 × (Nat → Int32)} {kf' : Nat → Nat} {so' : Nat → Option Nat} {sc' : Nat → Int32 × Int32 × (Nat → Int32)} {p' : Nat} (h : bI S ra wt bt nb n bl Ow ko Kf kc kf C so sc p) (hO : ∀ a, cs_k S a ≠ 0 → Ow a → Ow' a) (hK : ∀ f, Kf f ↔ Kf' f) (hk : ∀ f, Kf f → ko f = ko' f ∧ ∀ k, k < n → kc f k = kc' f k) (hp : p ≤ p') (hCb : ∀ o, o < p' → C' o → so' o ≠ none → o < p ∧ C o) (hC : ∀ o, o < p → C o → so o ≠ none → C' o ∧ so o = so' o ∧ sc o = sc' o ∧ ∀ k, k < n → kc (kf o) k = kc' (kf' o) k) (hso : ∀ o a, o < p → C o → so' o = some a → so o = some a) : bI S ra wt bt nb n bl Ow' ko' Kf' kc' kf' C' so' sc' p' := by
  obtain ⟨⟨b0, h2, h3, h4, h5, h6, h6'⟩, h7, h8, h9⟩ := h
  refine ⟨⟨b0, hO _ (by rw [b0.2.2.1]; decide) h2, h3, h4, h5, hO _ (by omega) h6, h6'⟩, fun f hf => ?_, fun o a ho hc ha => ?_, fun i a hi ha => ?_⟩
  · have hf' := (hK f).mpr hf
    obtain ⟨i, vs, k1, k2, k3, k4⟩ := h7 f hf'
    obtain ⟨z1, z2⟩ := hk f hf'
    rw [← z1]
    exact ⟨i, vs, k1, k2, k3, fun k hk => (k4 k hk).trans (z2 k hk)⟩
  · obtain ⟨q1, q2⟩ := hCb o ho hc (by rw [ha]; exact fun z => nomatch z)
    have q3 := hso o a q1 q2 ha
    obtain ⟨i, vs, k1, k2, k3, k4, k5⟩ := h8 o a q1 q2 q3
    obtain ⟨-, -, z3, z4⟩ := hC o q1 q2 (by rw [q3]; exact fun z => nomatch z)
    exact ⟨i, vs, k1, k2, k3, fun k hk => (k4 k hk).trans (z4 k hk), k5.trans z3⟩
  · obtain ⟨z1, z2, z3, z4⟩ := h9 i a hi ha
    obtain ⟨vs, v1, v2, v3, v4⟩ := z3
    refine ⟨hO a (by omega) z1, z2, ⟨vs, v1, hO vs (by omega) v2, v3, v4⟩, ?_⟩
    rcases z4 with ⟨f, f1, f2⟩ | ⟨o, o1, o2, o3⟩
    · exact Or.inl ⟨f, (hK f).mp f1, by rw [← (hk f f1).1]; exact f2⟩
    · obtain ⟨y1, y2, -⟩ := hC o o1 o2 (by rw [o3]; exact fun z => nomatch z)
      exact Or.inr ⟨o, by omega, y1, by rw [← y2]; exact o3⟩
/-- what a new key leaves and brings -/
theorem bI.ins {i q vs m : Nat} (h : bI S ra wt bt nb n bl Ow ko Kf kc kf C so sc p) (hW : wnW S ra wt m) (hi : i < nb) (hfi : fm (kX (rX S wt) m) (nI nb) = nI i) (hN : kNew S S' bt i q vs m wt) :
    sh S wt (fun s f a => s = 5 ∧ f = i ∧ a = bt) ∧ kyW S' q vs m ∧ (∀ k, k < m → rX S' vs k = rX S wt k) ∧ vs ≠ wt ∧
    (bkW S' ra bt nb (blU bl i q) ∧ oV Ow q vs bt ∧ cs_r S' 817 ra = some wt ∧ cs_k S' wt = 26 ∧ cs_n S' wt = 4 ∧ oV Ow q vs wt ∧ n ≤ 3) ∧
    (∀ f, Kf f → ∃ j vs, j < nb ∧ ko f ∈ blU bl i q j ∧ kyW S' (ko f) vs n ∧ ∀ k, k < n → rX S' vs k = kc f k) ∧
    (∀ o a, o < p → C o → so o = some a → ∃ j vs, j < nb ∧ a ∈ blU bl i q j ∧ kyW S' a vs (n + 1) ∧ (∀ k, k < n → rX S' vs k = kc (kf o) k) ∧ rX S' vs n = sc o) ∧
    (∀ j a, j < nb → a ∈ blU bl i q j → a = q ∨ (oV Ow q vs a ∧ cs_k S' a = 6 ∧ (∃ vs', cs_r S' 500 a = some vs' ∧ oV Ow q vs vs' ∧ vs' ≠ wt ∧ cs_k S' vs' = 26) ∧ ((∃ f, Kf f ∧ a = ko f) ∨ ∃ o, o < p ∧ C o ∧ so o = some a))) := by
  obtain ⟨⟨⟨b1, b2, b3, b4, b5, b6⟩, h2, h3, h4, h5, h6, h6'⟩, h7, h8, h9⟩ := h
  obtain ⟨n1, n2, n3, n4, n5, n6, n7, n8, n9, n10, n11, n12, n13, n14, n15, n16⟩ := hN
  obtain ⟨w1, w2, w3, w4, w5⟩ := hW
  have hs : sh S wt (fun s f a => s = 5 ∧ f = i ∧ a = bt) := fun s f a ha z => by
    obtain ⟨-, -, rfl⟩ := z
    exact Or.inr ⟨by omega, by omega, by omega, by omega, by omega, by omega, fun y => by omega, fun y => by omega, fun y => by omega⟩
  obtain ⟨r1, r2, r3, r4⟩ := hs.ru n4 h4 b1
  obtain ⟨t1, t2, -, -, -, -, -, t8⟩ := n4 bt (by omega)
  obtain ⟨x1, x2, -, -, -, -, -, x8⟩ := n4 wt (by omega)
  have hvw : vs ≠ wt := fun e => by rw [e, h4] at n2; cases n2
  have hbw : bt ≠ wt := fun e => by rw [e, h4] at b3; cases b3
  have kq : kyW S' q vs m ∧ ∀ k, k < m → rX S' vs k = rX S wt k := by
    have row : ∀ k, k < m → ∃ va, cs_ar S' vs k = some va ∧ vK S' va ∧ rX S' vs k = rX S wt k := fun k hk => by
      obtain ⟨va, v1, v2⟩ := w5 k hk
      obtain ⟨y1, y2⟩ := hs.vk n4 h4 v2
      refine ⟨va, (n8 k hk).trans v1, y1, ?_⟩
      unfold rX
      rw [n8 k hk, v1]
      exact y2
    refine ⟨⟨n5, n9, n6, n7, w4, fun k hk => ?_, ?_⟩, fun k hk => ?_⟩
    · obtain ⟨va, v1, v2, -⟩ := row k hk
      exact ⟨va, v1, v2⟩
    · rw [n10]
      exact kX_cong (fun k hk => by obtain ⟨va, v1, v2, v3⟩ := row k hk; exact v3.symm)
    · obtain ⟨va, v1, v2, v3⟩ := row k hk
      exact v3
  have nq : ∀ a, cs_k S a = 6 → a ≠ q := fun a ha e => by rw [e, n1] at ha; cases ha
  have key : ∀ j a vs m, j < nb → a ∈ bl j → kyW S a vs m → kyW S' a vs m ∧ ∀ k, k < m → rX S' vs k = rX S vs k := fun j a vs m hj ha hk => hs.kyw n4 h4 (by
    obtain ⟨-, -, ⟨vs', v1, v2, v3, -⟩, -⟩ := h9 j a hj ha
    have : vs' = vs := Option.some.inj (v1.symm.trans hk.2.1)
    rw [← this]
    exact v3) hk
  have inU : ∀ j a, a ∈ bl j → a ∈ blU bl i q j := fun j a ha => by
    unfold blU
    split
    · exact List.mem_cons_of_mem _ ha
    · exact ha
  have outU : ∀ j a, a ∈ blU bl i q j → (a = q ∧ j = i) ∨ a ∈ bl j := fun j a ha => by
    unfold blU at ha
    split at ha
    · rename_i e
      rcases List.mem_cons.mp ha with z | z
      · exact Or.inl ⟨z, e⟩
      · exact Or.inr z
    · exact Or.inr ha
  refine ⟨hs, kq.1, kq.2, hvw, ⟨⟨r1, (r4 816 (by omega)).trans b2, t1.trans b3, t2.trans b4, b5, fun j hj => ⟨?_, fun a ha => ?_⟩⟩, Or.inl h2, (r4 817 (by omega)).trans h3, x1.trans h4, x2.trans h5, Or.inl h6, h6'⟩, fun f hf => ?_, fun o a ho hc ha => ?_, fun j a hj ha => ?_⟩
  · have old : ∀ l r, chn S 502 l r → (∀ a, a ∈ l → a ∈ bl j) → chn S' 502 l r := fun l r hl hin => chn.fx l r hl (fun a ha => (hs.ky n4 h4 (h9 j a hj (hin a ha)).2.1).2.2 502 (by omega))
    unfold blU
    by_cases c : j = i
    · subst c
      rw [if_pos rfl]
      refine ⟨n12, ?_⟩
      rw [n11]
      exact old _ _ (b6 j hj).1 (fun a ha => ha)
    · rw [if_neg c, t8 j (fun z => c z.2.1)]
      exact old _ _ (b6 j hj).1 (fun a ha => ha)
  · rcases outU j a ha with ⟨rfl, rfl⟩ | z
    · refine ⟨vs, m, kq.1, ?_⟩
      rw [n10]; exact hfi
    · obtain ⟨vs', m', k1, k2⟩ := (b6 j hj).2 a z
      refine ⟨vs', m', (key j a vs' m' hj z k1).1, ?_⟩
      rw [(hs.ky n4 h4 (h9 j a hj z).2.1).2.1 501 (by omega)]; exact k2
  · obtain ⟨j, vs', k1, k2, k3, k4⟩ := h7 f hf
    obtain ⟨z1, z2⟩ := key j _ vs' n k1 k2 k3
    exact ⟨j, vs', k1, inU j _ k2, z1, fun k hk => (z2 k hk).trans (k4 k hk)⟩
  · obtain ⟨j, vs', k1, k2, k3, k4, k5⟩ := h8 o a ho hc ha
    obtain ⟨z1, z2⟩ := key j _ vs' (n + 1) k1 k2 k3
    exact ⟨j, vs', k1, inU j _ k2, z1, fun k hk => (z2 k (by omega)).trans (k4 k hk), (z2 n (by omega)).trans k5⟩
  · rcases outU j a ha with ⟨rfl, rfl⟩ | z
    · exact Or.inl rfl
    · obtain ⟨z1, z2, ⟨vs', v1, v2, v3, v4⟩, z4⟩ := h9 j a hj z
      obtain ⟨y1, y2, y3⟩ := hs.ky n4 h4 z2
      exact Or.inr ⟨Or.inl z1, y1, ⟨vs', (y3 500 (by omega)).trans v1, Or.inl v2, v3, (n4 vs' (by omega)).1.trans v4⟩, z4⟩
end BI
section BI2
variable {S S' : cs_S} {ra wt bt nb n : Nat} {bl : Nat → List Nat} {Ow : Nat → Prop} {ko : Nat → Nat} {Kf : Nat → Prop} {kc : Nat → Nat → Int32 × Int32 × (Nat → Int32)} {kf : Nat → Nat} {C : Nat → Prop} {so : Nat → Option Nat} {sc : Nat → Int32 × Int32 × (Nat → Int32)} {p : Nat}
theorem bI.key {i q vs f0 : Nat} {Kf' : Nat → Prop} (h : bI S ra wt bt nb n bl Ow ko Kf kc kf C so sc p) (hW : wnW S ra wt n) (hi : i < nb) (hfi : fm (kX (rX S wt) n) (nI nb) = nI i) (hN : kNew S S' bt i q vs n wt) (hK : ∀ f, Kf' f ↔ Kf f ∨ f = f0) (h0 : ¬ Kf f0) (hc : ∀ k, k < n → rX S wt k = kc f0 k) : bI S' ra wt bt nb n (blU bl i q) (oV Ow q vs) (prU ko f0 q) Kf' kc kf C so sc p := by
  obtain ⟨-, j2, j3, j4, j5, j6, j7, j8⟩ := h.ins hW hi hfi hN
  have ne : ∀ f, Kf f → f ≠ f0 := fun f hf e => h0 (by rw [← e]; exact hf)
  refine ⟨j5, fun f hf => ?_, j7, fun j a hj ha => ?_⟩
  · rcases (hK f).mp hf with z | rfl
    · rw [prU_o (ne f z)]; exact j6 f z
    · rw [prU_r]
      refine ⟨i, vs, hi, ?_, j2, fun k hk => (j3 k hk).trans (hc k hk)⟩
      unfold blU
      rw [if_pos rfl]
      exact List.mem_cons_self
  · rcases j8 j a hj ha with rfl | ⟨z1, z2, z3, z4⟩
    · exact ⟨Or.inr (Or.inl rfl), j2.1, ⟨vs, j2.2.1, Or.inr (Or.inr rfl), j4, j2.2.2.1⟩, Or.inl ⟨f0, (hK f0).mpr (Or.inr rfl), by rw [prU_r]⟩⟩
    · refine ⟨z1, z2, z3, ?_⟩
      rcases z4 with ⟨f, f1, f2⟩ | z4
      · exact Or.inl ⟨f, (hK f).mpr (Or.inl f1), by rw [prU_o (ne f f1)]; exact f2⟩
      · exact Or.inr z4
theorem bI.seen {i q vs : Nat} (h : bI S ra wt bt nb n bl Ow ko Kf kc kf C so sc p) (hW : wnW S ra wt (n + 1)) (hi : i < nb) (hfi : fm (kX (rX S wt) (n + 1)) (nI nb) = nI i) (hN : kNew S S' bt i q vs (n + 1) wt) (hC : C p) (hso : so p = some q) (hc : ∀ k, k < n → rX S wt k = kc (kf p) k) (hs : rX S wt n = sc p) : bI S' ra wt bt nb n (blU bl i q) (oV Ow q vs) ko Kf kc kf C so sc (p + 1) := by
  obtain ⟨-, j2, j3, j4, j5, j6, j7, j8⟩ := h.ins hW hi hfi hN
  refine ⟨j5, j6, fun o a ho hc' ha => ?_, fun j a hj ha => ?_⟩
  · by_cases c : o = p
    · subst c
      rw [hso] at ha
      cases ha
      refine ⟨i, vs, hi, ?_, j2, fun k hk => (j3 k (by omega)).trans (hc k hk), (j3 n (by omega)).trans hs⟩
      unfold blU
      rw [if_pos rfl]
      exact List.mem_cons_self
    · exact j7 o a (by omega) hc' ha
  · rcases j8 j a hj ha with rfl | ⟨z1, z2, z3, z4⟩
    · exact ⟨Or.inr (Or.inl rfl), j2.1, ⟨vs, j2.2.1, Or.inr (Or.inr rfl), j4, j2.2.2.1⟩, Or.inr ⟨p, by omega, hC, hso⟩⟩
    · refine ⟨z1, z2, z3, ?_⟩
      rcases z4 with z4 | ⟨o, o1, o2⟩
      · exact Or.inl z4
      · exact Or.inr ⟨o, by omega, o2⟩
/-- one that was seen before -/
theorem bI.again {a i vs : Nat} (h : bI S ra wt bt nb n bl Ow ko Kf kc kf C so sc p) (hi : i < nb) (ha : a ∈ bl i) (hk : kyW S a vs (n + 1)) (hC : C p) (hso : so p = some a) (hc : ∀ k, k < n → rX S vs k = kc (kf p) k) (hs : rX S vs n = sc p) : bI S ra wt bt nb n bl Ow ko Kf kc kf C so sc (p + 1) := by
  obtain ⟨h1, h2, h3, h4⟩ := h
  refine ⟨h1, h2, fun o a' ho hc' ha' => ?_, fun j a' hj ha' => ?_⟩
  · by_cases c : o = p
    · subst c
      rw [hso] at ha'
      cases ha'
      exact ⟨i, vs, hi, ha, hk, hc, hs⟩
    · exact h3 o a' (by omega) hc' ha'
  · obtain ⟨z1, z2, z3, z4⟩ := h4 j a' hj ha'
    refine ⟨z1, z2, z3, ?_⟩
    rcases z4 with z4 | ⟨o, o1, o2⟩
    · exact Or.inl z4
    · exact Or.inr ⟨o, by omega, o2⟩
theorem bI.nop (h : bI S ra wt bt nb n bl Ow ko Kf kc kf C so sc p) (hC : C p → so p = none) : bI S ra wt bt nb n bl Ow ko Kf kc kf C so sc (p + 1) := by
  obtain ⟨h1, h2, h3, h4⟩ := h
  refine ⟨h1, h2, fun o a' ho hc' ha' => ?_, fun j a' hj ha' => ?_⟩
  · by_cases c : o = p
    · subst c
      rw [hC hc'] at ha'; cases ha'
    · exact h3 o a' (by omega) hc' ha'
  · obtain ⟨z1, z2, z3, z4⟩ := h4 j a' hj ha'
    refine ⟨z1, z2, z3, ?_⟩
    rcases z4 with z4 | ⟨o, o1, o2⟩
    · exact Or.inl z4
    · exact Or.inr ⟨o, by omega, o2⟩
end BI2
