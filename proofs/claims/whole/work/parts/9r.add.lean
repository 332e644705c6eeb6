/-! ===== the class: one more in the window ===== -/
theorem map_eo {P : Nat → Prop} {eo eo' : Nat → Nat} {lo p : Nat} (h : ∀ o, o < p → P o → eo o = eo' o) : (nx P lo p).map eo = (nx P lo p).map eo' := by
  cases c : nx P lo p with
  | none => rfl
  | some o =>
    obtain ⟨-, b, d, -⟩ := nx_some p o c
    show some (eo o) = some (eo' o)
    rw [h o b d]
theorem map_el {P : Nat → Prop} {eo eo' : Nat → Nat} {p : Nat} (h : ∀ o, o < p → P o → eo o = eo' o) : (lst P p).map eo = (lst P p).map eo' := by
  cases c : lst P p with
  | none => rfl
  | some o =>
    obtain ⟨b, d, -⟩ := lst_some p o c
    show some (eo o) = some (eo' o)
    rw [h o b d]
section CIC
variable {S S' : cs_S} {ra : Nat} {Ow : Nat → Prop} {ko eo ev kf : Nat → Nat} {C Kf : Nat → Prop} {am : Nat → Int32} {so : Nat → Option Nat} {vv : Nat → Nat} {lo p : Nat}
theorem cI.cong {ko' eo' ev' kf' : Nat → Nat} {C' Kf' Ow' : Nat → Prop} {am' : Nat → Int32} {so' : Nat → Option Nat} {vv' : Nat → Nat} (h : cI S ra Ow ko eo ev kf C Kf am so vv lo p) (hC : ∀ o, o < p → (C o ↔ C' o)) (hg : ∀ o, o < p → C o → kf o = kf' o ∧ eo o = eo' o ∧ ev o = ev' o ∧ am o = am' o ∧ so o = so' o ∧ vv o = vv' o) (hK : ∀ f, Kf f ↔ Kf' f) (hk : ∀ f, Kf f → ko f = ko' f) (hO : ∀ a, cs_k S a ≠ 0 → Ow a → Ow' a) : cI S ra Ow' ko' eo' ev' kf' C' Kf' am' so' vv' lo p := by
  obtain ⟨⟨i0, i00, i1, i2⟩, ⟨i3, i4⟩, i5, i6, ⟨i7, i8, i9, i10⟩, ⟨i11, i12⟩, i13, i14⟩ := h
  have hcK : ∀ f o, o < p → (cK C kf f o ↔ cK C' kf' f o) := fun f o ho => by
    constructor
    · rintro ⟨a, b⟩; exact ⟨(hC o ho).mp a, by rw [← (hg o ho a).1]; exact b⟩
    · rintro ⟨a, b⟩; exact ⟨(hC o ho).mpr a, by rw [(hg o ho ((hC o ho).mpr a)).1]; exact b⟩
  have hcA : ∀ f o, o < p → (cA C so f o ↔ cA C' so' f o) := fun f o ho => by
    constructor
    · rintro ⟨a, b⟩; exact ⟨(hC o ho).mp a, by rw [← (hg o ho a).2.2.2.2.1]; exact b⟩
    · rintro ⟨a, b⟩; exact ⟨(hC o ho).mpr a, by rw [(hg o ho ((hC o ho).mpr a)).2.2.2.2.1]; exact b⟩
  have heo : ∀ o, o < p → C o → eo o = eo' o := fun o ho hc => (hg o ho hc).2.1
  have hO' : ∀ a k, cs_k S a = k → k ≠ 0 → Ow a → Ow' a := fun a k h1 h2 h3 => hO a (by rw [h1]; exact h2) h3
  refine ⟨⟨i0, i00, i1, hO' _ 9 i1 (by decide) i2⟩, ⟨fun f hf => ?_, fun f f' h1 h2 h3 => ?_⟩, fun o ho hc => ?_, fun o o' h1 h2 h3 h4 h5 => ?_, ⟨?_, fun o ho hl hc => ?_, fun z hz hl => ?_, ?_⟩, ⟨fun f hf => ?_, fun o ho hc => ?_⟩, fun o a ho hc ha => ?_, fun o o' a h1 h2 h3 h4 h5 => ?_⟩
  · have hf' := (hK f).mpr hf
    rw [← hk f hf']; exact ⟨(i3 f hf').1, hO' _ 6 (i3 f hf').1 (by decide) (i3 f hf').2⟩
  · have h1' := (hK f).mpr h1
    have h2' := (hK f').mpr h2
    rw [← hk f h1', ← hk f' h2'] at h3
    exact i4 f f' h1' h2' h3
  · have hc' := (hC o ho).mpr hc
    obtain ⟨g1, g2, g3, g4, g5, g6⟩ := hg o ho hc'
    obtain ⟨x1, x2, x3, x4, x5, x6, x7, x8, x9, x10⟩ := i5 o ho hc'
    rw [← g1, ← g2, ← g3, ← g4, ← g5, ← g6]
    exact ⟨(hK _).mp x1, x2, fun a ha => ⟨(x3 a ha).1, hO' _ 6 (x3 a ha).1 (by decide) (x3 a ha).2⟩, x4, hO' _ 4 x4 (by decide) x5, x6, x7, by rw [← hk _ x1]; exact x8, x9, x10⟩
  · have h3' := (hC o h1).mpr h3
    have h4' := (hC o' h2).mpr h4
    rw [← heo o h1 h3', ← heo o' h2 h4'] at h5
    exact i6 o o' h1 h2 h3' h4' h5
  · rw [i7, ← nx_cong (fun x _ hx => hC x hx), map_eo heo]
  · have hc' := (hC o ho).mpr hc
    rw [← heo o ho hc', i8 o ho hl hc', ← nx_cong (fun x _ hx => hC x hx), map_eo heo]
  · rw [← lst_cong p hC] at hz
    obtain ⟨b, d, -⟩ := lst_some p z hz
    rw [i9 z hz hl, heo z b d]
  · rw [i10, sS_cong (P' := C') _ (fun x _ hx => ⟨hC x (by omega), fun _ => rfl⟩)]
  · have hf' := (hK f).mpr hf
    obtain ⟨f1, f2, f3, f4⟩ := i11 f hf'
    rw [← hk f hf']
    refine ⟨?_, ?_, ?_, ?_⟩
    · rw [f1, ← nx_cong (fun x _ hx => hcK f x hx), map_eo (fun o ho hc => heo o ho hc.1)]
    · rw [f2, ← lst_cong p (fun x hx => hcK f x hx), map_el (fun o ho hc => heo o ho hc.1)]
    · rw [f3]
      refine congrArg Int64.ofInt ?_
      exact sS_cong _ (fun x _ hx => ⟨hcK f x (by omega), fun hc => by show (am x).toInt = (am' x).toInt; rw [(hg x (by omega) hc.1).2.2.2.1]⟩)
    · rw [f4]
      refine congrArg yI ?_
      refine sS_cong _ (fun v _ _ => ⟨⟨?_, ?_⟩, fun _ => rfl⟩)
      · rintro ⟨o, y1, y2, y3, y4, y5, y6⟩
        obtain ⟨g1, g2, g3, g4, g5, g6⟩ := hg o y2 y3
        exact ⟨o, y1, y2, (hC o y2).mp y3, by rw [← g1]; exact y4, by rw [← g6]; exact y5, by rw [← g5]; exact y6⟩
      · rintro ⟨o, y1, y2, y3, y4, y5, y6⟩
        have y3' := (hC o y2).mpr y3
        obtain ⟨g1, g2, g3, g4, g5, g6⟩ := hg o y2 y3'
        exact ⟨o, y1, y2, y3', by rw [g1]; exact y4, by rw [g6]; exact y5, by rw [g5]; exact y6⟩
  · have hc' := (hC o ho).mpr hc
    rw [← heo o ho hc', i12 o ho hc', ← (hg o ho hc').1, ← nx_cong (fun x _ hx => hcK _ x hx), map_eo (fun o ho hc => heo o ho hc.1)]
  · have hc' := (hC o ho).mpr hc
    rw [← (hg o ho hc').2.2.2.2.1] at ha
    rw [i13 o a ho hc' ha, sS_cong _ (fun x _ hx => ⟨hcA a x (by omega), fun _ => rfl⟩)]
  · have h3' := (hC o h1).mpr h3
    have h4' := (hC o' h2).mpr h4
    obtain ⟨g1, g2, g3, g4, g5, g6⟩ := hg o h1 h3'
    obtain ⟨k1, k2, k3, k4, k5, k6⟩ := hg o' h2 h4'
    rw [← g5] at h5
    rw [← g1, ← g6, ← k1, ← k5, ← k6]
    exact i14 o o' a h1 h2 h3' h4' h5
/-- what is left alone -/
theorem cI.fx {E : Nat → Nat → Nat → Prop} (h : cI S ra Ow ko eo ev kf C Kf am so vv lo p) (hF : fX E S S') (hE : ∀ s f a, E s f a → Ow a → ((cs_k S a = 9 ∧ f ≠ 813 ∧ f ≠ 814 ∧ f ≠ 815) ∨ (cs_k S a = 6 ∧ f ≠ 505 ∧ f ≠ 506 ∧ f ≠ 509 ∧ f ≠ 510 ∧ f ≠ 511) ∨ (cs_k S a ≠ 4 ∧ cs_k S a ≠ 6 ∧ cs_k S a ≠ 9))) : cI S' ra Ow ko eo ev kf C Kf am so vv lo p := by
  obtain ⟨⟨i0, i00, i1, i2⟩, ⟨i3, i4⟩, i5, i6, ⟨i7, i8, i9, i10⟩, ⟨i11, i12⟩, i13, i14⟩ := h
  have k4 : ∀ x, cs_k S x = 4 → Ow x → cs_k S' x = 4 ∧ (∀ f, cs_i S' f x = cs_i S f x) ∧ (∀ f, cs_r S' f x = cs_r S f x) := fun x hx ho => by
    obtain ⟨a1, a2, a3, a4, a5, -⟩ := hF x (by omega)
    have hno : ∀ s f, ¬ E s f x := fun s f z => by
      have := hE s f x z ho
      omega
    exact ⟨a1.trans hx, fun f => a3 f (hno _ _), fun f => a5 f (hno _ _)⟩
  have k6 : ∀ x, cs_k S x = 6 → Ow x → cs_k S' x = 6 ∧ cs_i S' 510 x = cs_i S 510 x ∧ cs_i S' 511 x = cs_i S 511 x ∧ cs_l S' 509 x = cs_l S 509 x ∧ cs_r S' 505 x = cs_r S 505 x ∧ cs_r S' 506 x = cs_r S 506 x := fun x hx ho => by
    obtain ⟨a1, a2, a3, a4, a5, -⟩ := hF x (by omega)
    have hno : ∀ s f, (f = 505 ∨ f = 506 ∨ f = 509 ∨ f = 510 ∨ f = 511) → ¬ E s f x := fun s f hf z => by
      have := hE s f x z ho
      omega
    exact ⟨a1.trans hx, a3 _ (hno _ _ (by omega)), a3 _ (hno _ _ (by omega)), a4 _ (hno _ _ (by omega)), a5 _ (hno _ _ (by omega)), a5 _ (hno _ _ (by omega))⟩
  obtain ⟨a1, a2, a3, a4, a5, -⟩ := hF ra (by omega)
  have hno : ∀ s f, (f = 813 ∨ f = 814 ∨ f = 815) → ¬ E s f ra := fun s f hf z => by
    have := hE s f ra z i2
    omega
  refine ⟨⟨i0, i00, a1.trans i1, i2⟩, ⟨fun f hf => ⟨(k6 _ (i3 f hf).1 (i3 f hf).2).1, (i3 f hf).2⟩, i4⟩, fun o ho hc => ?_, i6, ⟨?_, fun o ho hl hc => ?_, fun z hz hl => ?_, ?_⟩, ⟨fun f hf => ?_, fun o ho hc => ?_⟩, fun o a ho hc ha => ?_, i14⟩
  · obtain ⟨x1, x2, x3, x4, x5, x6, x7, x8, x9, x10⟩ := i5 o ho hc
    obtain ⟨b1, b2, b3⟩ := k4 _ x4 x5
    exact ⟨x1, x2, fun a ha => ⟨(k6 a (x3 a ha).1 (x3 a ha).2).1, (x3 a ha).2⟩, b1, x5, (hF _ (by omega)).1.trans x6, (b3 _).trans x7, (b3 _).trans x8, (b2 _).trans x9, (b3 _).trans x10⟩
  · rw [a5 814 (hno _ _ (by omega))]; exact i7
  · obtain ⟨x1, x2, x3, x4, x5, -⟩ := i5 o ho hc
    rw [(k4 _ x4 x5).2.2]; exact i8 o ho hl hc
  · rw [a5 815 (hno _ _ (by omega))]; exact i9 z hz hl
  · rw [a3 813 (hno _ _ (by omega))]; exact i10
  · obtain ⟨b1, b2, b3, b4, b5, b6⟩ := k6 _ (i3 f hf).1 (i3 f hf).2
    rw [b2, b4, b5, b6]; exact i11 f hf
  · obtain ⟨x1, x2, x3, x4, x5, -⟩ := i5 o ho hc
    rw [(k4 _ x4 x5).2.2]; exact i12 o ho hc
  · obtain ⟨x1, x2, x3, -⟩ := i5 o ho hc
    rw [(k6 a (x3 a ha).1 (x3 a ha).2).2.2.1]; exact i13 o a ho hc ha
/-- an event that does not count -/
theorem cI.nop (h : cI S ra Ow ko eo ev kf C Kf am so vv lo p) (hp : p < 4000) (hc : ¬ C p) : cI S ra Ow ko eo ev kf C Kf am so vv lo (p + 1) := by
  obtain ⟨⟨i0, i00, i1, i2⟩, ⟨i3, i4⟩, i5, i6, ⟨i7, i8, i9, i10⟩, ⟨i11, i12⟩, i13, i14⟩ := h
  have lt : ∀ o, o < p + 1 → C o → o < p := fun o ho hc' => by
    by_cases e : o = p
    · rw [e] at hc'; exact absurd hc' hc
    · omega
  have hcK : ∀ f, ¬ cK C kf f p := fun f z => hc z.1
  refine ⟨⟨by omega, by omega, i1, i2⟩, ⟨i3, i4⟩, fun o ho h1 => i5 o (lt o ho h1) h1, fun o o' h1 h2 h3 h4 => i6 o o' (lt o h1 h3) (lt o' h2 h4) h3 h4, ⟨?_, fun o ho hl h1 => ?_, fun z hz hl => ?_, ?_⟩, ⟨fun f hf => ?_, fun o ho h1 => ?_⟩, fun o a ho h1 ha => ?_, fun o o' a h1 h2 h3 h4 => i14 o o' a (lt o h1 h3) (lt o' h2 h4) h3 h4⟩
  · rw [nx_pass hc]; exact i7
  · rw [nx_pass hc]; exact i8 o (lt o ho h1) hl h1
  · rw [lst_no hc] at hz; exact i9 z hz hl
  · rw [sS_nst i0 hc]; exact i10
  · rw [nx_pass (hcK f), lst_no (hcK f), sS_nst i0 (hcK f)]
    obtain ⟨f1, f2, f3, f4⟩ := i11 f hf
    refine ⟨f1, f2, f3, ?_⟩
    rw [f4]
    refine congrArg yI ?_
    refine sS_cong _ (fun v _ _ => ⟨⟨?_, ?_⟩, fun _ => rfl⟩)
    · rintro ⟨o, y1, y2, y3⟩; exact ⟨o, y1, by omega, y3⟩
    · rintro ⟨o, y1, y2, y3⟩; exact ⟨o, y1, lt o y2 y3.1, y3⟩
  · rw [nx_pass (hcK _)]; exact i12 o (lt o ho h1) h1
  · rw [sS_nst i0 (fun z => hc z.1)]; exact i13 o a (lt o ho h1) h1 ha
/-- a key more -/
theorem cI.key {Kf' : Nat → Prop} (h : cI S ra Ow ko eo ev kf C Kf am so vv lo p) {f0 : Nat} (hK : ∀ f, Kf' f ↔ Kf f ∨ f = f0) (h0 : cs_k S (ko f0) = 6 ∧ Ow (ko f0)) (hne : ∀ f, Kf f → ko f ≠ ko f0) (hno : ∀ o, o < p → C o → kf o ≠ f0) (h5 : cs_r S 505 (ko f0) = none) (h6 : cs_r S 506 (ko f0) = none) (h9 : cs_l S 509 (ko f0) = 0) (h10 : cs_i S 510 (ko f0) = 0) : cI S ra Ow ko eo ev kf C Kf' am so vv lo p := by
  obtain ⟨⟨i0, i00, i1, i2⟩, ⟨i3, i4⟩, i5, i6, i7, ⟨i11, i12⟩, i13, i14⟩ := h
  refine ⟨⟨i0, i00, i1, i2⟩, ⟨fun f hf => ?_, fun f f' h1 h2 h3 => ?_⟩, fun o ho hc => ?_, i6, i7, ⟨fun f hf => ?_, i12⟩, i13, i14⟩
  · rcases (hK f).mp hf with z | z
    · exact i3 f z
    · rw [z]; exact h0
  · rcases (hK f).mp h1 with z | z
    · rcases (hK f').mp h2 with y | y
      · exact i4 f f' z y h3
      · rw [y] at h3; exact absurd h3 (hne f z)
    · rcases (hK f').mp h2 with y | y
      · rw [z] at h3; exact absurd h3.symm (hne f' y)
      · rw [z, y]
  · obtain ⟨x1, x2⟩ := i5 o ho hc
    exact ⟨(hK _).mpr (Or.inl x1), x2⟩
  · rcases (hK f).mp hf with z | z
    · exact i11 f z
    · subst z
      have e : ∀ o, o < p → ¬ cK C kf f o := fun o ho hc => hno o ho hc.1 hc.2
      rw [nx_no (fun o _ ho => e o ho), lst_of_none p e, h5, h6, h9, h10, sS_zero (P := cK C kf f) _ (fun o _ ho => e o (by omega)), sS_zero (P := dV C kf so vv lo p f)]
      · exact ⟨rfl, rfl, rfl, rfl⟩
      · rintro v - - ⟨o, y1, y2, y3, y4, y5⟩
        exact hno o y2 y3 y4
end CIC
/-- a new entry -/
def enD (S S' : cs_S) (q ea a : Nat) (x : Int32) (s : Option Nat) : Prop := cs_k S q = 0 ∧ fX (fun _ _ _ => False) S S' ∧ cs_k S' q = 4 ∧ cs_r S' 300 q = some ea ∧ cs_r S' 301 q = some a ∧ cs_i S' 302 q = x ∧ cs_r S' 303 q = s ∧ cs_r S' 304 q = none ∧ cs_r S' 305 q = none
/-- what is told of the window anew -/
def ufD (S S' : cs_S) (a : Nat) (x : Int32) (s : Option Nat) : Prop :=
  sI (fun f y => (f = 508 ∧ y = a) ∨ (f = 510 ∧ y = a) ∨ (f = 511 ∧ s = some y)) S S' ∧
  (∀ f y, ¬ (f = 509 ∧ y = a) → cs_l S' f y = cs_l S f y) ∧ cs_l S' 509 a = cs_l S 509 a + x.toInt64 ∧
  (∀ f y, ¬ (f = 507 ∧ y = a) → cs_r S' f y = cs_r S f y) ∧ (s = none → cs_i S' 510 a = cs_i S 510 a) ∧
  (∀ c, s = some c → cs_i S' 511 c = cs_i S 511 c + 1 ∧ (cs_i S 511 c + 1 = 1 → cs_i S' 510 a = cs_i S 510 a + 1) ∧ (¬ cs_i S 511 c + 1 = 1 → cs_i S' 510 a = cs_i S 510 a))
section CIA
variable {S S1 S2 S3 : cs_S} {ra : Nat} {Ow : Nat → Prop} {ko eo ev kf : Nat → Nat} {C Kf : Nat → Prop} {am : Nat → Int32} {so : Nat → Option Nat} {vv : Nat → Nat} {lo p : Nat}
theorem cI.ad (h : cI S ra Ow ko eo ev kf C Kf am so vv lo p) (hp : p < 4000) (hc : C p) (hkf : Kf (kf p)) (hvv : vv p < 32000) (hev : cs_k S (ev p) = 5) (hOw : Ow (eo p))
    (hso : ∀ c, so p = some c → cs_k S c = 6 ∧ Ow c ∧ cs_i S 511 c = yI (sS (cA C so c) (fun _ => 1) lo (p - lo)) ∧ ∀ o, o < p → C o → (so o = some c ↔ kf o = kf p ∧ vv o = vv p)) (hsn : so p = none → ∀ o, o < p → C o → so o = none)
    (h1 : enD S S1 (eo p) (ev p) (ko (kf p)) (am p) (so p)) (h2 : kpD S1 S2 ra (ko (kf p)) (eo p)) (h3 : ufD S2 S3 (ko (kf p)) (am p) (so p)) : cI S3 ra Ow ko eo ev kf C Kf am so vv lo (p + 1) := by
  obtain ⟨⟨i0, i00, i1, i2⟩, ⟨i3, i4⟩, i5, i6, ⟨i7, i8, i9, i10⟩, ⟨i11, i12⟩, i13, i14⟩ := id h
  obtain ⟨e1, e2, e3, e4, e5, e6, e7, e8, e9⟩ := h1
  obtain ⟨k1, k2, k3, k4, k5, k6, k7, k8, k9, k10, k11, k12, k13, k14⟩ := h2
  obtain ⟨u1, u2, u3, u4, u5, u6⟩ := h3
  obtain ⟨s1, s2, s3, -⟩ := k1
  obtain ⟨t1, t2, t3, -⟩ := u1
  -- what was there is there
  have live : ∀ x, cs_k S x ≠ 0 → cs_k S1 x = cs_k S x ∧ (∀ f, cs_i S1 f x = cs_i S f x) ∧ (∀ f, cs_l S1 f x = cs_l S f x) ∧ (∀ f, cs_r S1 f x = cs_r S f x) := fun x hx => by
    obtain ⟨a1, a2, a3, a4, a5, -⟩ := e2 x hx
    exact ⟨a1, fun f => a3 f id, fun f => a4 f id, fun f => a5 f id⟩
  have hK : ∀ x, cs_k S3 x = cs_k S1 x := fun x => (t1 x).trans (s1 x)
  have lk : ∀ x n, cs_k S x = n → n ≠ 0 → cs_k S3 x = n := fun x n h1 h2 => by rw [hK, (live x (by rw [h1]; exact h2)).1]; exact h1
  have lra := live ra (by omega)
  have lko : ∀ f, Kf f → _ := fun f hf => live (ko f) (by rw [(i3 f hf).1]; decide)
  have leo : ∀ o, o < p → C o → _ := fun o ho hc => live (eo o) (by rw [(i5 o ho hc).2.2.2.1]; decide)
  have hq : ∀ o, o < p → C o → eo o ≠ eo p := fun o ho hc q => by
    have := (i5 o ho hc).2.2.2.1
    rw [q, e1] at this; cases this
  have r815 : cs_r S1 815 ra = cs_r S 815 ra := lra.2.2.2 815
  have r814 : cs_r S1 814 ra = cs_r S 814 ra := lra.2.2.2 814
  have r505 : ∀ f, Kf f → cs_r S1 505 (ko f) = (nx (cK C kf f) lo p).map eo := fun f hf => ((lko f hf).2.2.2 505).trans (i11 f hf).1
  have r506 : ∀ f, Kf f → cs_r S1 506 (ko f) = (lst (cK C kf f) p).map eo := fun f hf => ((lko f hf).2.2.2 506).trans (i11 f hf).2.1
  have cKp : cK C kf (kf p) p := ⟨hc, rfl⟩
  have sel : ∀ o, o < p + 1 → o = p ∨ o < p := fun o ho => by omega
  -- the queue of the rule
  have qn : nx C lo p = none → cs_r S3 814 ra = some (eo p) ∧ ∀ x, cs_r S3 304 x = cs_r S1 304 x := fun hn => by
    rw [hn] at i7
    obtain ⟨z1, z2⟩ := k6 (Or.inr (r814.trans i7))
    exact ⟨by rw [u4 814 ra (fun z => absurd z.1 (by decide))]; exact z1, fun x => by rw [u4 304 x (fun z => absurd z.1 (by decide))]; exact z2 x⟩
  have qs : ∀ o, nx C lo p = some o → ∃ z, lst C p = some z ∧ lo ≤ z ∧ cs_r S3 814 ra = some (eo o) ∧ cs_r S3 304 (eo z) = some (eo p) ∧ ∀ x, x ≠ eo z → cs_r S3 304 x = cs_r S1 304 x := fun o ho => by
    obtain ⟨n1, n2, n3, n4⟩ := nx_some p o ho
    cases hl : lst C p with
    | none => exact absurd n3 (lst_none p hl o n2)
    | some z =>
      obtain ⟨l1, l2, l3⟩ := lst_some p z hl
      have hlz : lo ≤ z := by
        have : ¬ z < o := fun q => l3 o q n2 n3
        omega
      have i7' : cs_r S 814 ra = some (eo o) := by rw [i7, ho]; rfl
      obtain ⟨z1, z2, z3⟩ := k7 (eo z) (r815.trans (i9 z hl hlz)) (by rw [r814, i7']; exact fun q => nomatch q)
      exact ⟨z, rfl, hlz, by rw [u4 814 ra (fun z => absurd z.1 (by decide)), z1, r814]; exact i7', by rw [u4 304 _ (fun z => absurd z.1 (by decide))]; exact z2, fun x hx => by rw [u4 304 x (fun z => absurd z.1 (by decide))]; exact z3 x hx⟩
  -- the queue of the key
  have kn : lst (cK C kf (kf p)) p = none → ∀ x, cs_r S3 305 x = cs_r S1 305 x := fun hn x => by
    have := r506 _ hkf
    rw [hn] at this
    rw [u4 305 x (fun z => absurd z.1 (by decide))]; exact k13 this x
  have ks : ∀ z, lst (cK C kf (kf p)) p = some z → cs_r S3 305 (eo z) = some (eo p) ∧ ∀ x, x ≠ eo z → cs_r S3 305 x = cs_r S1 305 x := fun z hz => by
    have := r506 _ hkf
    rw [hz] at this
    obtain ⟨z1, z2⟩ := k14 (eo z) this
    exact ⟨by rw [u4 305 _ (fun z => absurd z.1 (by decide))]; exact z1, fun x hx => by rw [u4 305 x (fun z => absurd z.1 (by decide))]; exact z2 x hx⟩
  have cnt : ∀ a, (0 : Int) ≤ sS (cA C so a) (fun _ => 1) lo (p - lo) ∧ sS (cA C so a) (fun _ => 1) lo (p - lo) < 4001 := fun a => by
    have := sS_cn (P := cA C so a) (lo := lo) (r := p - lo)
    omega
  have i511 : ∀ a, cs_k S a = 6 → so p ≠ some a → cs_i S3 511 a = cs_i S 511 a := fun a ha hn => by
    rw [t3 511 a (fun z => by rcases z with z | z | z <;> first | exact absurd z.1 (by decide) | exact hn z.2), s3 511 a (fun z => absurd z.1 (by decide)), (live a (by omega)).2.1]
  have j511 : ∀ c, so p = some c → cs_i S2 511 c = yI (sS (cA C so c) (fun _ => 1) lo (p - lo)) := fun c hcc => by
    obtain ⟨x1, x2, x3, -⟩ := hso c hcc
    rw [s3 511 c (fun z => absurd z.1 (by decide)), (live c (by omega)).2.1, x3]
  have i510 : ∀ f, Kf f → cs_i S2 510 (ko f) = cs_i S 510 (ko f) := fun f hf => by
    rw [s3 510 _ (fun z => absurd z.1 (by decide)), (lko f hf).2.1]
  refine ⟨⟨by omega, by omega, lk ra 9 i1 (by decide), i2⟩, ⟨fun f hf => ⟨lk _ 6 (i3 f hf).1 (by decide), (i3 f hf).2⟩, i4⟩, fun o ho h1 => ?_, fun o o' h1 h2 h3 h4 h5 => ?_, ⟨?_, fun o ho hl h1 => ?_, fun z hz hl => ?_, ?_⟩, ⟨fun f hf => ?_, fun o ho h1 => ?_⟩, fun o a ho h1 ha => ?_, fun o o' a h1 h2 h3 h4 h5 => ?_⟩
  · rcases sel o ho with rfl | ho'
    · refine ⟨hkf, hvv, fun a ha => ⟨lk _ 6 (hso a ha).1 (by decide), (hso a ha).2.1⟩, by rw [hK]; exact e3, hOw, lk _ 5 hev (by decide), ?_, ?_, ?_, ?_⟩
      · rw [u4 300 _ (fun z => absurd z.1 (by decide)), k3 300 _ (by decide) (by decide) (by decide) (by decide) (by decide) (by decide)]; exact e4
      · rw [u4 301 _ (fun z => absurd z.1 (by decide)), k3 301 _ (by decide) (by decide) (by decide) (by decide) (by decide) (by decide)]; exact e5
      · rw [t3 302 _ (fun z => by omega), s3 302 _ (fun z => by omega)]; exact e6
      · rw [u4 303 _ (fun z => absurd z.1 (by decide)), k3 303 _ (by decide) (by decide) (by decide) (by decide) (by decide) (by decide)]; exact e7
    · obtain ⟨x1, x2, x3, x4, x5, x6, x7, x8, x9, x10⟩ := i5 o ho' h1
      obtain ⟨b1, b2, b3, b4⟩ := leo o ho' h1
      refine ⟨x1, x2, fun a ha => ⟨lk _ 6 (x3 a ha).1 (by decide), (x3 a ha).2⟩, lk _ 4 x4 (by decide), x5, lk _ 5 x6 (by decide), ?_, ?_, ?_, ?_⟩
      · rw [u4 300 _ (fun z => absurd z.1 (by decide)), k3 300 _ (by decide) (by decide) (by decide) (by decide) (by decide) (by decide), b4]; exact x7
      · rw [u4 301 _ (fun z => absurd z.1 (by decide)), k3 301 _ (by decide) (by decide) (by decide) (by decide) (by decide) (by decide), b4]; exact x8
      · rw [t3 302 _ (fun z => by omega), s3 302 _ (fun z => by omega), b2]; exact x9
      · rw [u4 303 _ (fun z => absurd z.1 (by decide)), k3 303 _ (by decide) (by decide) (by decide) (by decide) (by decide) (by decide), b4]; exact x10
  · rcases sel o h1 with rfl | h1'
    · rcases sel o' h2 with rfl | h2'
      · rfl
      · exact absurd h5.symm (hq o' h2' h4)
    · rcases sel o' h2 with rfl | h2'
      · exact absurd h5 (hq o h1' h3)
      · exact i6 o o' h1' h2' h3 h4 h5
  · cases hn : nx C lo p with
    | none => rw [nx_y hn i0 hc]; exact (qn hn).1
    | some o =>
      obtain ⟨z, -, -, z1, -⟩ := qs o hn
      rw [nx_s hn]; exact z1
  · rcases sel o ho with rfl | ho'
    · rw [nx_no (lo := o + 1) (fun x h1 h2 => absurd h1 (by omega))]
      cases hn : nx C lo o with
      | none => rw [(qn hn).2]; exact e8
      | some y =>
        obtain ⟨z, z1, -, -, -, z4⟩ := qs y hn
        obtain ⟨l1, l2, -⟩ := lst_some o z z1
        rw [z4 _ (Ne.symm (hq z l1 l2))]; exact e8
    · cases hn : nx C lo p with
      | none => exact absurd h1 (nx_none p hn o hl ho')
      | some y =>
        obtain ⟨z, z1, z2, -, z3, z4⟩ := qs y hn
        obtain ⟨l1, l2, l3⟩ := lst_some p z z1
        by_cases c : o = z
        · subst c
          rw [nx_y (nx_no (fun x h1 h2 => l3 x (by omega) h2)) (by omega) hc]; exact z3
        · have hoz : o < z := by
            have : ¬ z < o := fun q => l3 o q ho' h1
            omega
          rw [z4 _ (fun q => c (i6 o z ho' l1 h1 l2 q)), (leo o ho' h1).2.2.2, i8 o ho' hl h1]
          cases hy : nx C (o + 1) p with
          | none => exact absurd l2 (nx_none p hy z (by omega) l1)
          | some y' => rw [nx_s hy]
  · rw [lst_yes hc] at hz
    cases hz
    rw [u4 815 _ (fun z => absurd z.1 (by decide))]; exact k5
  · rw [sS_lst i0 hc, t3 813 _ (fun z => by omega), k8, lra.2.1, i10, yI_1]
  · obtain ⟨f1, f2, f3, f4⟩ := i11 f hf
    obtain ⟨b1, b2, b3, b4⟩ := lko f hf
    by_cases c : f = kf p
    · subst c
      have x505 := r505 _ hkf
      refine ⟨?_, ?_, ?_, ?_⟩
      · rw [u4 505 _ (fun z => absurd z.1 (by decide))]
        cases hn : nx (cK C kf (kf p)) lo p with
        | none => rw [hn] at x505; rw [nx_y hn i0 cKp]; exact k11 x505
        | some y => rw [hn] at x505; rw [nx_s hn, k12 (by rw [x505]; exact fun q => nomatch q)]; exact x505
      · rw [u4 506 _ (fun z => absurd z.1 (by decide)), lst_yes cKp]; exact k10
      · rw [u3, k2, b3, f3, z_add, sS_lst i0 cKp]
      · cases hs : so p with
        | none =>
          rw [u5 hs, i510 _ hkf, f4]
          refine congrArg yI ?_
          refine sS_cong _ (fun v _ _ => ⟨⟨?_, ?_⟩, fun _ => rfl⟩)
          · rintro ⟨o, y1, y2, y3⟩; exact ⟨o, y1, by omega, y3⟩
          · rintro ⟨o, y1, y2, y3, y4, y5, y6⟩
            rcases sel o y2 with rfl | y2'
            · exact absurd hs y6
            · exact ⟨o, y1, y2', y3, y4, y5, y6⟩
        | some a =>
          obtain ⟨x1, x2, x3, x4⟩ := hso a hs
          obtain ⟨-, z1, z2⟩ := u6 a hs
          rw [j511 a hs, yI_1] at z1 z2
          have hcn := cnt a
          by_cases c0 : ∃ y, lo ≤ y ∧ y < p ∧ cA C so a y
          · obtain ⟨y, y1, y2, y3⟩ := c0
            have g1 := sS_pos (P := cA C so a) y1 y2 y3
            have g3 : ¬ yI (sS (cA C so a) (fun _ => 1) lo (p - lo) + 1) = 1 := fun q => by
              rw [yI_e (by omega) (by omega)] at q
              have : (1 : Int32).toInt = 1 := by decide
              omega
            rw [z2 g3, i510 _ hkf, f4]
            refine congrArg yI ?_
            refine sS_cong _ (fun v _ _ => ⟨⟨?_, ?_⟩, fun _ => rfl⟩)
            · rintro ⟨x, x1, x2, x3⟩; exact ⟨x, x1, by omega, x3⟩
            · rintro ⟨x, w1, w2, w3, w4, w5, w6⟩
              rcases sel x w2 with rfl | w2'
              · have := (x4 y y2 y3.1).mp y3.2
                exact ⟨y, y1, y2, y3.1, this.1, by rw [← w5]; exact this.2, by rw [y3.2]; exact fun q => nomatch q⟩
              · exact ⟨x, w1, w2', w3, w4, w5, w6⟩
          · have g1 : sS (cA C so a) (fun _ => 1) lo (p - lo) = 0 := sS_zero _ (fun x h1 h2 h3 => c0 ⟨x, h1, by omega, h3⟩)
            rw [g1] at z1
            rw [z1 rfl, i510 _ hkf, f4, yI_1]
            refine congrArg yI ?_
            have := sS_upd (P := dV C kf so vv lo p (kf p)) (P' := dV C kf so vv lo (p + 1) (kf p)) (v0 := vv p) (N := 32000) hvv (fun v hv => ⟨?_, ?_⟩) ?_ ?_
            · exact this.symm
            · rintro ⟨x, x1, x2, x3⟩; exact ⟨x, x1, by omega, x3⟩
            · rintro ⟨x, w1, w2, w3, w4, w5, w6⟩
              rcases sel x w2 with rfl | w2'
              · exact absurd w5.symm hv
              · exact ⟨x, w1, w2', w3, w4, w5, w6⟩
            · rintro ⟨x, w1, w2, w3, w4, w5, w6⟩
              exact c0 ⟨x, w1, w2, w3, (x4 x w2 w3).mpr ⟨w4, w5⟩⟩
            · exact ⟨p, i0, by omega, hc, rfl, rfl, by rw [hs]; exact fun q => nomatch q⟩
    · have hne : ko f ≠ ko (kf p) := fun q => c (i4 _ _ hf hkf q)
      have nc : ¬ cK C kf f p := fun z => c z.2.symm
      rw [nx_pass nc, lst_no nc, sS_nst i0 nc, u4 505 _ (fun z => absurd z.1 (by decide)), u4 506 _ (fun z => absurd z.1 (by decide)), (k9 _ hne).1, (k9 _ hne).2, b4, b4, u2 509 _ (fun z => hne z.2), k2, b3, t3 510 _ (fun z => ?_), i510 f hf]
      · refine ⟨f1, f2, f3, ?_⟩
        rw [f4]
        refine congrArg yI ?_
        refine sS_cong _ (fun v _ _ => ⟨⟨?_, ?_⟩, fun _ => rfl⟩)
        · rintro ⟨o, y1, y2, y3⟩; exact ⟨o, y1, by omega, y3⟩
        · rintro ⟨o, y1, y2, y3, y4, y5⟩
          rcases sel o y2 with rfl | y2'
          · exact absurd y4.symm c
          · exact ⟨o, y1, y2', y3, y4, y5⟩
      · rcases z with z | z | z
        · exact absurd z.1 (by decide)
        · exact hne z.2
        · exact absurd z.1 (by decide)
  · rcases sel o ho with rfl | ho'
    · rw [nx_no (lo := o + 1) (fun x h1 h2 => absurd h1 (by omega))]
      cases hn : lst (cK C kf (kf o)) o with
      | none => rw [kn hn]; exact e9
      | some z =>
        obtain ⟨l1, l2, -⟩ := lst_some o z hn
        rw [(ks z hn).2 _ (Ne.symm (hq z l1 l2.1))]; exact e9
    · have old : cs_r S1 305 (eo o) = (nx (cK C kf (kf o)) (o + 1) p).map eo := ((leo o ho' h1).2.2.2 305).trans (i12 o ho' h1)
      by_cases c : kf o = kf p
      · cases hn : lst (cK C kf (kf p)) p with
        | none => exact absurd ⟨h1, c⟩ (lst_none p hn o ho')
        | some z =>
          obtain ⟨l1, l2, l3⟩ := lst_some p z hn
          obtain ⟨z1, z2⟩ := ks z hn
          by_cases c1 : o = z
          · subst c1
            rw [c, nx_y (nx_no (fun x h1 h2 => l3 x (by omega) h2)) (by omega) cKp]; exact z1
          · have hoz : o < z := by
              have : ¬ z < o := fun q => l3 o q ho' ⟨h1, c⟩
              omega
            rw [z2 _ (fun q => c1 (i6 o z ho' l1 h1 l2.1 q)), old, c]
            cases hy : nx (cK C kf (kf p)) (o + 1) p with
            | none => exact absurd l2 (nx_none p hy z (by omega) l1)
            | some y' => rw [nx_s hy]
      · rw [nx_pass (fun z => c z.2.symm)]
        cases hn : lst (cK C kf (kf p)) p with
        | none => rw [kn hn]; exact old
        | some z =>
          obtain ⟨l1, l2, l3⟩ := lst_some p z hn
          rw [(ks z hn).2 _ (fun q => c (by rw [i6 o z ho' l1 h1 l2.1 q]; exact l2.2))]; exact old
  · by_cases c : so p = some a
    · rw [(u6 a c).1, j511 a c, yI_1, sS_lst i0 ⟨hc, c⟩]
    · have ho' : o < p := by
        rcases sel o ho with rfl | ho'
        · exact absurd ha c
        · exact ho'
      rw [i511 a ((i5 o ho' h1).2.2.1 a ha).1 c, i13 o a ho' h1 ha, sS_nst i0 (fun z => c z.2)]
  · rcases sel o h1 with rfl | h1'
    · rcases sel o' h2 with rfl | h2'
      · exact ⟨fun _ => ⟨rfl, rfl⟩, fun _ => h5⟩
      · have := (hso a h5).2.2.2 o' h2' h4
        rw [this]
        exact ⟨fun z => ⟨z.1.symm, z.2.symm⟩, fun z => ⟨z.1.symm, z.2.symm⟩⟩
    · rcases sel o' h2 with rfl | h2'
      · constructor
        · intro q
          exact ((hso a q).2.2.2 o h1' h3).mp h5
        · intro q
          cases hs : so o' with
          | none => rw [hsn hs o h1' h3] at h5; cases h5
          | some c =>
            have := ((hso c hs).2.2.2 o h1' h3).mpr q
            rw [this] at h5; exact h5
      · exact i14 o o' a h1' h2' h3 h4 h5
end CIA
