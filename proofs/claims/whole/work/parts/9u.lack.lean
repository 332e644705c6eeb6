/-! ===== the class: what waits ===== -/
theorem sS_dis {P P1 P2 : Nat → Prop} {v : Nat → Int} {lo : Nat} : ∀ r, (∀ x, lo ≤ x → x < lo + r → ((P x ↔ P1 x ∨ P2 x) ∧ ¬ (P1 x ∧ P2 x))) → sS P v lo r = sS P1 v lo r + sS P2 v lo r := by
  intro r
  induction r with
  | zero => intro _; rfl
  | succ r ih =>
    intro h
    have h1 := ih (fun x a b => h x a (by omega))
    obtain ⟨h2, h3⟩ := h (lo + r) (by omega) (by omega)
    rw [sS, sS, sS, h1]
    by_cases c1 : P1 (lo + r)
    · have c2 : ¬ P2 (lo + r) := fun z => h3 ⟨c1, z⟩
      rw [one_y (h2.mpr (Or.inl c1)), one_y c1, one_n c2]
      simp; omega
    · by_cases c2 : P2 (lo + r)
      · rw [one_y (h2.mpr (Or.inr c2)), one_n c1, one_y c2]
        simp; omega
      · rw [one_n (fun z => by rcases h2.mp z with q | q <;> contradiction), one_n c1, one_n c2]
        simp
theorem yI_s (a b : Int) : yI a - yI b = yI (a - b) := by
  unfold yI
  rw [Int32.ofInt_sub]
theorem bt_2 : ∀ B, B < 64 → ((nI B &&& 1 = 0 ↔ B.testBit 0 = false) ∧ (nI B &&& 2 = 0 ↔ B.testBit 1 = false)) := by decide +kernel
def lA (C : Nat → Prop) (kf an : Nat → Nat) (o : Nat) : Prop := C o ∧ ¬ o < an (kf o)
def lW (C : Nat → Prop) (kf an : Nat → Nat) (f o : Nat) : Prop := C o ∧ kf o = f ∧ ¬ o < an f
/-- the queue of what waits: C what waits or waited, an: answered below -/
def lcI (S : cs_S) (ra : Nat) (Ow : Nat → Prop) (ko eo ev kf an : Nat → Nat) (C Kf : Nat → Prop) (lo p : Nat) : Prop :=
  (lo ≤ p ∧ p ≤ 4000 ∧ cs_k S ra = 9 ∧ Ow ra) ∧
  ((∀ f, Kf f → cs_k S (ko f) = 6 ∧ Ow (ko f) ∧ cs_i S 514 (ko f) = nI (an f) ∧ an f ≤ p ∧ cs_i S 513 (ko f) = yI (sS (lW C kf an f) (fun _ => 1) lo (p - lo))) ∧ ∀ f f', Kf f → Kf f' → ko f = ko f' → f = f') ∧
  (∀ o, o < p → C o → Kf (kf o) ∧ cs_k S (eo o) = 4 ∧ Ow (eo o) ∧ cs_k S (ev o) = 5 ∧ cs_r S 300 (eo o) = some (ev o) ∧ cs_r S 301 (eo o) = some (ko (kf o))) ∧
  (∀ o o', o < p → o' < p → C o → C o' → eo o = eo o' → o = o') ∧
  (cs_r S 814 ra = (nx C lo p).map eo ∧ (∀ o, o < p → lo ≤ o → C o → cs_r S 304 (eo o) = (nx C (o + 1) p).map eo) ∧ (∀ z, lst C p = some z → lo ≤ z → cs_r S 815 ra = some (eo z)) ∧ cs_i S 813 ra = yI (sS (lA C kf an) (fun _ => 1) lo (p - lo)))
section LCC
variable {S S' : cs_S} {ra : Nat} {Ow : Nat → Prop} {ko eo ev kf an : Nat → Nat} {C Kf : Nat → Prop} {lo p : Nat}
theorem lcI.cong {ko' eo' ev' kf' an' : Nat → Nat} {C' Kf' Ow' : Nat → Prop} (h : lcI S ra Ow ko eo ev kf an C Kf lo p) (hC : ∀ o, o < p → (C o ↔ C' o)) (hg : ∀ o, o < p → C o → kf o = kf' o ∧ eo o = eo' o ∧ ev o = ev' o) (hK : ∀ f, Kf f ↔ Kf' f) (hk : ∀ f, Kf f → ko f = ko' f ∧ an f = an' f) (hO : ∀ a, cs_k S a ≠ 0 → Ow a → Ow' a) : lcI S ra Ow' ko' eo' ev' kf' an' C' Kf' lo p := by
  obtain ⟨⟨i0, i00, i1, i2⟩, ⟨i3, i4⟩, i5, i6, ⟨i7, i8, i9, i10⟩⟩ := h
  have heo : ∀ o, o < p → C o → eo o = eo' o := fun o ho hc => (hg o ho hc).2.1
  have hO' : ∀ a k, cs_k S a = k → k ≠ 0 → Ow a → Ow' a := fun a k h1 h2 h3 => hO a (by rw [h1]; exact h2) h3
  have hA : ∀ o, o < p → (lA C kf an o ↔ lA C' kf' an' o) := fun o ho => by
    constructor
    · rintro ⟨a, b⟩
      refine ⟨(hC o ho).mp a, ?_⟩
      rw [← (hg o ho a).1, ← (hk _ (i5 o ho a).1).2]; exact b
    · rintro ⟨a, b⟩
      have a' := (hC o ho).mpr a
      refine ⟨a', ?_⟩
      rw [(hk _ (i5 o ho a').1).2, (hg o ho a').1]; exact b
  have hW : ∀ f, Kf f → ∀ o, o < p → (lW C kf an f o ↔ lW C' kf' an' f o) := fun f hf o ho => by
    constructor
    · rintro ⟨a, b, c⟩
      refine ⟨(hC o ho).mp a, by rw [← (hg o ho a).1]; exact b, ?_⟩
      rw [← (hk f hf).2]; exact c
    · rintro ⟨a, b, c⟩
      have a' := (hC o ho).mpr a
      refine ⟨a', by rw [(hg o ho a').1]; exact b, ?_⟩
      rw [(hk f hf).2]; exact c
  refine ⟨⟨i0, i00, i1, hO' _ 9 i1 (by decide) i2⟩, ⟨fun f hf => ?_, fun f f' h1 h2 h3 => ?_⟩, fun o ho hc => ?_, fun o o' h1 h2 h3 h4 h5 => ?_, ⟨?_, fun o ho hl hc => ?_, fun z hz hl => ?_, ?_⟩⟩
  · have hf' := (hK f).mpr hf
    obtain ⟨x1, x2, x3, x4, x5⟩ := i3 f hf'
    rw [← (hk f hf').1, ← (hk f hf').2]
    refine ⟨x1, hO' _ 6 x1 (by decide) x2, x3, x4, ?_⟩
    rw [x5, sS_cong _ (fun x _ hx => ⟨hW f hf' x (by omega), fun _ => rfl⟩)]
  · have h1' := (hK f).mpr h1
    have h2' := (hK f').mpr h2
    rw [← (hk f h1').1, ← (hk f' h2').1] at h3
    exact i4 f f' h1' h2' h3
  · have hc' := (hC o ho).mpr hc
    obtain ⟨g1, g2, g3⟩ := hg o ho hc'
    obtain ⟨x1, x4, x5, x6, x7, x8⟩ := i5 o ho hc'
    rw [← g1, ← g2, ← g3]
    exact ⟨(hK _).mp x1, x4, hO' _ 4 x4 (by decide) x5, x6, x7, by rw [← (hk _ x1).1]; exact x8⟩
  · have h3' := (hC o h1).mpr h3
    have h4' := (hC o' h2).mpr h4
    rw [← heo o h1 h3', ← heo o' h2 h4'] at h5
    exact i6 o o' h1 h2 h3' h4' h5
  · rw [i7, ← nx_cong (fun x _ hx => hC x hx), map_eo heo]
  · have hc' := (hC o ho).mpr hc
    rw [← heo o ho hc', i8 o ho hl hc', ← nx_cong (fun x _ hx => hC x hx), map_eo heo]
  · rw [← lst_cong p hC] at hz
    obtain ⟨b, d, -⟩ := lst_some p z hz
    rw [i9 z hz hl, heo z b d]
  · rw [i10, sS_cong _ (fun x _ hx => ⟨hA x (by omega), fun _ => rfl⟩)]
theorem lcI.fx {E : Nat → Nat → Nat → Prop} (h : lcI S ra Ow ko eo ev kf an C Kf lo p) (hF : fX E S S') (hE : ∀ s f a, E s f a → Ow a → ((cs_k S a = 9 ∧ f ≠ 813 ∧ f ≠ 814 ∧ f ≠ 815) ∨ (cs_k S a = 6 ∧ f ≠ 513 ∧ f ≠ 514) ∨ (cs_k S a ≠ 4 ∧ cs_k S a ≠ 6 ∧ cs_k S a ≠ 9))) : lcI S' ra Ow ko eo ev kf an C Kf lo p := by
  obtain ⟨⟨i0, i00, i1, i2⟩, ⟨i3, i4⟩, i5, i6, ⟨i7, i8, i9, i10⟩⟩ := h
  have k4 : ∀ x, cs_k S x = 4 → Ow x → cs_k S' x = 4 ∧ (∀ f, cs_r S' f x = cs_r S f x) := fun x hx ho => by
    obtain ⟨a1, a2, a3, a4, a5, -⟩ := hF x (by omega)
    exact ⟨a1.trans hx, fun f => a5 f (fun z => by have := hE _ f x z ho; omega)⟩
  have k6 : ∀ x, cs_k S x = 6 → Ow x → cs_k S' x = 6 ∧ cs_i S' 513 x = cs_i S 513 x ∧ cs_i S' 514 x = cs_i S 514 x := fun x hx ho => by
    obtain ⟨a1, a2, a3, a4, a5, -⟩ := hF x (by omega)
    exact ⟨a1.trans hx, a3 _ (fun z => by have := hE _ _ x z ho; omega), a3 _ (fun z => by have := hE _ _ x z ho; omega)⟩
  obtain ⟨a1, a2, a3, a4, a5, -⟩ := hF ra (by omega)
  have hno : ∀ s f, (f = 813 ∨ f = 814 ∨ f = 815) → ¬ E s f ra := fun s f hf z => by
    have := hE s f ra z i2
    omega
  refine ⟨⟨i0, i00, a1.trans i1, i2⟩, ⟨fun f hf => ?_, i4⟩, fun o ho hc => ?_, i6, ⟨?_, fun o ho hl hc => ?_, fun z hz hl => ?_, ?_⟩⟩
  · obtain ⟨x1, x2, x3, x4, x5⟩ := i3 f hf
    obtain ⟨b1, b2, b3⟩ := k6 _ x1 x2
    exact ⟨b1, x2, b3.trans x3, x4, b2.trans x5⟩
  · obtain ⟨x1, x4, x5, x6, x7, x8⟩ := i5 o ho hc
    obtain ⟨b1, b3⟩ := k4 _ x4 x5
    exact ⟨x1, b1, x5, (hF _ (by omega)).1.trans x6, (b3 _).trans x7, (b3 _).trans x8⟩
  · rw [a5 814 (hno _ _ (by omega))]; exact i7
  · obtain ⟨x1, x4, x5, -⟩ := i5 o ho hc
    rw [(k4 _ x4 x5).2]; exact i8 o ho hl hc
  · rw [a5 815 (hno _ _ (by omega))]; exact i9 z hz hl
  · rw [a3 813 (hno _ _ (by omega))]; exact i10
theorem lcI.nop (h : lcI S ra Ow ko eo ev kf an C Kf lo p) (hp : p < 4000) (hc : ¬ C p) : lcI S ra Ow ko eo ev kf an C Kf lo (p + 1) := by
  obtain ⟨⟨i0, i00, i1, i2⟩, ⟨i3, i4⟩, i5, i6, ⟨i7, i8, i9, i10⟩⟩ := h
  have lt : ∀ o, o < p + 1 → C o → o < p := fun o ho hc' => by
    by_cases e : o = p
    · rw [e] at hc'; exact absurd hc' hc
    · omega
  refine ⟨⟨by omega, by omega, i1, i2⟩, ⟨fun f hf => ?_, i4⟩, fun o ho h1 => i5 o (lt o ho h1) h1, fun o o' h1 h2 h3 h4 => i6 o o' (lt o h1 h3) (lt o' h2 h4) h3 h4, ⟨?_, fun o ho hl h1 => ?_, fun z hz hl => ?_, ?_⟩⟩
  · obtain ⟨x1, x2, x3, x4, x5⟩ := i3 f hf
    refine ⟨x1, x2, x3, by omega, ?_⟩
    rw [sS_nst i0 (fun z => hc z.1)]; exact x5
  · rw [nx_pass hc]; exact i7
  · rw [nx_pass hc]; exact i8 o (lt o ho h1) hl h1
  · rw [lst_no hc] at hz; exact i9 z hz hl
  · rw [sS_nst i0 (fun z => hc z.1)]; exact i10
theorem lcI.key {Kf' : Nat → Prop} (h : lcI S ra Ow ko eo ev kf an C Kf lo p) {f0 : Nat} (hK : ∀ f, Kf' f ↔ Kf f ∨ f = f0) (h0 : cs_k S (ko f0) = 6 ∧ Ow (ko f0)) (hne : ∀ f, Kf f → ko f ≠ ko f0) (hno : ∀ o, o < p → C o → kf o ≠ f0) (h13 : cs_i S 513 (ko f0) = 0) (h14 : cs_i S 514 (ko f0) = 0) (han : an f0 = 0) : lcI S ra Ow ko eo ev kf an C Kf' lo p := by
  obtain ⟨⟨i0, i00, i1, i2⟩, ⟨i3, i4⟩, i5, i6, i7⟩ := h
  refine ⟨⟨i0, i00, i1, i2⟩, ⟨fun f hf => ?_, fun f f' h1 h2 h3 => ?_⟩, fun o ho hc => ?_, i6, i7⟩
  · rcases (hK f).mp hf with z | z
    · exact i3 f z
    · subst z
      refine ⟨h0.1, h0.2, by rw [h14, han]; rfl, by omega, ?_⟩
      rw [h13, sS_zero (P := lW C kf an f) _ (fun o _ ho z => hno o (by omega) z.1 z.2.1)]
      rfl
  · rcases (hK f).mp h1 with z | z
    · rcases (hK f').mp h2 with y | y
      · exact i4 f f' z y h3
      · rw [y] at h3; exact absurd h3 (hne f z)
    · rcases (hK f').mp h2 with y | y
      · rw [z] at h3; exact absurd h3.symm (hne f' y)
      · rw [z, y]
  · obtain ⟨x1, x2⟩ := i5 o ho hc
    exact ⟨(hK _).mpr (Or.inl x1), x2⟩
/-- all that wait of key f are answered -/
theorem lcI.ans (h : lcI S ra Ow ko eo ev kf an C Kf lo p) {f0 : Nat} (hf : Kf f0) {P : Nat → Nat → Prop} (hs : sI P S S') (hP : ∀ f x, P f x → (f = 514 ∧ x = ko f0) ∨ (f = 813 ∧ x = ra) ∨ (f = 513 ∧ x = ko f0)) (hr : ∀ f x, cs_r S' f x = cs_r S f x) (h14 : cs_i S' 514 (ko f0) = nI p) (h813 : cs_i S' 813 ra = cs_i S 813 ra - cs_i S 513 (ko f0)) (h13 : cs_i S' 513 (ko f0) = 0) : lcI S' ra Ow ko eo ev kf (prU an f0 p) C Kf lo p := by
  obtain ⟨⟨i0, i00, i1, i2⟩, ⟨i3, i4⟩, i5, i6, ⟨i7, i8, i9, i10⟩⟩ := h
  obtain ⟨s1, s2, s3, -⟩ := hs
  refine ⟨⟨i0, i00, (s1 _).trans i1, i2⟩, ⟨fun f hf' => ?_, i4⟩, fun o ho hc => ?_, i6, ⟨by rw [hr]; exact i7, fun o ho hl hc => by rw [hr]; exact i8 o ho hl hc, fun z hz hl => by rw [hr]; exact i9 z hz hl, ?_⟩⟩
  · obtain ⟨x1, x2, x3, x4, x5⟩ := i3 f hf'
    by_cases c : f = f0
    · subst c
      rw [prU_r]
      refine ⟨(s1 _).trans x1, x2, h14, Nat.le_refl _, ?_⟩
      rw [h13, sS_zero (P := lW C kf (prU an f p) f) _ (fun o _ ho z => ?_)]
      · rfl
      · have := z.2.2; rw [prU_r] at this; omega
    · have hne : ko f ≠ ko f0 := fun z => c (i4 _ _ hf' hf z)
      rw [prU_o c]
      have n13 : ¬ P 513 (ko f) := fun z => by
        rcases hP _ _ z with q | q | q
        · exact absurd q.1 (by decide)
        · exact absurd q.1 (by decide)
        · exact hne q.2
      have n14 : ¬ P 514 (ko f) := fun z => by
        rcases hP _ _ z with q | q | q
        · exact hne q.2
        · exact absurd q.1 (by decide)
        · exact absurd q.1 (by decide)
      refine ⟨(s1 _).trans x1, x2, (s3 _ _ n14).trans x3, x4, ?_⟩
      rw [s3 _ _ n13, x5]
      refine congrArg yI ?_
      refine sS_cong _ (fun o _ _ => ⟨?_, fun _ => rfl⟩)
      unfold lW
      rw [prU_o c]
  · obtain ⟨x1, x4, x5, x6, x7, x8⟩ := i5 o ho hc
    exact ⟨x1, (s1 _).trans x4, x5, (s1 _).trans x6, by rw [hr]; exact x7, by rw [hr]; exact x8⟩
  · rw [h813, i10, (i3 f0 hf).2.2.2.2, yI_s]
    refine congrArg yI ?_
    have := sS_dis (P := lA C kf an) (P1 := lA C kf (prU an f0 p)) (P2 := lW C kf an f0) (v := fun _ => 1) (lo := lo) (p - lo) (fun o _ ho => ?_)
    · omega
    · by_cases c : kf o = f0
      · unfold lA lW
        rw [c, prU_r]
        refine ⟨⟨fun z => Or.inr ⟨z.1, rfl, z.2⟩, fun z => ?_⟩, fun z => z.1.2 (by omega)⟩
        rcases z with z | z
        · exact absurd (show o < p from by omega) z.2
        · exact ⟨z.1, z.2.2⟩
      · unfold lA lW
        rw [prU_o c]
        refine ⟨⟨fun z => Or.inl z, fun z => ?_⟩, fun z => c z.2.2.1⟩
        rcases z with z | z
        · exact z
        · exact absurd z.2.1 c
theorem lcI.z815 (h : lcI S ra Ow ko eo ev kf an C Kf lo p) {z : Nat} (h1 : cs_r S 815 ra = some z) (h2 : cs_r S 814 ra ≠ none) : ∃ y, lst C p = some y ∧ z = eo y := by
  obtain ⟨⟨i0, i00, i1, i2⟩, ⟨i3, i4⟩, i5, i6, ⟨i7, i8, i9, i10⟩⟩ := h
  cases ho : nx C lo p with
  | none => rw [ho] at i7; exact absurd i7 h2
  | some o =>
    obtain ⟨n1, n2, n3, n4⟩ := nx_some p o ho
    cases hl : lst C p with
    | none => exact absurd n3 (lst_none p hl o n2)
    | some y =>
      obtain ⟨l1, l2, l3⟩ := lst_some p y hl
      have hly : lo ≤ y := by
        have : ¬ y < o := fun q => l3 o q n2 n3
        omega
      have e := i9 y hl hly
      rw [h1] at e
      cases e
      exact ⟨y, rfl, rfl⟩
end LCC
section LCA
variable {G : Nat → Nat} {S S1 S2 S3 : cs_S} {ra : Nat} {Ow : Nat → Prop} {ko eo ev kf an : Nat → Nat} {C Kf : Nat → Prop} {lo p : Nat}
/-- what waiting may change -/
def lcE (S : cs_S) (Ow : Nat → Prop) (_s f a : Nat) : Prop := Ow a ∧ ((cs_k S a = 9 ∧ (f = 813 ∨ f = 814 ∨ f = 815)) ∨ (cs_k S a = 6 ∧ (f = 513 ∨ f = 514)) ∨ (cs_k S a = 4 ∧ f = 304))
theorem lcI.ad (h : lcI S ra Ow ko eo ev kf an C Kf lo p) (hp : p < 4000) (hc : C p) (hkf : Kf (kf p)) (hev : cs_k S (ev p) = 5) {q : Nat} {P : Nat → Nat → Prop}
    (h1 : enD S S1 q (ev p) (ko (kf p)) 0 none) (h2 : apD S1 S2 ra q) (h3 : sI P S2 S3) (hP : ∀ f x, P f x → (f = 813 ∧ x = ra) ∨ (f = 513 ∧ x = ko (kf p))) (hr3 : ∀ f x, cs_r S3 f x = cs_r S2 f x) (hl3 : ∀ f x, cs_l S3 f x = cs_l S2 f x) (h813 : cs_i S3 813 ra = cs_i S2 813 ra + 1) (h513 : cs_i S3 513 (ko (kf p)) = cs_i S2 513 (ko (kf p)) + 1) :
    lcI S3 ra (oU Ow q) ko (prU eo p q) ev kf an C Kf lo (p + 1) ∧ fX (lcE S Ow) S S3 := by
  obtain ⟨⟨i0, i00, i1, i2⟩, ⟨i3, i4⟩, i5, i6, ⟨i7, i8, i9, i10⟩⟩ := id h
  obtain ⟨e1, e2, e3, e4, e5, e6, e7, e8, e9⟩ := h1
  obtain ⟨⟨s1, s2, s3, s4, s5, s6⟩, k2, k3, k4, k5, k6, k7⟩ := h2
  obtain ⟨t1, t2, t3, t4, t5, t6⟩ := h3
  have live : ∀ x, cs_k S x ≠ 0 → cs_k S1 x = cs_k S x ∧ (∀ f, cs_i S1 f x = cs_i S f x) ∧ (∀ f, cs_l S1 f x = cs_l S f x) ∧ (∀ f, cs_r S1 f x = cs_r S f x) := fun x hx => by
    obtain ⟨a1, a2, a3, a4, a5, -⟩ := e2 x hx
    exact ⟨a1, fun f => a3 f id, fun f => a4 f id, fun f => a5 f id⟩
  have hK : ∀ x, cs_k S3 x = cs_k S1 x := fun x => (t1 x).trans (s1 x)
  have lk : ∀ x n, cs_k S x = n → n ≠ 0 → cs_k S3 x = n := fun x n h1 h2 => by rw [hK, (live x (by rw [h1]; exact h2)).1]; exact h1
  have lra := live ra (by omega)
  have leo : ∀ o, o < p → C o → _ := fun o ho hc => live (eo o) (by rw [(i5 o ho hc).2.1]; decide)
  have hq : ∀ o, o < p → C o → eo o ≠ q := fun o ho hc z => by
    have := (i5 o ho hc).2.1
    rw [z, e1] at this; cases this
  have r815 : cs_r S1 815 ra = cs_r S 815 ra := lra.2.2.2 815
  have r814 : cs_r S1 814 ra = cs_r S 814 ra := lra.2.2.2 814
  have sel : ∀ o, o < p + 1 → o = p ∨ o < p := fun o ho => by omega
  have qn : nx C lo p = none → cs_r S3 814 ra = some q ∧ ∀ x, cs_r S3 304 x = cs_r S1 304 x := fun hn => by
    rw [hn] at i7
    obtain ⟨z1, z2⟩ := k6 (Or.inr (r814.trans i7))
    exact ⟨by rw [hr3]; exact z1, fun x => by rw [hr3]; exact z2 x⟩
  have qs : ∀ o, nx C lo p = some o → ∃ z, lst C p = some z ∧ lo ≤ z ∧ cs_r S3 814 ra = some (eo o) ∧ cs_r S3 304 (eo z) = some q ∧ ∀ x, x ≠ eo z → cs_r S3 304 x = cs_r S1 304 x := fun o ho => by
    obtain ⟨n1, n2, n3, n4⟩ := nx_some p o ho
    cases hl : lst C p with
    | none => exact absurd n3 (lst_none p hl o n2)
    | some z =>
      obtain ⟨l1, l2, l3⟩ := lst_some p z hl
      have hlz : lo ≤ z := by
        have : ¬ z < o := fun q => l3 o q n2 n3
        omega
      have i7' : cs_r S 814 ra = some (eo o) := by rw [i7, ho]; rfl
      obtain ⟨z1, z2, z3⟩ := k7 (eo z) (r815.trans (i9 z hl hlz)) (by rw [r814, i7']; exact fun q => nomatch q)
      exact ⟨z, rfl, hlz, by rw [hr3, z1, r814]; exact i7', by rw [hr3]; exact z2, fun x hx => by rw [hr3]; exact z3 x hx⟩
  have r3 : ∀ f x, f ≠ 304 → f ≠ 814 → f ≠ 815 → cs_r S3 f x = cs_r S1 f x := fun f x z1 z2 z3 => (hr3 f x).trans (k3 f x z1 z2 z3)
  have eoo : ∀ o, o < p → prU eo p q o = eo o := fun o ho => prU_o (by omega)
  have mp : ∀ lo' p', p' ≤ p → (nx C lo' p').map (prU eo p q) = (nx C lo' p').map eo := fun lo' p' hp' => map_eo (fun o ho _ => eoo o (by omega))
  refine ⟨⟨⟨by omega, by omega, lk ra 9 i1 (by decide), Or.inl i2⟩, ⟨fun f hf => ?_, i4⟩, fun o ho hc' => ?_, fun o o' h1 h2 h3 h4 h5 => ?_, ⟨?_, fun o ho hl hc' => ?_, fun z hz hl => ?_, ?_⟩⟩, fun a ha => ?_⟩
  · obtain ⟨x1, x2, x3, x4, x5⟩ := i3 f hf
    have lf := live (ko f) (by rw [x1]; decide)
    refine ⟨lk _ 6 x1 (by decide), Or.inl x2, ?_, by omega, ?_⟩
    · rw [t3 514 _ (fun z => by rcases hP _ _ z with w | w <;> exact absurd w.1 (by decide)), s3 514 _ id, lf.2.1]; exact x3
    · by_cases c : f = kf p
      · subst c
        have hw : lW C kf an (kf p) p := ⟨hc, rfl, by omega⟩
        rw [h513, s3 513 _ id, lf.2.1, x5, yI_1, sS_lst i0 hw]
      · have hne : ko f ≠ ko (kf p) := fun z => c (i4 _ _ hf hkf z)
        rw [t3 513 _ (fun z => by
          rcases hP _ _ z with w | w
          · exact absurd w.1 (by decide)
          · exact hne w.2), s3 513 _ id, lf.2.1, x5, sS_nst i0 (fun z => c z.2.1.symm)]
  · rcases sel o ho with rfl | ho'
    · rw [prU_r]
      exact ⟨hkf, by rw [hK]; exact e3, Or.inr rfl, lk _ 5 hev (by decide), by rw [r3 300 _ (by decide) (by decide) (by decide)]; exact e4, by rw [r3 301 _ (by decide) (by decide) (by decide)]; exact e5⟩
    · obtain ⟨x1, x4, x5, x6, x7, x8⟩ := i5 o ho' hc'
      obtain ⟨b1, b2, b3, b4⟩ := leo o ho' hc'
      rw [eoo o ho']
      exact ⟨x1, lk _ 4 x4 (by decide), Or.inl x5, lk _ 5 x6 (by decide), by rw [r3 300 _ (by decide) (by decide) (by decide), b4]; exact x7, by rw [r3 301 _ (by decide) (by decide) (by decide), b4]; exact x8⟩
  · rcases sel o h1 with rfl | h1'
    · rcases sel o' h2 with rfl | h2'
      · rfl
      · rw [prU_r, eoo o' h2'] at h5; exact absurd h5.symm (hq o' h2' h4)
    · rcases sel o' h2 with rfl | h2'
      · rw [prU_r, eoo o h1'] at h5; exact absurd h5 (hq o h1' h3)
      · rw [eoo o h1', eoo o' h2'] at h5; exact i6 o o' h1' h2' h3 h4 h5
  · cases hn : nx C lo p with
    | none => rw [nx_y hn i0 hc, (qn hn).1]; show some q = some (prU eo p q p); rw [prU_r]
    | some o =>
      obtain ⟨z, -, -, z1, -⟩ := qs o hn
      obtain ⟨-, n2, -⟩ := nx_some p o hn
      rw [nx_s hn, z1]; show some (eo o) = some (prU eo p q o); rw [eoo o n2]
  · rcases sel o ho with rfl | ho'
    · rw [nx_no (lo := o + 1) (fun x h1 h2 => absurd h1 (by omega)), prU_r]
      cases hn : nx C lo o with
      | none => rw [(qn hn).2]; exact e8
      | some y =>
        obtain ⟨z, z1, -, -, -, z4⟩ := qs y hn
        obtain ⟨l1, l2, -⟩ := lst_some o z z1
        rw [z4 _ (Ne.symm (hq z l1 l2))]; exact e8
    · rw [eoo o ho']
      cases hn : nx C lo p with
      | none => exact absurd hc' (nx_none p hn o hl ho')
      | some y =>
        obtain ⟨z, z1, z2, -, z3, z4⟩ := qs y hn
        obtain ⟨l1, l2, l3⟩ := lst_some p z z1
        by_cases c : o = z
        · subst c
          rw [nx_y (nx_no (fun x h1 h2 => l3 x (by omega) h2)) (by omega) hc, z3]; show some q = some (prU eo p q p); rw [prU_r]
        · have hoz : o < z := by
            have : ¬ z < o := fun q => l3 o q ho' hc'
            omega
          rw [z4 _ (fun q => c (i6 o z ho' l1 hc' l2 q)), (leo o ho' hc').2.2.2, i8 o ho' hl hc']
          cases hy : nx C (o + 1) p with
          | none => exact absurd l2 (nx_none p hy z (by omega) l1)
          | some y' =>
            obtain ⟨-, n2, -⟩ := nx_some p y' hy
            rw [nx_s hy]; show some (eo y') = some (prU eo p q y'); rw [eoo y' n2]
  · rw [lst_yes hc] at hz
    cases hz
    rw [hr3, prU_r]; exact k5
  · have hw : lA C kf an p := ⟨hc, by have := (i3 _ hkf).2.2.2.1; omega⟩
    rw [sS_lst i0 hw, h813, s3 813 _ id, lra.2.1, i10, yI_1]
  · obtain ⟨a1, a2, a3, a4, a5, a6, a7, a8⟩ := e2 a ha
    have kk := i3 _ hkf
    refine ⟨((t1 a).trans (s1 a)).trans a1, ((t2 a).trans (s2 a)).trans a2, fun g hg => ?_, fun g hg => by rw [hl3, k2, a4 g id], fun g hg => ?_, fun j _ => ((t4 a j).trans (s4 a j)).trans (a6 j id), fun j _ => ((t5 a j).trans (s5 a j)).trans (a7 j id), fun j _ => ((t6 a j).trans (s6 a j)).trans (a8 j id)⟩
    · rw [t3 g a (fun z => hg ?_), s3 g a id, a3 g id]
      rcases hP _ _ z with ⟨rfl, rfl⟩ | ⟨rfl, rfl⟩
      · exact ⟨i2, Or.inl ⟨i1, by omega⟩⟩
      · exact ⟨kk.2.1, Or.inr (Or.inl ⟨kk.1, by omega⟩)⟩
    · have hra : a = ra → g ≠ 814 ∧ g ≠ 815 := fun e => ⟨fun z => hg ⟨by rw [e]; exact i2, Or.inl ⟨by rw [e]; exact i1, by omega⟩⟩, fun z => hg ⟨by rw [e]; exact i2, Or.inl ⟨by rw [e]; exact i1, by omega⟩⟩⟩
      rw [hr3, ← a5 g id]
      by_cases g4 : g = 304
      · subst g4
        by_cases hcc : cs_r S1 815 ra = none ∨ cs_r S1 814 ra = none
        · exact (k6 hcc).2 a
        · cases hz : cs_r S1 815 ra with
          | none => exact absurd (Or.inl hz) hcc
          | some z =>
            have hn : cs_r S1 814 ra ≠ none := fun q => hcc (Or.inr q)
            refine (k7 z hz hn).2.2 a (fun e => hg ?_)
            obtain ⟨y, y1, y2⟩ := h.z815 (r815.symm.trans hz) (by rw [← r814]; exact hn)
            obtain ⟨l1, l2, -⟩ := lst_some p y y1
            rw [e, y2]
            exact ⟨(i5 y l1 l2).2.2.1, Or.inr (Or.inr ⟨(i5 y l1 l2).2.1, rfl⟩)⟩
      · by_cases g14 : g = 814
        · subst g14
          exact (k4 a (fun e => (hra e).1 rfl)).1
        · by_cases g15 : g = 815
          · subst g15
            exact (k4 a (fun e => (hra e).2 rfl)).2
          · exact k3 g a g4 g14 g15
/-- an event answers, and may wait -/
theorem cws {H mc ms : Nat} {post : cs_S → Prop} (h : lcI S ra Ow ko eo ev kf an C Kf lo p) (hp : p < 4000) (hH : H < 64) (hc : C p ↔ H.testBit 0 = true) (hkf : Kf (kf p)) (hev : cs_k S (ev p) = 5) (h405 : cs_i S 405 (ev p) = nI p) (hm : 1 ≤ mc) (hms : 6 ≤ ms)
    (hpost : ∀ S' Ow' eo', fX (lcE S Ow) S S' → oX S Ow Ow' → lcI S' ra Ow' ko eo' ev kf (if H.testBit 1 = true then prU an (kf p) p else an) C Kf lo (p + 1) → post S') : wp_X7_waitForSecond post G mc ms S ra (some (ko (kf p))) (some (ev p)) (nI H) := by
  have b0 := bt_a H hH
  have z0 : (nI H &&& 1 = 0 ↔ H.testBit 0 = false) ∧ (nI H &&& 2 = 0 ↔ H.testBit 1 = false) := bt_2 H hH
  have at32 : ∀ S1 an1, an1 = (if H.testBit 1 = true then prU an (kf p) p else an) → fX (lcE S Ow) S S1 → lcI S1 ra Ow ko eo ev kf an1 C Kf lo p → w_X7_waitForSecond_32 post G mc ms S1 0 0 ra (some (ko (kf p))) (some (ev p)) (nI H) := by
    intro S1 an1 ean hF h1
    obtain ⟨⟨i0, i00, i1, i2⟩, ⟨i3, i4⟩, i5, i6, ⟨i7, i8, i9, i10⟩⟩ := id h1
    have ev1 : cs_k S1 (ev p) = 5 := (hF _ (by omega)).1.trans hev
    refine ⟨by omega, by omega, fun z => ⟨by omega, by omega, ?_⟩, fun z => ⟨by omega, by omega, fun q hq S22 e22 => ?_⟩⟩
    · have hcn : ¬ C p := fun y => by
        rw [hc, z0.1.mp z] at y; cases y
      have h2 := h1.nop hp hcn
      rw [ean] at h2
      exact hpost S1 Ow eo hF oX.rfl h2
    · have hcy : C p := by
        rw [hc]
        cases hb : H.testBit 0 with
        | true => rfl
        | false => exact absurd (z0.1.mpr hb) z
      subst e22
      refine cen hq (fun S23 h23 => ?_)
      have k9 : cs_k S23 ra = 9 := (h23.2.1 ra (by omega)).1.trans i1
      have r815 := (h23.2.1 ra (by omega)).2.2.2.2.1
      have kk : ∀ x n, cs_k S1 x = n → n ≠ 0 → cs_k S23 x = n := fun x n z1 z2 => (h23.2.1 x (by rw [z1]; exact z2)).1.trans z1
      refine ⟨k9, cap k9 (fun z z1 z2 => ?_) (fun S24 h24 => ⟨ko (kf p), rfl, (h24.1.1 _).trans (kk _ 6 (i3 _ hkf).1 (by decide)), fun S28 e28 => ⟨?_, fun S30 e30 => ⟨by omega, by omega, ?_⟩⟩⟩)⟩
      · obtain ⟨y, y1, y2⟩ := h1.z815 ((r815 815 id).symm.trans z1) (by rw [← r815 814 id]; exact z2)
        obtain ⟨l1, l2, -⟩ := lst_some p y y1
        rw [y2]; exact kk _ 4 (i5 y l1 l2).2.1 (by decide)
      · rw [e28]; exact (h24.1.1 _).trans k9
      · subst e28
        subst e30
        have hd := h1.ad hp hcy hkf ev1 h23 h24 (S3 := cs_ui (cs_ui S24 513 (ko (kf p)) (cs_i S24 513 (ko (kf p)) + 1)) 813 ra (cs_i (cs_ui S24 513 (ko (kf p)) (cs_i S24 513 (ko (kf p)) + 1)) 813 ra + 1)) (P := fun f x => (f = 813 ∧ x = ra) ∨ (f = 513 ∧ x = ko (kf p))) ((sI.rfl.ui (Or.inr ⟨rfl, rfl⟩)).ui (Or.inl ⟨rfl, rfl⟩)) (fun _ _ z => z) (fun _ _ => rfl) (fun _ _ => rfl) (by rw [iui, if_pos ⟨rfl, rfl⟩, iui, if_neg (fun z => absurd z.1 (by decide))]) (by rw [iui, if_neg (fun z => absurd z.1 (by decide)), iui, if_pos ⟨rfl, rfl⟩])
        rw [ean] at hd
        refine hpost _ (oU Ow q) _ (hF.tr hd.2 (fun s f a ha z => ?_)) (oX.u (hF.dead hq)) hd.1
        have hk : cs_k S1 a = cs_k S a := (hF a ha).1
        unfold lcE at z ⊢
        rw [hk] at z
        exact z
  refine ⟨fun z => at32 S an ?_ fX.rfl h, fun z => ⟨ev p, rfl, hev, ko (kf p), rfl, (h.2.1.1 _ hkf).1, fun S35 e35 => ?_⟩⟩
  · rw [if_neg (fun y => by rw [z0.2.mp z] at y; cases y)]
  · have h1b : H.testBit 1 = true := by
      cases hb : H.testBit 1 with
      | true => rfl
      | false => exact absurd (z0.2.mpr hb) z
    subst e35
    obtain ⟨⟨i0, i00, i1, i2⟩, ⟨i3, i4⟩, -⟩ := id h
    have kk := i3 _ hkf
    have hne : ra ≠ ko (kf p) := fun e => by rw [e, kk.1] at i1; cases i1
    refine ⟨i1, kk.1, fun S38 e38 => ?_⟩
    subst e38
    refine ⟨kk.1, fun S40 e40 => ?_⟩
    subst e40
    refine at32 _ (prU an (kf p) p) (by rw [if_pos h1b]) ?_ (h.ans hkf (P := fun f x => (f = 514 ∧ x = ko (kf p)) ∨ (f = 813 ∧ x = ra) ∨ (f = 513 ∧ x = ko (kf p))) (((sI.rfl.ui (Or.inl ⟨rfl, rfl⟩)).ui (Or.inr (Or.inl ⟨rfl, rfl⟩))).ui (Or.inr (Or.inr ⟨rfl, rfl⟩))) (fun _ _ z => z) (fun _ _ => rfl) ?_ ?_ ?_)
    · exact ((fX.rfl.ui (Or.inl ⟨kk.2.1, Or.inr (Or.inl ⟨kk.1, by omega⟩)⟩)).ui (Or.inl ⟨i2, Or.inl ⟨i1, by omega⟩⟩)).ui (Or.inl ⟨kk.2.1, Or.inr (Or.inl ⟨kk.1, by omega⟩)⟩)
    · rw [iui, if_neg (fun z => absurd z.1 (by decide)), iui, if_neg (fun z => absurd z.1 (by decide)), iui, if_pos ⟨rfl, rfl⟩, h405]
    · rw [iui, if_neg (fun z => absurd z.1 (by decide)), iui, if_pos ⟨rfl, rfl⟩, iui, if_neg (fun z => absurd z.1 (by decide)), iui, if_neg (fun z => absurd z.1 (by decide))]
    · rw [iui, if_pos ⟨rfl, rfl⟩]
end LCA
