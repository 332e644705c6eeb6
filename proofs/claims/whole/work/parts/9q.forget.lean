/-! ===== the class: the window of a rule that counts ===== -/
/-- the first place at or above lo, below p -/
noncomputable def nx (P : Nat → Prop) (lo : Nat) : Nat → Option Nat
  | 0 => none
  | p + 1 => match nx P lo p with
    | some o => some o
    | none => @ite _ (lo ≤ p ∧ P p) (Classical.propDecidable _) (some p) none
section NX
variable {P P' : Nat → Prop} {lo : Nat}
theorem nx_s {p o : Nat} (h : nx P lo p = some o) : nx P lo (p + 1) = some o := by rw [nx, h]
theorem nx_y {p : Nat} (h : nx P lo p = none) (hl : lo ≤ p) (hp : P p) : nx P lo (p + 1) = some p := by rw [nx, h]; exact if_pos ⟨hl, hp⟩
theorem nx_pass {p : Nat} (hp : ¬ P p) : nx P lo (p + 1) = nx P lo p := by
  rw [nx]
  cases h : nx P lo p with
  | some o => rfl
  | none => exact if_neg (fun z => hp z.2)
theorem nx_some : ∀ p o, nx P lo p = some o → lo ≤ o ∧ o < p ∧ P o ∧ ∀ x, lo ≤ x → x < o → ¬ P x := by
  intro p
  induction p with
  | zero => intro o h; cases h
  | succ p ih =>
    intro o h
    rw [nx] at h
    cases c : nx P lo p with
    | some o' =>
      rw [c] at h
      cases h
      obtain ⟨a, b, d, e⟩ := ih o c
      exact ⟨a, by omega, d, e⟩
    | none =>
      rw [c] at h
      by_cases g : lo ≤ p ∧ P p
      · have h : (@ite _ (lo ≤ p ∧ P p) (Classical.propDecidable _) (some p) none) = some o := h
        rw [if_pos g] at h
        cases h
        refine ⟨g.1, by omega, g.2, fun x h1 h2 h3 => ?_⟩
        have : ∀ p, nx P lo p = none → ∀ x, lo ≤ x → x < p → ¬ P x := by
          intro p
          induction p with
          | zero => intro _ x _ hx; omega
          | succ p ih2 =>
            intro hn x h1 h2 h3
            rw [nx] at hn
            cases c2 : nx P lo p with
            | some o' => rw [c2] at hn; cases hn
            | none =>
              rw [c2] at hn
              have hn : (@ite _ (lo ≤ p ∧ P p) (Classical.propDecidable _) (some p) none) = none := hn
              by_cases e : x = p
              · rw [e] at h1 h3; rw [if_pos ⟨h1, h3⟩] at hn; cases hn
              · exact ih2 c2 x h1 (by omega) h3
        exact this _ c x h1 h2 h3
      · have h : (@ite _ (lo ≤ p ∧ P p) (Classical.propDecidable _) (some p) none) = some o := h
        rw [if_neg g] at h; cases h
theorem nx_none : ∀ p, nx P lo p = none → ∀ x, lo ≤ x → x < p → ¬ P x := by
  intro p
  induction p with
  | zero => intro _ x _ hx; omega
  | succ p ih2 =>
    intro hn x h1 h2 h3
    rw [nx] at hn
    cases c2 : nx P lo p with
    | some o' => rw [c2] at hn; cases hn
    | none =>
      rw [c2] at hn
      have hn : (@ite _ (lo ≤ p ∧ P p) (Classical.propDecidable _) (some p) none) = none := hn
      by_cases e : x = p
      · rw [e] at h1 h3; rw [if_pos ⟨h1, h3⟩] at hn; cases hn
      · exact ih2 c2 x h1 (by omega) h3
theorem nx_of {p o : Nat} (h1 : lo ≤ o) (h2 : o < p) (h3 : P o) (h4 : ∀ x, lo ≤ x → x < o → ¬ P x) : nx P lo p = some o := by
  cases c : nx P lo p with
  | none => exact absurd h3 (nx_none p c o h1 h2)
  | some o' =>
    obtain ⟨a, b, d, e⟩ := nx_some p o' c
    have : o' = o := by
      by_cases c1 : o' < o
      · exact absurd d (h4 o' a c1)
      · by_cases c2 : o < o'
        · exact absurd h3 (e o h1 c2)
        · omega
    rw [this]
theorem nx_no {p : Nat} (h : ∀ x, lo ≤ x → x < p → ¬ P x) : nx P lo p = none := by
  cases c : nx P lo p with
  | none => rfl
  | some o =>
    obtain ⟨a, b, d, -⟩ := nx_some p o c
    exact absurd d (h o a b)
theorem nx_cong {p : Nat} (h : ∀ x, lo ≤ x → x < p → (P x ↔ P' x)) : nx P lo p = nx P' lo p := by
  cases c : nx P' lo p with
  | none => exact nx_no (fun x h1 h2 h3 => nx_none p c x h1 h2 ((h x h1 h2).mp h3))
  | some o =>
    obtain ⟨a, b, d, e⟩ := nx_some p o c
    exact nx_of a b ((h o a b).mpr d) (fun x h1 h2 h3 => e x h1 h2 ((h x h1 (by omega)).mp h3))
/-- none of them between lo and m -/
theorem nx_skip {p m : Nat} (hm : lo ≤ m) (h : ∀ x, lo ≤ x → x < m → ¬ P x) : nx P lo p = nx P m p := by
  cases c : nx P m p with
  | none =>
    refine nx_no (fun x h1 h2 h3 => ?_)
    by_cases e : x < m
    · exact h x h1 e h3
    · exact nx_none p c x (by omega) h2 h3
  | some o =>
    obtain ⟨a, b, d, e⟩ := nx_some p o c
    refine nx_of (by omega) b d (fun x h1 h2 h3 => ?_)
    by_cases e1 : x < m
    · exact h x h1 e1 h3
    · exact e x (by omega) h2 h3
end NX
section SS2
variable {P : Nat → Prop} {v : Nat → Int} {lo : Nat}
theorem sS_skip {p m : Nat} (hm : lo ≤ m) (hp : m ≤ p) (h : ∀ x, lo ≤ x → x < m → ¬ P x) : sS P v lo (p - lo) = sS P v m (p - m) := by
  rw [show p - lo = (m - lo) + (p - m) from by omega, sS_app, sS_zero (m - lo) (fun x h1 h2 => h x h1 (by omega)), show lo + (m - lo) = m from by omega]
  omega
theorem sS_fst {p : Nat} (hp : lo < p) (h : P lo) : sS P v lo (p - lo) = v lo + sS P v (lo + 1) (p - (lo + 1)) := by
  rw [show p - lo = (p - (lo + 1)) + 1 from by omega, sS_down, one_y h]
  simp
theorem sS_lst {p : Nat} (hp : lo ≤ p) (h : P p) : sS P v lo (p + 1 - lo) = sS P v lo (p - lo) + v p := by
  rw [show p + 1 - lo = (p - lo) + 1 from by omega, sS, show lo + (p - lo) = p from by omega, one_y h]
  simp
theorem sS_nst {p : Nat} (hp : lo ≤ p) (h : ¬ P p) : sS P v lo (p + 1 - lo) = sS P v lo (p - lo) := by
  rw [show p + 1 - lo = (p - lo) + 1 from by omega, sS, show lo + (p - lo) = p from by omega, one_n h]
  simp
theorem sS_cn {r : Nat} : 0 ≤ sS P (fun _ => 1) lo r ∧ sS P (fun _ => 1) lo r ≤ r := by
  have h1 := sS_nn (P := P) (v := fun _ => 1) (lo := lo) (fun _ => by decide) r
  have h2 := (sS_bd (P := P) (v := fun _ => 1) (lo := lo) (B := 1) (by decide) (fun _ _ => by decide) r).2
  omega
theorem sS_pos {p o : Nat} (h1 : lo ≤ o) (h2 : o < p) (h3 : P o) : 1 ≤ sS P (fun _ => 1) lo (p - lo) := by
  rw [show p - lo = (o - lo) + (p - o) from by omega, sS_app, show lo + (o - lo) = o from by omega, sS_fst h2 h3]
  have := (sS_cn (P := P) (lo := lo) (r := o - lo)).1
  have := (sS_cn (P := P) (lo := o + 1) (r := p - (o + 1))).1
  omega
end SS2
def yI (z : Int) : Int32 := Int32.ofInt z
theorem yI_1 (z : Int) : yI z + 1 = yI (z + 1) := by
  unfold yI
  rw [Int32.ofInt_add]
  rfl
theorem yI_m (z : Int) : yI z - 1 = yI (z - 1) := by
  unfold yI
  rw [Int32.ofInt_sub]
  rfl
theorem yI_i {z : Int} (h1 : -(2 ^ 31) ≤ z) (h2 : z < 2 ^ 31) : (yI z).toInt = z := by
  unfold yI
  rw [Int32.toInt_ofInt, show Int32.size = 4294967296 from rfl, Int.bmod_eq_of_le] <;> omega
theorem yI_e {z : Int} (h1 : -(2 ^ 31) ≤ z) (h2 : z < 2 ^ 31) {y : Int32} : yI z = y ↔ z = y.toInt := by
  rw [← Int32.toInt_inj, yI_i h1 h2]
theorem yI_l {z : Int} (h1 : -(2 ^ 31) ≤ z) (h2 : z < 2 ^ 31) {y : Int32} : yI z < y ↔ z < y.toInt := by
  rw [Int32.lt_iff_toInt_lt, yI_i h1 h2]
theorem z_sub (z : Int) (y : Int32) : Int64.ofInt z - y.toInt64 = Int64.ofInt (z - y.toInt) := by
  rw [Int64.ofInt_sub]
  rfl
/-- the window's edge -/
theorem win {a b w : Nat} (ha : a ≤ 2000000000) (hb : b ≤ 2000000000) (hw : w ≤ 1000000) : (nI a - nI w < nI b ↔ a < b + w) ∧ (nI b ≤ nI a - nI w ↔ b + w ≤ a) := by
  have h1 : (nI a - nI w).toInt = (a : Int) - w := by
    rw [Int32.toInt_sub, nI_toInt (by omega), nI_toInt (by omega), Int.bmod_eq_of_le] <;> omega
  rw [Int32.lt_iff_toInt_lt, Int32.le_iff_toInt_le, h1, nI_toInt (by omega)]
  omega
/-- counted, of key f; counted, with seen a; value v is seen in the window -/
def cK (C : Nat → Prop) (kf : Nat → Nat) (f o : Nat) : Prop := C o ∧ kf o = f
def cA (C : Nat → Prop) (so : Nat → Option Nat) (a o : Nat) : Prop := C o ∧ so o = some a
def dV (C : Nat → Prop) (kf : Nat → Nat) (so : Nat → Option Nat) (vv : Nat → Nat) (lo p f v : Nat) : Prop := ∃ o, lo ≤ o ∧ o < p ∧ C o ∧ kf o = f ∧ vv o = v ∧ so o ≠ none
/-- the window of a rule: C what counts, kf its key's first event, ko the keys, eo the entries; lo: forgotten below; p: looked at below -/
def cI (S : cs_S) (ra : Nat) (Ow : Nat → Prop) (ko eo ev kf : Nat → Nat) (C Kf : Nat → Prop) (am : Nat → Int32) (so : Nat → Option Nat) (vv : Nat → Nat) (lo p : Nat) : Prop :=
  (lo ≤ p ∧ p ≤ 4000 ∧ cs_k S ra = 9 ∧ Ow ra) ∧
  ((∀ f, Kf f → cs_k S (ko f) = 6 ∧ Ow (ko f)) ∧ ∀ f f', Kf f → Kf f' → ko f = ko f' → f = f') ∧
  (∀ o, o < p → C o → Kf (kf o) ∧ vv o < 32000 ∧ (∀ a, so o = some a → cs_k S a = 6 ∧ Ow a) ∧ cs_k S (eo o) = 4 ∧ Ow (eo o) ∧ cs_k S (ev o) = 5 ∧ cs_r S 300 (eo o) = some (ev o) ∧ cs_r S 301 (eo o) = some (ko (kf o)) ∧ cs_i S 302 (eo o) = am o ∧ cs_r S 303 (eo o) = so o) ∧
  (∀ o o', o < p → o' < p → C o → C o' → eo o = eo o' → o = o') ∧
  (cs_r S 814 ra = (nx C lo p).map eo ∧ (∀ o, o < p → lo ≤ o → C o → cs_r S 304 (eo o) = (nx C (o + 1) p).map eo) ∧ (∀ z, lst C p = some z → lo ≤ z → cs_r S 815 ra = some (eo z)) ∧ cs_i S 813 ra = yI (sS C (fun _ => 1) lo (p - lo))) ∧
  ((∀ f, Kf f → cs_r S 505 (ko f) = (nx (cK C kf f) lo p).map eo ∧ cs_r S 506 (ko f) = (lst (cK C kf f) p).map eo ∧ cs_l S 509 (ko f) = Int64.ofInt (sS (cK C kf f) (fun o => (am o).toInt) lo (p - lo)) ∧ cs_i S 510 (ko f) = yI (sS (dV C kf so vv lo p f) (fun _ => 1) 0 32000)) ∧ (∀ o, o < p → C o → cs_r S 305 (eo o) = (nx (cK C kf (kf o)) (o + 1) p).map eo)) ∧
  ((∀ o a, o < p → C o → so o = some a → cs_i S 511 a = yI (sS (cA C so a) (fun _ => 1) lo (p - lo))) ∧ ∀ o o' a, o < p → o' < p → C o → C o' → so o = some a → (so o' = some a ↔ kf o = kf o' ∧ vv o = vv o'))
/-- one entry is forgotten -/
def fgD (S S' : cs_S) (ra g a : Nat) (s : Option Nat) : Prop :=
  sI (fun f x => (f = 813 ∧ x = ra) ∨ (f = 510 ∧ x = a) ∨ (f = 511 ∧ s = some x)) S S' ∧
  (∀ f x, ¬ (f = 509 ∧ x = a) → cs_l S' f x = cs_l S f x) ∧ cs_l S' 509 a = cs_l S 509 a - (cs_i S 302 g).toInt64 ∧
  (∀ f x, ¬ (f = 814 ∧ x = ra) → ¬ (f = 505 ∧ x = a) → cs_r S' f x = cs_r S f x) ∧ cs_r S' 814 ra = cs_r S 304 g ∧ cs_r S' 505 a = cs_r S 305 g ∧
  cs_i S' 813 ra = cs_i S 813 ra - 1 ∧ (s = none → cs_i S' 510 a = cs_i S 510 a) ∧
  (∀ c, s = some c → cs_i S' 511 c = cs_i S 511 c - 1 ∧ (cs_i S 511 c - 1 = 0 → cs_i S' 510 a = cs_i S 510 a - 1) ∧ (¬ cs_i S 511 c - 1 = 0 → cs_i S' 510 a = cs_i S 510 a))
/-- what forgetting may change -/
def fgE (S : cs_S) (Ow : Nat → Prop) (s f a : Nat) : Prop := Ow a ∧ ((cs_k S a = 9 ∧ ((s = 0 ∧ f = 813) ∨ (s = 2 ∧ f = 814))) ∨ (cs_k S a = 6 ∧ ((s = 0 ∧ (f = 510 ∨ f = 511)) ∨ (s = 1 ∧ f = 509) ∨ (s = 2 ∧ f = 505))))
section FG
variable {S S' : cs_S} {ra : Nat} {Ow : Nat → Prop} {ko eo ev kf : Nat → Nat} {C Kf : Nat → Prop} {am : Nat → Int32} {so : Nat → Option Nat} {vv : Nat → Nat} {lo p : Nat}
theorem fX.tr {E E1 : Nat → Nat → Nat → Prop} {S S1 S2 : cs_S} (h : fX E S S1) (g : fX E1 S1 S2) (m : ∀ s f a, cs_k S a ≠ 0 → E1 s f a → E s f a) : fX E S S2 := fun a ha => by
  obtain ⟨a1, a2, a3, a4, a5, a6, a7, a8⟩ := h a ha
  obtain ⟨b1, b2, b3, b4, b5, b6, b7, b8⟩ := g a (by rw [a1]; exact ha)
  exact ⟨b1.trans a1, b2.trans a2, fun f e => (b3 f (fun z => e (m _ _ _ ha z))).trans (a3 f e), fun f e => (b4 f (fun z => e (m _ _ _ ha z))).trans (a4 f e), fun f e => (b5 f (fun z => e (m _ _ _ ha z))).trans (a5 f e), fun f e => (b6 f (fun z => e (m _ _ _ ha z))).trans (a6 f e), fun f e => (b7 f (fun z => e (m _ _ _ ha z))).trans (a7 f e), fun f e => (b8 f (fun z => e (m _ _ _ ha z))).trans (a8 f e)⟩
theorem cI.fgx (h : cI S ra Ow ko eo ev kf C Kf am so vv lo p) {o : Nat} (ho : o < p) (hc : C o) (hd : fgD S S' ra (eo o) (ko (kf o)) (so o)) : fX (fgE S Ow) S S' := by
  obtain ⟨⟨-, -, i1, i2⟩, ⟨i3, -⟩, i5, -⟩ := h
  obtain ⟨d1, d2, -, d4, -⟩ := hd
  obtain ⟨o1, -, o3, -⟩ := i5 o ho hc
  obtain ⟨s1, s2, s3, s4, s5, s6⟩ := d1
  intro a ha
  refine ⟨s1 a, s2 a, fun f hf => s3 f a (fun z => hf ?_), fun f hf => d2 f a (fun z => hf ?_), fun f hf => d4 f a (fun z => hf ?_) (fun z => hf ?_), fun j _ => s4 a j, fun j _ => s5 a j, fun j _ => s6 a j⟩
  · rcases z with ⟨rfl, rfl⟩ | ⟨rfl, rfl⟩ | ⟨rfl, z⟩
    · exact ⟨i2, Or.inl ⟨i1, Or.inl ⟨rfl, rfl⟩⟩⟩
    · exact ⟨(i3 _ o1).2, Or.inr ⟨(i3 _ o1).1, Or.inl ⟨rfl, Or.inl rfl⟩⟩⟩
    · exact ⟨(o3 a z).2, Or.inr ⟨(o3 a z).1, Or.inl ⟨rfl, Or.inr rfl⟩⟩⟩
  · obtain ⟨rfl, rfl⟩ := z
    exact ⟨(i3 _ o1).2, Or.inr ⟨(i3 _ o1).1, Or.inr (Or.inl ⟨rfl, rfl⟩)⟩⟩
  · obtain ⟨rfl, rfl⟩ := z
    exact ⟨i2, Or.inl ⟨i1, Or.inr ⟨rfl, rfl⟩⟩⟩
  · obtain ⟨rfl, rfl⟩ := z
    exact ⟨(i3 _ o1).2, Or.inr ⟨(i3 _ o1).1, Or.inr (Or.inr ⟨rfl, rfl⟩)⟩⟩
theorem cI.fg (h : cI S ra Ow ko eo ev kf C Kf am so vv lo p) {o : Nat} (ho : nx C lo p = some o) (hd : fgD S S' ra (eo o) (ko (kf o)) (so o)) : cI S' ra Ow ko eo ev kf C Kf am so vv (o + 1) p := by
  obtain ⟨n1, n2, n3, n4⟩ := nx_some p o ho
  obtain ⟨⟨i0, i00, i1, i2⟩, ⟨i3, i4⟩, i5, i6, ⟨i7, i8, i9, i10⟩, ⟨i11, i12⟩, i13, i14⟩ := h
  obtain ⟨⟨s1, s2, s3, s4, s5, s6⟩, d2, d3, d4, d5, d6, d7, d8, d9⟩ := hd
  obtain ⟨o1, o2, o3, o4, o5, o6, o7, o8, o9, o10⟩ := i5 o n2 n3
  have eK : ∀ f x, lo ≤ x → x < o → ¬ cK C kf f x := fun f x h1 h2 h3 => n4 x h1 h2 h3.1
  have eK2 : ∀ f, f ≠ kf o → ∀ x, lo ≤ x → x < o + 1 → ¬ cK C kf f x := fun f hf x h1 h2 h3 => by
    by_cases c : x = o
    · rw [c] at h3; exact hf h3.2.symm
    · exact n4 x h1 (by omega) h3.1
  have cnt : ∀ a, (0 : Int) ≤ sS (cA C so a) (fun _ => 1) (o + 1) (p - (o + 1)) ∧ sS (cA C so a) (fun _ => 1) (o + 1) (p - (o + 1)) < 4001 := fun a => by
    have := sS_cn (P := cA C so a) (lo := o + 1) (r := p - (o + 1))
    omega
  have e511 : ∀ c, so o = some c → cs_i S 511 c - 1 = yI (sS (cA C so c) (fun _ => 1) (o + 1) (p - (o + 1))) := fun c hc => by
    rw [i13 o c n2 n3 hc, sS_skip (m := o) n1 (by omega) (fun x h1 h2 h3 => n4 x h1 h2 h3.1), sS_fst n2 ⟨n3, hc⟩, yI_m]
    refine congrArg yI ?_
    omega
  refine ⟨⟨by omega, i00, (s1 ra).trans i1, i2⟩, ⟨fun f hf => ⟨(s1 _).trans (i3 f hf).1, (i3 f hf).2⟩, i4⟩, fun x hx hc => ?_, i6, ⟨?_, fun x hx hl hc => ?_, fun z hz hl => ?_, ?_⟩, ⟨fun f hf => ?_, fun x hx hc => ?_⟩, fun x a hx hc ha => ?_, i14⟩
  · obtain ⟨x1, x2, x3, x4, x5, x6, x7, x8, x9, x10⟩ := i5 x hx hc
    refine ⟨x1, x2, fun a ha => ⟨(s1 a).trans (x3 a ha).1, (x3 a ha).2⟩, (s1 _).trans x4, x5, (s1 _).trans x6, ?_, ?_, ?_, ?_⟩
    · rw [d4 300 _ (fun z => absurd z.1 (by decide)) (fun z => absurd z.1 (by decide))]; exact x7
    · rw [d4 301 _ (fun z => absurd z.1 (by decide)) (fun z => absurd z.1 (by decide))]; exact x8
    · rw [s3 302 _ (fun z => by omega)]; exact x9
    · rw [d4 303 _ (fun z => absurd z.1 (by decide)) (fun z => absurd z.1 (by decide))]; exact x10
  · rw [d5]; exact i8 o n2 n1 n3
  · rw [d4 304 _ (fun z => absurd z.1 (by decide)) (fun z => absurd z.1 (by decide))]; exact i8 x hx (by omega) hc
  · rw [d4 815 _ (fun z => absurd z.1 (by decide)) (fun z => absurd z.1 (by decide))]; exact i9 z hz (by omega)
  · rw [d7, i10, sS_skip (m := o) n1 (by omega) n4, sS_fst n2 n3, yI_m]
    refine congrArg yI ?_
    omega
  · obtain ⟨f1, f2, f3, f4⟩ := i11 f hf
    by_cases c : f = kf o
    · subst c
      refine ⟨?_, ?_, ?_, ?_⟩
      · rw [d6]; exact i12 o n2 n3
      · rw [d4 506 _ (fun z => absurd z.1 (by decide)) (fun z => absurd z.1 (by decide))]; exact f2
      · rw [d3, f3, sS_skip (m := o) n1 (by omega) (eK _), sS_fst n2 ⟨n3, rfl⟩, z_sub, o9]
        refine congrArg Int64.ofInt ?_
        show (am o).toInt + _ - (am o).toInt = _
        omega
      · cases hs : so o with
        | none =>
          rw [d8 hs, f4]
          refine congrArg yI ?_
          refine sS_cong _ (fun v _ _ => ⟨⟨?_, ?_⟩, fun _ => rfl⟩)
          · rintro ⟨y, y1, y2, y3, y4, y5, y6⟩
            refine ⟨y, ?_, y2, y3, y4, y5, y6⟩
            by_cases c1 : y < o
            · exact absurd y3 (n4 y y1 c1)
            · by_cases c2 : y = o
              · rw [c2] at y6; exact absurd hs y6
              · omega
          · rintro ⟨y, y1, y2, y3⟩
            exact ⟨y, by omega, y2, y3⟩
        | some a =>
          obtain ⟨-, z1, z2⟩ := d9 a hs
          rw [e511 a hs] at z1 z2
          by_cases c0 : ∃ y, o + 1 ≤ y ∧ y < p ∧ cA C so a y
          · obtain ⟨y, y1, y2, y3⟩ := c0
            have h1 := sS_pos (P := cA C so a) y1 y2 y3
            have h2 := cnt a
            have h3 : ¬ yI (sS (cA C so a) (fun _ => 1) (o + 1) (p - (o + 1))) = 0 := fun q => by
              rw [yI_e (by omega) (by omega)] at q
              have : (0 : Int32).toInt = 0 := by decide
              omega
            rw [z2 h3, f4]
            refine congrArg yI ?_
            refine sS_cong _ (fun v _ _ => ⟨⟨?_, ?_⟩, fun _ => rfl⟩)
            · rintro ⟨x, x1, x2, x3, x4, x5, x6⟩
              by_cases c1 : x < o
              · exact absurd x3 (n4 x x1 c1)
              · by_cases c2 : x = o
                · subst c2
                  have := (i14 x y a n2 y2 n3 y3.1 hs).mp y3.2
                  exact ⟨y, y1, y2, y3.1, this.1.symm, by rw [← x5]; exact this.2.symm, by rw [y3.2]; exact fun q => nomatch q⟩
                · exact ⟨x, by omega, x2, x3, x4, x5, x6⟩
            · rintro ⟨x, x1, x2, x3⟩
              exact ⟨x, by omega, x2, x3⟩
          · have h1 : sS (cA C so a) (fun _ => 1) (o + 1) (p - (o + 1)) = 0 := sS_zero _ (fun x h1 h2 h3 => c0 ⟨x, h1, by omega, h3⟩)
            rw [h1] at z1
            rw [z1 rfl, f4, yI_m]
            refine congrArg yI ?_
            have := sS_upd (P := dV C kf so vv (o + 1) p (kf o)) (P' := dV C kf so vv lo p (kf o)) (v0 := vv o) (N := 32000) o2 (fun v hv => ⟨?_, ?_⟩) ?_ ?_
            · omega
            · rintro ⟨x, x1, x2, x3⟩
              exact ⟨x, by omega, x2, x3⟩
            · rintro ⟨x, x1, x2, x3, x4, x5, x6⟩
              by_cases c1 : x < o
              · exact absurd x3 (n4 x x1 c1)
              · by_cases c2 : x = o
                · rw [c2] at x5; exact absurd x5.symm hv
                · exact ⟨x, by omega, x2, x3, x4, x5, x6⟩
            · rintro ⟨x, x1, x2, x3, x4, x5, x6⟩
              exact c0 ⟨x, x1, x2, x3, (i14 o x a n2 x2 n3 x3 hs).mpr ⟨x4.symm, x5.symm⟩⟩
            · exact ⟨o, n1, n2, n3, rfl, rfl, by rw [hs]; exact fun q => nomatch q⟩
    · have hne : ko f ≠ ko (kf o) := fun q => c (i4 _ _ hf o1 q)
      refine ⟨?_, ?_, ?_, ?_⟩
      · rw [d4 505 _ (fun z => absurd z.1 (by decide)) (fun z => hne z.2), f1, nx_skip (by omega) (eK2 f c)]
      · rw [d4 506 _ (fun z => absurd z.1 (by decide)) (fun z => absurd z.1 (by decide))]; exact f2
      · rw [d2 509 _ (fun z => hne z.2), f3, sS_skip (by omega) (by omega) (eK2 f c)]
      · rw [s3 510 _ (fun z => ?_), f4]
        · refine congrArg yI ?_
          refine sS_cong _ (fun v _ _ => ⟨⟨?_, ?_⟩, fun _ => rfl⟩)
          · rintro ⟨y, y1, y2, y3, y4, y5, y6⟩
            refine ⟨y, ?_, y2, y3, y4, y5, y6⟩
            exact Nat.not_lt.mp (fun q => eK2 f c y y1 q ⟨y3, y4⟩)
          · rintro ⟨y, y1, y2, y3⟩
            exact ⟨y, by omega, y2, y3⟩
        · rcases z with z | z | z
          · exact absurd z.1 (by decide)
          · exact hne z.2
          · exact absurd z.1 (by decide)
  · rw [d4 305 _ (fun z => absurd z.1 (by decide)) (fun z => absurd z.1 (by decide))]; exact i12 x hx hc
  · by_cases c : so o = some a
    · rw [(d9 a c).1, e511 a c]
    · rw [s3 511 a (fun z => ?_), i13 x a hx hc ha, sS_skip (m := o + 1) (by omega) (by omega) (fun y h1 h2 h3 => ?_)]
      · by_cases c1 : y = o
        · rw [c1] at h3; exact c h3.2
        · exact n4 y h1 (by omega) h3.1
      · rcases z with z | z | z
        · exact absurd z.1 (by decide)
        · exact absurd z.1 (by decide)
        · exact c z.2
end FG
section FG2
variable {G : Nat → Nat} {S : cs_S} {ra : Nat} {Ow : Nat → Prop} {ko eo ev kf : Nat → Nat} {C Kf : Nat → Prop} {am : Nat → Int32} {so : Nat → Option Nat} {vv : Nat → Nat} {p t w : Nat} {tm : Nat → Nat} {post : cs_S → Prop}
theorem cfg_0 (hw : w ≤ 1000000) (ht : t ≤ 2000000000) (hmono : ∀ o o', o ≤ o' → o' < p → tm o ≤ tm o') : ∀ n (S : cs_S) lo, p - lo ≤ n → cs_i S 810 ra = nI w → (∀ o, o < p → C o → cs_i S 400 (ev o) = nI (tm o) ∧ tm o ≤ 2000000000) → cI S ra Ow ko eo ev kf C Kf am so vv lo p → (∀ S' lo', lo ≤ lo' → fX (fgE S Ow) S S' → cI S' ra Ow ko eo ev kf C Kf am so vv lo' p → (∀ o, lo ≤ o → o < lo' → C o → tm o + w ≤ t) → (∀ o, lo' ≤ o → o < p → C o → t < tm o + w) → post S') → w_X7_forget_0 post G (n + 1) S ra (nI t) := by
  intro n
  induction n with
  | zero =>
    intro S lo hn h810 htm h hp
    obtain ⟨⟨i0, i00, i1, i2⟩, -, -, -, ⟨i7, -⟩, -⟩ := id h
    have e : nx C lo p = none := nx_no (fun x h1 h2 => absurd h1 (by omega))
    rw [e] at i7
    refine ⟨i1, fun r42 e42 => ⟨fun _ => hp S lo (Nat.le_refl _) fX.rfl h (fun o h1 h2 => absurd h1 (by omega)) (fun o h1 h2 => absurd h1 (by omega)), fun b e43 => ?_⟩⟩
    rw [e42, i7] at e43; cases e43
  | succ n ih =>
    intro S lo hn h810 htm h hp
    obtain ⟨⟨i0, i00, i1, i2⟩, ⟨i3, i4⟩, i5, i6, ⟨i7, i8, i9, i10⟩, -⟩ := id h
    refine ⟨i1, fun r42 e42 => ⟨fun en => ?_, fun b43 e43 r44 e44 => ?_⟩⟩
    · have e : nx C lo p = none := by
        rw [e42, i7] at en
        cases c : nx C lo p with
        | none => rfl
        | some o => rw [c] at en; cases en
      exact hp S lo (Nat.le_refl _) fX.rfl h (fun o h1 h2 => absurd h1 (by omega)) (fun o h1 h2 h3 => absurd h3 (nx_none p e o h1 h2))
    · have hx : ∃ o, nx C lo p = some o := by
        rw [e42, i7] at e43
        cases c : nx C lo p with
        | none => rw [c] at e43; cases e43
        | some o => exact ⟨o, rfl⟩
      obtain ⟨o, ho⟩ := hx
      obtain ⟨n1, n2, n3, n4⟩ := nx_some p o ho
      obtain ⟨o1, o2, o3, o4, o5, o6, o7, o8, o9, o10⟩ := i5 o n2 n3
      obtain ⟨t1, t2⟩ := htm o n2 n3
      rw [ho] at i7
      have i7' : cs_r S 814 ra = some (eo o) := i7
      refine ⟨eo o, e44.trans i7', o4, fun r47 e47 => ⟨ev o, e47.trans o7, o6, fun c => ?_, fun c => ?_⟩⟩
      · rw [h810, t1] at c
        have c1 := (win ht t2 hw).1.mp c
        exact hp S lo (Nat.le_refl _) fX.rfl h (fun o h1 h2 => absurd h1 (by omega)) (fun x h1 h2 h3 => by
          have : ¬ x < o := fun q => n4 x h1 q h3
          have := hmono o x (by omega) h2
          omega)
      · rw [h810, t1] at c
        have c1 : tm o + w ≤ t := Nat.not_lt.mp (fun q => c ((win ht t2 hw).1.mpr q))
        refine fun r50 e50 => ⟨eo o, e50.trans i7', o4, fun r53 e53 S54 e54 => ?_⟩
        subst e54
        refine ⟨i1, fun S56 e56 => ?_⟩
        subst e56
        refine ⟨o4, fun r58 e58 r59 e59 => ⟨ko (kf o), ?_, (i3 _ o1).1, fun S62 e62 => ?_⟩⟩
        · rw [e58, rui, rur, if_neg (fun z => absurd z.1 (by decide))]; exact o8
        subst e62
        refine ⟨o4, fun r64 e64 => ⟨ko (kf o), ?_, (i3 _ o1).1, fun S67 e67 => ?_⟩⟩
        · rw [e64, rur, if_neg (fun z => absurd z.1 (by decide)), rui, rur, if_neg (fun z => absurd z.1 (by decide))]; exact o8
        have go : ∀ S', fgD S S' ra (eo o) (ko (kf o)) (so o) → w_X7_forget_0 post G (n + 1) S' ra (nI t) := fun S' hd => by
          have hF := h.fgx n2 n3 hd
          refine ih S' (o + 1) (by omega) ?_ (fun x hx hc => ⟨?_, (htm x hx hc).2⟩) (h.fg ho hd) (fun S2 lo' g1 g2 g3 g4 g5 => hp S2 lo' (by omega) (hF.tr g2 ?_) g3 ?_ g5)
          · have := hd.1.2.2.1 810 ra (fun z => by omega)
            rw [this]; exact h810
          · have := hd.1.2.2.1 400 (ev x) (fun z => by omega)
            rw [this]; exact (htm x hx hc).1
          · intro s f a ha z
            have hk : cs_k S' a = cs_k S a := hd.1.1 a
            unfold fgE at z ⊢
            rw [hk] at z
            exact z
          · intro x h1 h2 h3
            by_cases c2 : x ≤ o
            · by_cases c3 : x = o
              · rw [c3]; exact c1
              · exact absurd h3 (n4 x h1 (by omega))
            · exact g4 x (by omega) h2 h3
        have q509 : cs_l S67 509 (ko (kf o)) = cs_l S 509 (ko (kf o)) - (cs_i S 302 (eo o)).toInt64 := by
          subst e67
          rw [lul, if_pos ⟨rfl, rfl⟩]
          show cs_l S 509 (ko (kf o)) - (cs_i (cs_ui (cs_ur S 814 ra r53) 813 ra (cs_i (cs_ur S 814 ra r53) 813 ra - 1)) 302 (eo o)).toInt64 = _
          rw [iui, if_neg (fun z => absurd z.1 (by decide))]
          rfl
        have q509' : ∀ f x, ¬ (f = 509 ∧ x = ko (kf o)) → cs_l S67 f x = cs_l S f x := fun f x hf => by
          subst e67
          rw [lul, if_neg hf]
          rfl
        have qr : ∀ f x, ¬ (f = 814 ∧ x = ra) → ¬ (f = 505 ∧ x = ko (kf o)) → cs_r S67 f x = cs_r S f x := fun f x h1 h2 => by
          subst e67
          rw [rul, rur, if_neg h2, rui, rur, if_neg h1]
        have q814 : cs_r S67 814 ra = cs_r S 304 (eo o) := by
          subst e67
          rw [rul, rur, if_neg (fun z => absurd z.1 (by decide)), rui, rur, if_pos ⟨rfl, rfl⟩]
          exact e53
        have q505 : cs_r S67 505 (ko (kf o)) = cs_r S 305 (eo o) := by
          subst e67
          rw [rul, rur, if_pos ⟨rfl, rfl⟩, e59, rui, rur, if_neg (fun z => absurd z.1 (by decide))]
        have q813 : cs_i S67 813 ra = cs_i S 813 ra - 1 := by
          subst e67
          rw [iul, iur, iui, if_pos ⟨rfl, rfl⟩]
          rfl
        have qi : ∀ f x, ¬ (f = 813 ∧ x = ra) → cs_i S67 f x = cs_i S f x := fun f x hf => by
          subst e67
          rw [iul, iur, iui, if_neg hf]
          rfl
        have qk : ∀ x, cs_k S67 x = cs_k S x := fun x => by subst e67; rfl
        have qs : sI (fun f x => (f = 813 ∧ x = ra) ∨ (f = 510 ∧ x = ko (kf o)) ∨ (f = 511 ∧ so o = some x)) S S67 := by
          subst e67
          exact ((sI.rfl.ur.ui (Or.inl ⟨rfl, rfl⟩)).ur).ul
        have q303 : cs_r S67 303 (eo o) = so o := by
          rw [qr 303 _ (fun z => absurd z.1 (by decide)) (fun z => absurd z.1 (by decide))]; exact o10
        refine ⟨(qk _).trans o4, fun r69 e69 => ⟨fun en => ?_, fun b70 e70 r71 e71 => ?_⟩⟩
        · have hn : so o = none := by rw [← q303, ← e69]; exact en
          refine go S67 ⟨qs, q509', q509, qr, q814, q505, q813, fun _ => qi 510 _ (fun z => absurd z.1 (by decide)), fun c hc => ?_⟩
          rw [hn] at hc; cases hc
        · have hs : so o = some b70 := by rw [← q303, ← e69]; exact e70
          refine ⟨b70, by rw [e71, q303]; exact hs, (qk _).trans (o3 _ hs).1, fun S74 e74 => ?_⟩
          have w303 : cs_r S74 303 (eo o) = some b70 := by subst e74; rw [rui, q303]; exact hs
          have w511 : cs_i S74 511 b70 = cs_i S 511 b70 - 1 := by
            subst e74
            rw [iui, if_pos ⟨rfl, rfl⟩, qi 511 _ (fun z => absurd z.1 (by decide))]
          have wk : ∀ x, cs_k S74 x = cs_k S x := fun x => by subst e74; exact qk x
          have ws : sI (fun f x => (f = 813 ∧ x = ra) ∨ (f = 510 ∧ x = ko (kf o)) ∨ (f = 511 ∧ so o = some x)) S S74 := by
            subst e74
            exact qs.ui (Or.inr (Or.inr ⟨rfl, hs⟩))
          have wr : ∀ f x, cs_r S74 f x = cs_r S67 f x := fun f x => by subst e74; rfl
          have wl : ∀ f x, cs_l S74 f x = cs_l S67 f x := fun f x => by subst e74; rfl
          have wi : ∀ f x, f ≠ 511 → cs_i S74 f x = cs_i S67 f x := fun f x hf => by subst e74; rw [iui, if_neg (fun z => hf z.1)]
          refine ⟨(wk _).trans o4, fun r76 e76 => ⟨b70, e76.trans w303, (wk _).trans (o3 _ hs).1, fun cz => ?_, fun cz r79 e79 => ?_⟩⟩
          · refine go S74 ⟨ws, fun f x hf => (wl f x).trans (q509' f x hf), (wl _ _).trans q509, fun f x h1 h2 => (wr f x).trans (qr f x h1 h2), (wr _ _).trans q814, (wr _ _).trans q505, (wi 813 ra (by decide)).trans q813, fun hn => ?_, fun c hc => ?_⟩
            · rw [hs] at hn; cases hn
            · rw [hs] at hc; cases hc
              rw [w511] at cz
              exact ⟨w511, fun q => absurd q cz, fun _ => (wi 510 _ (by decide)).trans (qi 510 _ (fun z => absurd z.1 (by decide)))⟩
          · refine ⟨ko (kf o), ?_, (wk _).trans (i3 _ o1).1, fun S82 e82 => ?_⟩
            · rw [e79, wr, qr 301 _ (fun z => absurd z.1 (by decide)) (fun z => absurd z.1 (by decide))]; exact o8
            subst e82
            refine go _ ⟨ws.ui (Or.inr (Or.inl ⟨rfl, rfl⟩)), fun f x hf => (wl f x).trans (q509' f x hf), (wl _ _).trans q509, fun f x h1 h2 => (wr f x).trans (qr f x h1 h2), (wr _ _).trans q814, (wr _ _).trans q505, ?_, fun hn => ?_, fun c hc => ?_⟩
            · rw [iui, if_neg (fun z => absurd z.1 (by decide))]; exact (wi 813 ra (by decide)).trans q813
            · rw [hs] at hn; cases hn
            · rw [hs] at hc; cases hc
              rw [w511] at cz
              refine ⟨?_, fun _ => ?_, fun q => absurd cz q⟩
              · rw [iui, if_neg (fun z => absurd z.1 (by decide))]; exact w511
              · rw [iui, if_pos ⟨rfl, rfl⟩, wi 510 _ (by decide), qi 510 _ (fun z => absurd z.1 (by decide))]
theorem cfg {lo : Nat} (hw : w ≤ 1000000) (ht : t ≤ 2000000000) (hmono : ∀ o o', o ≤ o' → o' < p → tm o ≤ tm o') (h810 : cs_i S 810 ra = nI w) (htm : ∀ o, o < p → C o → cs_i S 400 (ev o) = nI (tm o) ∧ tm o ≤ 2000000000) (h : cI S ra Ow ko eo ev kf C Kf am so vv lo p) (hp : ∀ S' lo', lo ≤ lo' → fX (fgE S Ow) S S' → cI S' ra Ow ko eo ev kf C Kf am so vv lo' p → (∀ o, lo ≤ o → o < lo' → C o → tm o + w ≤ t) → (∀ o, lo' ≤ o → o < p → C o → t < tm o + w) → post S') : wp_X7_forget post G S ra (nI t) :=
  ⟨p - lo + 1, cfg_0 hw ht hmono (p - lo) S lo (Nat.le_refl _) h810 htm h hp⟩
end FG2
