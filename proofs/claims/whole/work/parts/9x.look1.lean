/-! ===== one rule, one event: class and reference (counts, sums, different values) ===== -/
def hkO (σ : rf_S) (r o : Nat) : Prop := ¬ σ.2.2.1 63 (4000 * r + o) = -1
def kfO (σ : rf_S) (r o : Nat) : Nat := (σ.2.2.1 63 (4000 * r + o)).toNatClampNeg
def KfO (σ : rf_S) (r p f : Nat) : Prop := f < p ∧ σ.2.2.1 63 (4000 * r + f) = nI f
def kcO (σ : rf_S) (b f k : Nat) : Int32 × Int32 × (Nat → Int32) := vC σ (8 * f + (fO σ f (σ.2.2.2 37 (3 * b + k))).getD 0)
def cO (σ : rf_S) (r b o : Nat) : Prop := hkO σ r o ∧ σ.2.2.1 64 (4000 * r + o) &&& 1 = 1 ∧ hI σ b o
def amO (σ : rf_S) (b x o : Nat) : Int32 := if x = 2 then σ.2.2.1 15 (8 * o + (fO σ o (σ.2.2.2 36 b)).getD 0) else 0
def scO (σ : rf_S) (b o : Nat) : Int32 × Int32 × (Nat → Int32) := vC σ (8 * o + (fO σ o (σ.2.2.2 36 b)).getD 0)
/-- the keys of the reference are first events -/
def kyO (σ : rf_S) (r p : Nat) : Prop := ∀ o, o < p → σ.2.2.1 63 (4000 * r + o) = -1 ∨ ∃ f, f ≤ o ∧ σ.2.2.1 63 (4000 * r + o) = nI f ∧ σ.2.2.1 63 (4000 * r + f) = nI f
/-- key and bits of event e are set down -/
def upD (σ σ' : rf_S) (r e f B : Nat) : Prop := σ'.1 = σ.1 ∧ σ'.2.1 = σ.2.1 ∧ σ'.2.2.2 = σ.2.2.2 ∧ (∀ k, k ≠ 62 → k ≠ 63 → k ≠ 64 → σ'.2.2.1 k = σ.2.2.1 k) ∧ (∀ j, σ'.2.2.1 63 j = if j = 4000 * r + e then nI f else σ.2.2.1 63 j) ∧ ∀ j, σ'.2.2.1 64 j = if j = 4000 * r + e then nI B else σ.2.2.1 64 j
theorem upD.of {σ σ2 : rf_S} {r e f B : Nat} (h : l62 (rf_ua σ 63 (4000 * r + e) (nI f)) σ2) : upD σ (rf_ua σ2 64 (4000 * r + e) (nI B)) r e f B := by
  obtain ⟨h1, h2, h3, h4⟩ := h
  refine ⟨h1, h2, h4, fun k z1 z2 z3 => ?_, fun j => ?_, fun j => ?_⟩
  · refine funext fun j => ?_
    rw [r3ua, if_neg (fun z => z3 z.1), h3 k z1, r3ua, if_neg (fun z => z2 z.1)]
  · rw [r3ua, if_neg (fun z => absurd z.1 (by decide)), h3 63 (by decide), r3ua]
    by_cases c : j = 4000 * r + e
    · rw [if_pos ⟨rfl, c⟩, if_pos c]
    · rw [if_neg (fun z => c z.2), if_neg c]
  · rw [r3ua]
    by_cases c : j = 4000 * r + e
    · rw [if_pos ⟨rfl, c⟩, if_pos c]
    · rw [if_neg (fun z => c z.2), if_neg c, h3 64 (by decide), r3ua, if_neg (fun z => absurd z.1 (by decide))]
section UPD
variable {σ σ' : rf_S} {r b e f B : Nat}
theorem upD.ev (h : upD σ σ' r e f B) : eV σ σ' := ⟨fun k hk => h.2.2.2.1 k (by omega) (by omega) (by omega), h.2.2.1⟩
theorem upD.o63 (h : upD σ σ' r e f B) {o : Nat} (ho : o ≠ e) : σ'.2.2.1 63 (4000 * r + o) = σ.2.2.1 63 (4000 * r + o) := by rw [h.2.2.2.2.1, if_neg (by omega)]
theorem upD.o64 (h : upD σ σ' r e f B) {o : Nat} (ho : o ≠ e) : σ'.2.2.1 64 (4000 * r + o) = σ.2.2.1 64 (4000 * r + o) := by rw [h.2.2.2.2.2, if_neg (by omega)]
theorem upD.e63 (h : upD σ σ' r e f B) : σ'.2.2.1 63 (4000 * r + e) = nI f := by rw [h.2.2.2.2.1, if_pos rfl]
theorem upD.e64 (h : upD σ σ' r e f B) : σ'.2.2.1 64 (4000 * r + e) = nI B := by rw [h.2.2.2.2.2, if_pos rfl]
theorem eV.vc (h : eV σ σ') {g : Nat} : vC σ' g = vC σ g := by
  unfold vC
  rw [h.1 14 (by decide), h.1 15 (by decide), h.1 16 (by decide), h.1 18 (by decide)]
theorem eV.hi (h : eV σ σ') {o : Nat} : hI σ' b o ↔ hI σ b o := by
  unfold hI
  rw [h.1 38 (by decide), h.1 14 (by decide), h.2, h.fo]
theorem eV.vv (h : eV σ σ') {o : Nat} : vV σ' b o = vV σ b o := by
  unfold vV
  rw [h.1 17 (by decide), h.2, h.fo]
theorem eV.am (h : eV σ σ') {x o : Nat} : amO σ' b x o = amO σ b x o := by
  unfold amO
  rw [h.1 15 (by decide), h.2, h.fo]
theorem eV.sc (h : eV σ σ') {o : Nat} : scO σ' b o = scO σ b o := by
  unfold scO
  rw [h.2, h.fo, h.vc]
theorem eV.kc (h : eV σ σ') {o k : Nat} : kcO σ' b o k = kcO σ b o k := by
  unfold kcO
  rw [h.2, h.fo, h.vc]
theorem upD.co (h : upD σ σ' r e f B) {o : Nat} (ho : o ≠ e) : cO σ' r b o ↔ cO σ r b o := by
  unfold cO hkO
  rw [h.o63 ho, h.o64 ho, h.ev.hi]
theorem upD.kf (h : upD σ σ' r e f B) {o : Nat} (ho : o ≠ e) : kfO σ' r o = kfO σ r o := by
  unfold kfO
  rw [h.o63 ho]
theorem upD.kfe (h : upD σ σ' r e f B) (hf : f < 2 ^ 31) : kfO σ' r e = f := by
  unfold kfO
  rw [h.e63, nI_clamp hf]
theorem nI_m (f : Nat) (hf : f < 2 ^ 31) : ¬ nI f = -1 := fun q => by
  have h1 : (nI f).toInt = (f : Int) := nI_toInt hf
  rw [q] at h1
  have : (-1 : Int32).toInt = -1 := by decide
  omega
theorem upD.coe (h : upD σ σ' r e f B) (hf : f < 2 ^ 31) (hB : B < 64) : cO σ' r b e ↔ B.testBit 0 = true ∧ hI σ b e := by
  unfold cO hkO
  rw [h.e63, h.e64, h.ev.hi, (bt_a B hB).2.1]
  exact ⟨fun z => z.2, fun z => ⟨nI_m f hf, z⟩⟩
theorem ck_cc {p o f : Nat} (h : kyO σ r p) (ho : o < p) (hp : p ≤ 4000) (hf : f < 4000) : cK (cO σ r b) (kfO σ r) f o ↔ cC σ r b f o := by
  unfold cK cO cC hkO kfO
  constructor
  · rintro ⟨⟨h1, h2, h3⟩, h4⟩
    refine ⟨?_, h2, h3⟩
    rcases h o ho with z | ⟨g, z1, z2, z3⟩
    · exact absurd z h1
    · rw [z2, nI_clamp (by omega)] at h4
      rw [z2, h4]
  · rintro ⟨h1, h2, h3⟩
    rw [h1, nI_clamp (by omega)]
    exact ⟨⟨nI_m f (by omega), h2, h3⟩, rfl⟩
end UPD
/-- what a rule's look may change -/
def rE (S : cs_S) (wt bt : Nat) (Ow : Nat → Prop) (_s f a : Nat) : Prop := Ow a ∧ (a = wt ∨ a = bt ∨ (cs_k S a = 9 ∧ 813 ≤ f ∧ f < 816) ∨ (cs_k S a = 6 ∧ 505 ≤ f) ∨ (cs_k S a = 4 ∧ (f = 304 ∨ f = 305)) ∨ cs_k S a = 23)
theorem rE.sh {S : cs_S} {wt bt : Nat} {Ow : Nat → Prop} (hb : cs_k S bt = 25) : sh S wt (rE S wt bt Ow) := fun s f a ha z => by
  rcases z.2 with z | z | z | z | z | z
  · exact Or.inl z
  · subst z
    exact Or.inr ⟨by omega, by omega, by omega, by omega, by omega, by omega, fun y => by omega, fun y => by omega, fun y => by omega⟩
  all_goals exact Or.inr ⟨by omega, by omega, by omega, by omega, by omega, by omega, fun y => by omega, fun y => by omega, fun y => by omega⟩
theorem rE.ru {S : cs_S} {wt bt : Nat} {Ow : Nat → Prop} : ∀ s f a, ruE S Ow s f a → rE S wt bt Ow s f a := fun s f a h => ⟨h.1, by
  rcases h.2 with z | z | z
  · exact Or.inr (Or.inr (Or.inl ⟨z.1, by omega⟩))
  · exact Or.inr (Or.inr (Or.inr (Or.inl ⟨z.1, by omega⟩)))
  · exact Or.inr (Or.inr (Or.inr (Or.inr (Or.inl z))))⟩
theorem rE.sub {S S1 : cs_S} {E : Nat → Nat → Nat → Prop} {wt bt : Nat} {Ow Ow1 : Nat → Prop} (hF : fX E S S1) (hO : oX S Ow Ow1) : ∀ s f a, cs_k S a ≠ 0 → rE S1 wt bt Ow1 s f a → rE S wt bt Ow s f a := fun s f a ha z => by
  unfold rE at z ⊢
  rw [(hF a ha).1] at z
  exact ⟨hO.2 a ha z.1, z.2⟩
/-- the window of a rule that counts, against the reference -/
def jC (S : cs_S) (σ : rf_S) (r ra b x w L : Nat) (Ow : Nat → Prop) (ko ev : Nat → Nat) (Kf : Nat → Prop) (so : Nat → Option Nat) (tm eo : Nat → Nat) (lo p now : Nat) : Prop :=
  cI S ra Ow ko eo ev (kfO σ r) (cO σ r b) Kf (amO σ b x) so (vV σ b) lo p ∧ (x = 0 → nthI S ko eo (kfO σ r) (cO σ r b) Kf L p) ∧ (x ≠ 1 → ∀ o, so o = none) ∧ (x = 1 → ∀ o, o < p → cO σ r b o → so o ≠ none) ∧ ∀ o, o < lo → cO σ r b o → tm o + w ≤ now

section STO
variable {σ : rf_S} {r b e f w lo : Nat} {tm : Nat → Nat} {res : Option Nat}
theorem wc_lo (hk : kyO σ r (e + 1)) (he : e < 4000) (hf : f < 4000) (h1 : ∀ o, o < lo → cO σ r b o → tm o + w ≤ tm e) (h2 : ∀ o, lo ≤ o → o ≤ e → cO σ r b o → tm e < tm o + w) : ∀ o, o ≤ e → (wC σ r b f e w tm o ↔ lo ≤ o ∧ cK (cO σ r b) (kfO σ r) f o) := fun o ho => by
  unfold wC
  rw [← ck_cc hk (by omega) (by omega) hf]
  constructor
  · rintro ⟨z1, z2⟩
    refine ⟨?_, z1⟩
    have : ¬ o < lo := fun q => by have := h1 o q z1.1; omega
    omega
  · rintro ⟨z1, z2⟩
    exact ⟨z2, h2 o z1 ho z2.1⟩
theorem st_c {L o : Nat} (hk : kyO σ r (e + 1)) (he : e < 4000) (hf : f < 4000) (hx : σ.2.2.1 38 b = 0) (hL : σ.2.2.1 39 b = nI L) (hL1 : 1 ≤ L) (hL2 : L ≤ 1000) (hm : ∀ o o', o ≤ o' → o' ≤ e → tm o ≤ tm o') (hst : stO σ r b e f w tm res) (ho : o ≤ e) (hc : cK (cO σ r b) (kfO σ r) f o) (hmin : sS (cK (cO σ r b) (kfO σ r) f) (fun _ => 1) o (e + 1 - o) = min (sS (cK (cO σ r b) (kfO σ r) f) (fun _ => 1) 0 (e + 1)) L) : (if (L : Int) ≤ sS (cK (cO σ r b) (kfO σ r) f) (fun _ => 1) 0 (e + 1) ∧ tm e < tm o + w then nI o else -1) = oI res := by
  have eL : (σ.2.2.1 39 b).toInt = (L : Int) := by rw [hL]; exact nI_toInt (by omega)
  have hwc : ∀ y, y ≤ e → (wC σ r b f e w tm y ↔ cK (cO σ r b) (kfO σ r) f y ∧ tm e < tm y + w) := fun y hy => by
    unfold wC
    rw [← ck_cc hk (by omega) (by omega) hf]
  have eqs : ∀ y, y ≤ e → tm e < tm y + w → sS (wC σ r b f e w tm) (fun _ => 1) y (e + 1 - y) = sS (cK (cO σ r b) (kfO σ r) f) (fun _ => 1) y (e + 1 - y) := fun y hy ht => sS_cong _ (fun z h1 h2 => ⟨by
    rw [hwc z (by omega)]
    have := hm y z h1 (by omega)
    exact ⟨fun q => q.1, fun q => ⟨q, by omega⟩⟩, fun _ => rfl⟩)
  have mono : ∀ {C : Nat → Prop} (y : Nat), y ≤ e + 1 → sS C (fun _ => 1) y (e + 1 - y) ≤ sS C (fun _ => 1) 0 (e + 1) := fun {C} y hy => by
    have := cn_mono (C := C) (e := e) y 0 (by omega)
    simpa using this
  rcases hst with ⟨z, -⟩ | ⟨-, z, -⟩ | ⟨z1, z2, z3⟩ | ⟨-, z, -⟩
  · rw [hx] at z; exact absurd z (by decide)
  · exact absurd (Or.inl ⟨by rw [hx]; decide, by rw [hx]; decide⟩) z
  · rcases z3 with ⟨o', q1, q2, q3, q4⟩ | ⟨q1, q2⟩
    · have w1 := (hwc o' q2).mp q3
      rw [eL] at q4
      have q5 := eqs o' q2 w1.2
      rw [q4] at q5
      have q6 := mono (C := cK (cO σ r b) (kfO σ r) f) o' (by omega)
      have hT : (L : Int) ≤ sS (cK (cO σ r b) (kfO σ r) f) (fun _ => 1) 0 (e + 1) := by omega
      have hL' : sS (cK (cO σ r b) (kfO σ r) f) (fun _ => 1) o (e + 1 - o) = L := by omega
      have hoo : o = o' := by
        by_cases c1 : o < o'
        · exact absurd q5.symm (cn_uni c1 q2 hc hL')
        · by_cases c2 : o' < o
          · exact absurd hL' (cn_uni c2 ho w1.1 q5.symm)
          · omega
      rw [hoo, if_pos ⟨hT, w1.2⟩, q1]; rfl
    · rw [eL] at q2
      rw [if_neg, q1]
      · rfl
      · rintro ⟨c1, c2⟩
        have q5 := eqs o ho c2
        have q6 := mono (C := wC σ r b f e w tm) o (by omega)
        omega
  · rcases z with z | z <;> rw [hx] at z <;> exact absurd z (by decide)
/-- sums and different values -/
theorem st_n {X : Prop} [Decidable X] {o : Nat} (hk : kyO σ r (e + 1)) (he : e < 4000) (hf : f < 4000) (hx : σ.2.2.1 38 b = 1 ∨ σ.2.2.1 38 b = 2) (hhi : hI σ b e) (h1 : ∀ o, o < lo → cO σ r b o → tm o + w ≤ tm e) (h2 : ∀ o, lo ≤ o → o ≤ e → cO σ r b o → tm e < tm o + w) (hst : stO σ r b e f w tm res) (ho : nx (cK (cO σ r b) (kfO σ r) f) lo (e + 1) = some o)
    (hX : X ↔ ((σ.2.2.1 38 b = 2 → (σ.2.2.1 39 b).toInt ≤ sS (wC σ r b f e w tm) (vS σ b) 0 (e + 1)) ∧ (σ.2.2.1 38 b = 1 → (σ.2.2.1 39 b).toInt ≤ sS (pV σ r b f e w tm 0) (fun _ => 1) 0 32000))) : (if X then nI o else -1) = oI res := by
  obtain ⟨n1, n2, n3, n4⟩ := nx_some _ _ ho
  have hw := wc_lo (f := f) hk he hf h1 h2
  rcases hst with ⟨z, -⟩ | ⟨-, z, -⟩ | ⟨z1, z2, z3⟩ | ⟨-, z, z3⟩
  · rcases hx with q | q <;> rw [q] at z <;> exact absurd z (by decide)
  · exact absurd hhi z
  · rcases hx with q | q <;> rw [q] at z2 <;> exact absurd z2 (by decide)
  · rcases z3 with ⟨o', q1, q2, q3, q4, q5, q6⟩ | ⟨q1, q2, q3⟩
    · have w1 := (hw o' q2).mp q3
      have : o = o' := by
        by_cases c1 : o < o'
        · exact absurd ((hw o (by omega)).mpr ⟨n1, n3⟩) (q4 o c1)
        · by_cases c2 : o' < o
          · exact absurd w1.2 (n4 o' w1.1 c2)
          · omega
      rw [this, if_pos (hX.mpr ⟨q5, q6⟩), q1]; rfl
    · rw [if_neg, q1]
      · rfl
      · intro c
        obtain ⟨c1, c2⟩ := hX.mp c
        rcases hx with y | y
        · exact q3 y (c2 y)
        · exact q2 y (c1 y)
theorem sum_w (hk : kyO σ r (e + 1)) (he : e < 4000) (hf : f < 4000) (hlo : lo ≤ e + 1) (h1 : ∀ o, o < lo → cO σ r b o → tm o + w ≤ tm e) (h2 : ∀ o, lo ≤ o → o ≤ e → cO σ r b o → tm e < tm o + w) (hx : σ.2.2.1 38 b = 2) : sS (wC σ r b f e w tm) (vS σ b) 0 (e + 1) = sS (cK (cO σ r b) (kfO σ r) f) (fun o => (amO σ b 2 o).toInt) lo (e + 1 - lo) := by
  have hw := wc_lo (f := f) hk he hf h1 h2
  have := sS_skip (P := wC σ r b f e w tm) (v := vS σ b) (lo := 0) (p := e + 1) (m := lo) (by omega) hlo (fun x _ h3 h4 => by have := ((hw x (by omega)).mp h4).1; omega)
  rw [Nat.sub_zero] at this
  rw [this]
  refine sS_cong _ (fun x h3 h4 => ⟨?_, fun h5 => ?_⟩)
  · rw [hw x (by omega)]
    exact ⟨fun z => z.2, fun z => ⟨h3, z⟩⟩
  · obtain ⟨-, -, hh⟩ := h5.1
    rcases hh with z | ⟨k, k1, k2⟩
    · exact absurd hx z.2
    · show vS σ b x = (amO σ b 2 x).toInt
      unfold vS amO
      rw [k1, if_pos rfl]; rfl
theorem dis_w {so : Nat → Option Nat} (hk : kyO σ r (e + 1)) (he : e < 4000) (hf : f < 4000) (h1 : ∀ o, o < lo → cO σ r b o → tm o + w ≤ tm e) (h2 : ∀ o, lo ≤ o → o ≤ e → cO σ r b o → tm e < tm o + w) (hso : ∀ o, o < e + 1 → cO σ r b o → so o ≠ none) : sS (pV σ r b f e w tm 0) (fun _ => 1) 0 32000 = sS (dV (cO σ r b) (kfO σ r) so (vV σ b) lo (e + 1) f) (fun _ => 1) 0 32000 := by
  have hw := wc_lo (f := f) hk he hf h1 h2
  refine sS_cong _ (fun v _ _ => ⟨⟨?_, ?_⟩, fun _ => rfl⟩)
  · rintro ⟨o, -, o2, o3, o4⟩
    obtain ⟨q1, q2⟩ := (hw o o2).mp o3
    exact ⟨o, q1, by omega, q2.1, q2.2, o4, hso o (by omega) q2.1⟩
  · rintro ⟨o, o1, o2, o3, o4, o5, o6⟩
    exact ⟨o, by omega, by omega, (hw o (by omega)).mpr ⟨o1, o3, o4⟩, o5⟩
end STO
