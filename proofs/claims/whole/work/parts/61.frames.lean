/-! ===== what reading a record leaves alone ===== -/
/-- the class's heap: all that was there is as it was, but for the reader's fault, place and at -/
def rg (rc : Nat) (S S' : cs_S) : Prop := ∀ a, cs_k S a ≠ 0 → cs_k S' a = cs_k S a ∧ cs_n S' a = cs_n S a ∧ (∀ f, cs_l S' f a = cs_l S f a) ∧ (∀ f, cs_r S' f a = cs_r S f a) ∧ (∀ f, (a = rc → f ≠ 700 ∧ f ≠ 701 ∧ f ≠ 706) → cs_i S' f a = cs_i S f a) ∧ (∀ j, cs_ai S' a j = cs_ai S a j) ∧ (∀ j, cs_al S' a j = cs_al S a j) ∧ (∀ j, cs_ar S' a j = cs_ar S a j)
section RG
variable {rc q f ci k n j : Nat} {S S1 S2 : cs_S} {x : Int32} {y : Int64} {z : Option Nat}
theorem rg.rfl : rg rc S S := fun _ _ => ⟨Eq.refl _, Eq.refl _, fun _ => Eq.refl _, fun _ => Eq.refl _, fun _ _ => Eq.refl _, fun _ => Eq.refl _, fun _ => Eq.refl _, fun _ => Eq.refl _⟩
theorem rg.live (h : rg rc S S1) {a : Nat} (ha : cs_k S a ≠ 0) : cs_k S1 a ≠ 0 := by rw [(h a ha).1]; exact ha
theorem rg.trans (h : rg rc S S1) (g : rg rc S1 S2) : rg rc S S2 := by
  intro a ha
  obtain ⟨h1, h2, h3, h4, h5, h6, h7, h8⟩ := h a ha
  obtain ⟨g1, g2, g3, g4, g5, g6, g7, g8⟩ := g a (h.live ha)
  exact ⟨g1.trans h1, g2.trans h2, fun f => (g3 f).trans (h3 f), fun f => (g4 f).trans (h4 f), fun f e => (g5 f e).trans (h5 f e), fun j => (g6 j).trans (h6 j), fun j => (g7 j).trans (h7 j), fun j => (g8 j).trans (h8 j)⟩
theorem rg.ui (hf : f = 700 ∨ f = 701 ∨ f = 706) : rg rc S (cs_ui S f rc x) := by
  intro a ha
  refine ⟨Eq.refl _, Eq.refl _, fun _ => Eq.refl _, fun _ => Eq.refl _, fun g hg => ?_, fun _ => Eq.refl _, fun _ => Eq.refl _, fun _ => Eq.refl _⟩
  rw [iui, if_neg]
  intro e
  have := hg e.2
  omega
theorem rg.apart (hq : cs_k S q = 0) {a : Nat} (ha : cs_k S a ≠ 0) : a ≠ q := fun e => ha (by rw [e]; exact hq)
theorem rg.fui (h : rg rc S S1) (hq : cs_k S q = 0) : rg rc S (cs_ui S1 f q x) := by
  intro a ha
  obtain ⟨h1, h2, h3, h4, h5, h6, h7, h8⟩ := h a ha
  exact ⟨h1, h2, h3, h4, fun g hg => by rw [iui, if_neg (fun e => rg.apart hq ha e.2)]; exact h5 g hg, h6, h7, h8⟩
theorem rg.ful (h : rg rc S S1) (hq : cs_k S q = 0) : rg rc S (cs_ul S1 f q y) := by
  intro a ha
  obtain ⟨h1, h2, h3, h4, h5, h6, h7, h8⟩ := h a ha
  exact ⟨h1, h2, fun g => by rw [lul, if_neg (fun e => rg.apart hq ha e.2)]; exact h3 g, h4, h5, h6, h7, h8⟩
theorem rg.fur (h : rg rc S S1) (hq : cs_k S q = 0) : rg rc S (cs_ur S1 f q z) := by
  intro a ha
  obtain ⟨h1, h2, h3, h4, h5, h6, h7, h8⟩ := h a ha
  exact ⟨h1, h2, h3, fun g => by rw [rur, if_neg (fun e => rg.apart hq ha e.2)]; exact h4 g, h5, h6, h7, h8⟩
theorem rg.fuai (h : rg rc S S1) (hq : cs_k S q = 0) : rg rc S (cs_uai S1 q j x) := by
  intro a ha
  obtain ⟨h1, h2, h3, h4, h5, h6, h7, h8⟩ := h a ha
  exact ⟨h1, h2, h3, h4, h5, fun m => by rw [aiuai, if_neg (fun e => rg.apart hq ha e.1)]; exact h6 m, h7, h8⟩
theorem rg.fual (h : rg rc S S1) (hq : cs_k S q = 0) : rg rc S (cs_ual S1 q j y) := by
  intro a ha
  obtain ⟨h1, h2, h3, h4, h5, h6, h7, h8⟩ := h a ha
  exact ⟨h1, h2, h3, h4, h5, h6, fun m => by rw [alual, if_neg (fun e => rg.apart hq ha e.1)]; exact h7 m, h8⟩
theorem rg.fuar (h : rg rc S S1) (hq : cs_k S q = 0) : rg rc S (cs_uar S1 q j z) := by
  intro a ha
  obtain ⟨h1, h2, h3, h4, h5, h6, h7, h8⟩ := h a ha
  exact ⟨h1, h2, h3, h4, h5, h6, h7, fun m => by rw [aruar, if_neg (fun e => rg.apart hq ha e.1)]; exact h8 m⟩
theorem rg.new (h : rg rc S S1) (hq : cs_k S1 q = 0) : rg rc S (cs_new S1 q ci) := by
  intro a ha
  obtain ⟨h1, h2, h3, h4, h5, h6, h7, h8⟩ := h a ha
  have hne : a ≠ q := rg.apart hq (h.live ha)
  exact ⟨by rw [knew, if_neg hne]; exact h1, h2, fun g => by rw [lnew, if_neg hne]; exact h3 g, fun g => by rw [rnew, if_neg hne]; exact h4 g, fun g hg => by rw [inew, if_neg hne]; exact h5 g hg, h6, h7, h8⟩
theorem rg.newA (h : rg rc S S1) (hq : cs_k S1 q = 0) : rg rc S (cs_newA S1 q k n) := by
  intro a ha
  obtain ⟨h1, h2, h3, h4, h5, h6, h7, h8⟩ := h a ha
  have hne : a ≠ q := rg.apart hq (h.live ha)
  exact ⟨by rw [knewA, if_neg hne]; exact h1, by rw [nnewA, if_neg hne]; exact h2, h3, h4, h5, fun m => by rw [ainewA, if_neg hne]; exact h6 m, fun m => by rw [alnewA, if_neg hne]; exact h7 m, fun m => by rw [arnewA, if_neg hne]; exact h8 m⟩
theorem rg.dead (h : rg rc S S1) (hq : cs_k S1 q = 0) : cs_k S q = 0 := by
  by_cases h0 : cs_k S q = 0
  · exact h0
  · exact absurd hq (h.live h0)
end RG
/-- the reference's state: events below m, fields below f0, texts below te are as they were -/
def sg (m f0 te : Nat) (σ σ' : rf_S) : Prop :=
  (∀ k, k ≠ 4 → k ≠ 5 → k ≠ 6 → k ≠ 20 → k ≠ 28 → k ≠ 31 → σ'.1 k = σ.1 k) ∧
  (∀ k, k ≠ 27 → k ≠ 29 → k ≠ 30 → σ'.2.1 k = σ.2.1 k) ∧
  (∀ k j, (k = 9 → j < m) → (k = 14 ∨ k = 15 ∨ k = 16 → j < f0) → (k = 18 → j < te) → σ'.2.2.1 k j = σ.2.2.1 k j) ∧
  (∀ k j, (k = 11 ∨ k = 12 → j < m) → (k = 13 → j < f0) → σ'.2.2.2 k j = σ.2.2.2 k j)
section SG
variable {m f0 te m' f0' te' k j : Nat} {σ σ1 σ2 : rf_S} {x : Int32} {y : Int64}
theorem sg.rfl : sg m f0 te σ σ := ⟨fun _ _ _ _ _ _ _ => Eq.refl _, fun _ _ _ _ => Eq.refl _, fun _ _ _ _ _ => Eq.refl _, fun _ _ _ _ => Eq.refl _⟩
theorem sg.trans (h : sg m f0 te σ σ1) (g : sg m f0 te σ1 σ2) : sg m f0 te σ σ2 :=
  ⟨fun k a b c d e f => (g.1 k a b c d e f).trans (h.1 k a b c d e f), fun k a b c => (g.2.1 k a b c).trans (h.2.1 k a b c), fun k j a b c => (g.2.2.1 k j a b c).trans (h.2.2.1 k j a b c), fun k j a b => (g.2.2.2 k j a b).trans (h.2.2.2 k j a b)⟩
theorem sg.mono (h : sg m' f0' te' σ σ1) (h1 : m ≤ m') (h2 : f0 ≤ f0') (h3 : te ≤ te') : sg m f0 te σ σ1 :=
  ⟨h.1, h.2.1, fun k j a b c => h.2.2.1 k j (fun e => Nat.lt_of_lt_of_le (a e) h1) (fun e => Nat.lt_of_lt_of_le (b e) h2) (fun e => Nat.lt_of_lt_of_le (c e) h3), fun k j a b => h.2.2.2 k j (fun e => Nat.lt_of_lt_of_le (a e) h1) (fun e => Nat.lt_of_lt_of_le (b e) h2)⟩
theorem sg.ui (h : sg m f0 te σ σ1) (hk : k = 4 ∨ k = 5 ∨ k = 6 ∨ k = 20 ∨ k = 28 ∨ k = 31) : sg m f0 te σ (rf_ui σ1 k x) :=
  ⟨fun k' a b c d e f => by rw [r1ui, if_neg (by omega)]; exact h.1 k' a b c d e f, h.2⟩
theorem sg.ul (h : sg m f0 te σ σ1) (hk : k = 27 ∨ k = 29 ∨ k = 30) : sg m f0 te σ (rf_ul σ1 k y) :=
  ⟨h.1, fun k' a b c => by rw [r2ul, if_neg (by omega)]; exact h.2.1 k' a b c, h.2.2⟩
theorem sg.ua (h : sg m f0 te σ σ1) (hk : (k = 9 ∧ m ≤ j) ∨ ((k = 14 ∨ k = 15 ∨ k = 16) ∧ f0 ≤ j) ∨ (k = 18 ∧ te ≤ j)) : sg m f0 te σ (rf_ua σ1 k j x) :=
  ⟨h.1, h.2.1, fun k' j' a b c => by rw [r3ua, if_neg (by omega)]; exact h.2.2.1 k' j' a b c, h.2.2.2⟩
theorem sg.ub (h : sg m f0 te σ σ1) (hk : ((k = 11 ∨ k = 12) ∧ m ≤ j) ∨ (k = 13 ∧ f0 ≤ j)) : sg m f0 te σ (rf_ub σ1 k j y) :=
  ⟨h.1, h.2.1, h.2.2.1, fun k' j' a b => by rw [r4ub, if_neg (by omega)]; exact h.2.2.2 k' j' a b⟩
end SG
/-- both readers, at p of the first z bytes of the tape, no fault yet -/
def rdJ (S : cs_S) (σ : rf_S) (rc tp z p : Nat) (bf : Nat → Nat) : Prop := rdC S rc tp p z ∧ rdR σ p z ∧ cs_i S 700 rc = 0 ∧ (∀ j, j < z → bf j < 256) ∧ (∀ j, j < z → cs_ai S tp j = nI (bf j)) ∧ (∀ j, j < z → σ.2.2.1 1 j &&& 255 = nI (bf j))
/-- a fault, and the same on both sides -/
def rdB (rc m f0 te : Nat) (S S' : cs_S) (σ σ' : rf_S) : Prop := rg rc S S' ∧ sg m f0 te σ σ' ∧ ¬ cs_i S' 700 rc = 0 ∧ σ'.1 5 = cs_i S' 700 rc ∧ σ'.1 6 = cs_i S' 701 rc
section RDJ
variable {rc tp z p q m f0 te m' f0' te' : Nat} {bf : Nat → Nat} {S S1 S2 : cs_S} {σ σ1 σ2 : rf_S}
/-- the class's reader behind steps that leave the tape alone -/
theorem rdC.on2 (h : rdC S rc tp p z) (g : rg rc S S1) (hq : cs_i S1 706 rc = nI q) (hqz : q ≤ z) : rdC S1 rc tp q z := by
  obtain ⟨k1, k2, k3, k4, k5, k6, k7, k8⟩ := h
  have hrc := g rc (by rw [k1]; decide)
  have htp := g tp (by rw [k3]; decide)
  exact ⟨hrc.1.trans k1, (hrc.2.2.2.1 704).trans k2, htp.1.trans k3, htp.2.1.trans k4, (hrc.2.2.2.2.1 705 (fun _ => by decide)).trans k5, hq, k7, hqz⟩
theorem rdR.on2 (h : rdR σ p z) (g : sg m f0 te σ σ1) (hq : σ1.1 4 = nI q) (hqz : q ≤ z) : rdR σ1 q z :=
  ⟨(g.1 3 (by decide) (by decide) (by decide) (by decide) (by decide) (by decide)).trans h.1, hq, h.2.2.1, hqz⟩
theorem rdJ.on2 (h : rdJ S σ rc tp z p bf) (g : rg rc S S1) (g2 : sg m f0 te σ σ1) (h0 : cs_i S1 700 rc = 0) (hq1 : cs_i S1 706 rc = nI q) (hq2 : σ1.1 4 = nI q) (hqz : q ≤ z) : rdJ S1 σ1 rc tp z q bf := by
  refine ⟨h.1.on2 g hq1 hqz, h.2.1.on2 g2 hq2 hqz, h0, h.2.2.2.1, fun j hj => ?_, fun j hj => ?_⟩
  · rw [(g tp (by rw [h.1.2.2.1]; decide)).2.2.2.2.2.1 j]; exact h.2.2.2.2.1 j hj
  · rw [g2.2.2.1 1 j (fun e => absurd e (by decide)) (fun e => absurd e (by decide)) (fun e => absurd e (by decide))]; exact h.2.2.2.2.2 j hj
theorem rdB.after (h : rdB rc m f0 te S1 S2 σ1 σ2) (g : rg rc S S1) (g2 : sg m f0 te σ σ1) : rdB rc m f0 te S S2 σ σ2 :=
  ⟨g.trans h.1, g2.trans h.2.1, h.2.2⟩
theorem rdB.mono (h : rdB rc m' f0' te' S S1 σ σ1) (h1 : m ≤ m') (h2 : f0 ≤ f0') (h3 : te ≤ te') : rdB rc m f0 te S S1 σ σ1 :=
  ⟨h.1, h.2.1.mono h1 h2 h3, h.2.2⟩
/-- what a fault makes of both -/
theorem rdB.mk (g : rg rc S S1) (g2 : sg m f0 te σ σ1) {c a : Int32} (hc : ¬ c = 0) : rdB rc m f0 te S (cs_ui (cs_ui S1 700 rc c) 701 rc a) σ (rf_ui (rf_ui σ1 5 c) 6 a) := by
  have e1 : cs_i (cs_ui (cs_ui S1 700 rc c) 701 rc a) 700 rc = c := by rw [iui, if_neg (fun q => absurd q.1 (by decide)), iui, if_pos ⟨rfl, rfl⟩]
  have e2 : cs_i (cs_ui (cs_ui S1 700 rc c) 701 rc a) 701 rc = a := by rw [iui, if_pos ⟨rfl, rfl⟩]
  refine ⟨(g.trans (rg.ui (Or.inl rfl))).trans (rg.ui (Or.inr (Or.inl rfl))), (g2.ui (Or.inr (Or.inl rfl))).ui (Or.inr (Or.inr (Or.inl rfl))), by rw [e1]; exact hc, ?_, ?_⟩
  · rw [e1, r1ui, if_neg (by decide), r1ui, if_pos rfl]
  · rw [e2, r1ui, if_pos rfl]
end RDJ
