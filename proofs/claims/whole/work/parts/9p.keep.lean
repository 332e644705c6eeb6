/-! ===== the class: entries behind one another ===== -/
/-- all but references is as it was, the ints but for P -/
def sI (P : Nat → Nat → Prop) (S S' : cs_S) : Prop := (∀ x, cs_k S' x = cs_k S x) ∧ (∀ x, cs_n S' x = cs_n S x) ∧ (∀ f x, ¬ P f x → cs_i S' f x = cs_i S f x) ∧ (∀ x j, cs_ai S' x j = cs_ai S x j) ∧ (∀ x j, cs_al S' x j = cs_al S x j) ∧ ∀ x j, cs_ar S' x j = cs_ar S x j
theorem sI.rfl {P : Nat → Nat → Prop} {S : cs_S} : sI P S S := ⟨fun _ => Eq.refl _, fun _ => Eq.refl _, fun _ _ _ => Eq.refl _, fun _ _ => Eq.refl _, fun _ _ => Eq.refl _, fun _ _ => Eq.refl _⟩
theorem sI.ur {P : Nat → Nat → Prop} {S S' : cs_S} (h : sI P S S') {f a : Nat} {x : Option Nat} : sI P S (cs_ur S' f a x) := h
theorem sI.ul {P : Nat → Nat → Prop} {S S' : cs_S} (h : sI P S S') {f a : Nat} {x : Int64} : sI P S (cs_ul S' f a x) := h
theorem sI.ui {P : Nat → Nat → Prop} {S S' : cs_S} (h : sI P S S') {f a : Nat} {x : Int32} (hP : P f a) : sI P S (cs_ui S' f a x) := by
  obtain ⟨h1, h2, h3, h4, h5, h6⟩ := h
  refine ⟨h1, h2, fun g y z => ?_, h4, h5, h6⟩
  rw [iui, if_neg]
  · exact h3 g y z
  · rintro ⟨rfl, rfl⟩; exact z hP
/-- append: references and nothing else -/
def apD (S S' : cs_S) (ra q : Nat) : Prop := sI (fun _ _ => False) S S' ∧ (∀ f x, cs_l S' f x = cs_l S f x) ∧ (∀ f x, f ≠ 304 → f ≠ 814 → f ≠ 815 → cs_r S' f x = cs_r S f x) ∧ (∀ x, x ≠ ra → cs_r S' 814 x = cs_r S 814 x ∧ cs_r S' 815 x = cs_r S 815 x) ∧ cs_r S' 815 ra = some q ∧
  ((cs_r S 815 ra = none ∨ cs_r S 814 ra = none) → cs_r S' 814 ra = some q ∧ ∀ x, cs_r S' 304 x = cs_r S 304 x) ∧
  (∀ z, cs_r S 815 ra = some z → cs_r S 814 ra ≠ none → cs_r S' 814 ra = cs_r S 814 ra ∧ cs_r S' 304 z = some q ∧ ∀ x, x ≠ z → cs_r S' 304 x = cs_r S 304 x)
theorem cap {G : Nat → Nat} {S : cs_S} {ra q : Nat} {post : cs_S → Prop} (hk : cs_k S ra = 9) (hz : ∀ z, cs_r S 815 ra = some z → cs_r S 814 ra ≠ none → cs_k S z = 4) (h : ∀ S', apD S S' ra q → post S') : wp_X7_append post G S ra (some q) := by
  have h14 : (cs_r S 815 ra = none ∨ cs_r S 814 ra = none) → w_X7_append_14 post G S ra (some q) := by
    intro hn
    refine ⟨hk, fun S14 e14 => ?_⟩
    subst e14
    refine ⟨hk, fun S12 e12 => ?_⟩
    subst e12
    refine h _ ⟨sI.rfl.ur.ur, fun _ _ => rfl, fun f x h1 h2 h3 => ?_, fun x hx => ⟨?_, ?_⟩, ?_, fun _ => ⟨?_, fun x => ?_⟩, fun z z1 z2 => ?_⟩
    · rw [rur, if_neg (fun z => h3 z.1), rur, if_neg (fun z => h2 z.1)]
    · rw [rur, if_neg (fun z => absurd z.1 (by decide)), rur, if_neg (fun z => hx z.2)]
    · rw [rur, if_neg (fun z => hx z.2), rur, if_neg (fun z => absurd z.1 (by decide))]
    · rw [rur, if_pos ⟨rfl, rfl⟩]
    · rw [rur, if_neg (fun z => absurd z.1 (by decide)), rur, if_pos ⟨rfl, rfl⟩]
    · rw [rur, if_neg (fun z => absurd z.1 (by decide)), rur, if_neg (fun z => absurd z.1 (by decide))]
    · rcases hn with q | q
      · rw [z1] at q; cases q
      · exact absurd q z2
  refine ⟨hk, fun r16 e16 => ⟨fun e => h14 (Or.inl (e16.symm.trans e)), fun b17 e17 r18 e18 => ⟨fun e => h14 (Or.inr (e18.symm.trans e)), fun b19 e19 r20 e20 => ?_⟩⟩⟩
  have z1 : cs_r S 815 ra = some b17 := e16.symm.trans e17
  have z2 : cs_r S 814 ra ≠ none := fun e => by rw [e18, e] at e19; cases e19
  have k4 := hz b17 z1 z2
  refine ⟨b17, e20.trans z1, k4, fun S23 e23 => ?_⟩
  subst e23
  refine ⟨hk, fun S12 e12 => ?_⟩
  subst e12
  refine h _ ⟨sI.rfl.ur.ur, fun _ _ => rfl, fun f x h1 h2 h3 => ?_, fun x hx => ⟨?_, ?_⟩, ?_, fun hn => ?_, fun z y1 y2 => ?_⟩
  · rw [rur, if_neg (fun z => h3 z.1), rur, if_neg (fun z => h1 z.1)]
  · rw [rur, if_neg (fun z => absurd z.1 (by decide)), rur, if_neg (fun z => absurd z.1 (by decide))]
  · rw [rur, if_neg (fun z => hx z.2), rur, if_neg (fun z => absurd z.1 (by decide))]
  · rw [rur, if_pos ⟨rfl, rfl⟩]
  · rcases hn with q | q
    · rw [z1] at q; cases q
    · exact absurd q z2
  · have : b17 = z := Option.some.inj (z1.symm.trans y1)
    subst this
    refine ⟨?_, ?_, fun x hx => ?_⟩
    · rw [rur, if_neg (fun z => absurd z.1 (by decide)), rur, if_neg (fun z => absurd z.1 (by decide))]
    · rw [rur, if_neg (fun z => absurd z.1 (by decide)), rur, if_pos ⟨rfl, rfl⟩]
    · rw [rur, if_neg (fun z => absurd z.1 (by decide)), rur, if_neg (fun z => hx z.2)]
/-- keep -/
def kpD (S S' : cs_S) (ra a q : Nat) : Prop := sI (fun f x => f = 813 ∧ x = ra) S S' ∧ (∀ f x, cs_l S' f x = cs_l S f x) ∧ (∀ f x, f ≠ 304 → f ≠ 305 → f ≠ 505 → f ≠ 506 → f ≠ 814 → f ≠ 815 → cs_r S' f x = cs_r S f x) ∧ (∀ x, x ≠ ra → cs_r S' 814 x = cs_r S 814 x ∧ cs_r S' 815 x = cs_r S 815 x) ∧ cs_r S' 815 ra = some q ∧
  ((cs_r S 815 ra = none ∨ cs_r S 814 ra = none) → cs_r S' 814 ra = some q ∧ ∀ x, cs_r S' 304 x = cs_r S 304 x) ∧
  (∀ z, cs_r S 815 ra = some z → cs_r S 814 ra ≠ none → cs_r S' 814 ra = cs_r S 814 ra ∧ cs_r S' 304 z = some q ∧ ∀ x, x ≠ z → cs_r S' 304 x = cs_r S 304 x) ∧
  cs_i S' 813 ra = cs_i S 813 ra + 1 ∧ (∀ x, x ≠ a → cs_r S' 505 x = cs_r S 505 x ∧ cs_r S' 506 x = cs_r S 506 x) ∧ cs_r S' 506 a = some q ∧
  (cs_r S 505 a = none → cs_r S' 505 a = some q) ∧ (cs_r S 505 a ≠ none → cs_r S' 505 a = cs_r S 505 a) ∧
  (cs_r S 506 a = none → ∀ x, cs_r S' 305 x = cs_r S 305 x) ∧ ∀ z, cs_r S 506 a = some z → cs_r S' 305 z = some q ∧ ∀ x, x ≠ z → cs_r S' 305 x = cs_r S 305 x
theorem ckp {G : Nat → Nat} {S : cs_S} {ra a q : Nat} {post : cs_S → Prop} (hk : cs_k S ra = 9) (hq : cs_k S q = 4) (hqa : cs_r S 301 q = some a) (ha : cs_k S a = 6) (hz : ∀ z, cs_r S 815 ra = some z → cs_r S 814 ra ≠ none → cs_k S z = 4) (hn : ∀ z, cs_r S 506 a = some z → cs_k S z = 4) (h : ∀ S', kpD S S' ra a q → post S') : wp_X7_keep post G S ra (some q) := by
  -- the first reference
  have at17 : ∀ S1 : cs_S, (∀ x, cs_k S1 x = cs_k S x) → sI (fun f x => f = 813 ∧ x = ra) S S1 → (∀ f x, cs_i S1 f x = cs_i S f x) → (∀ f x, cs_l S1 f x = cs_l S f x) → (∀ f x, f ≠ 505 → cs_r S1 f x = cs_r S f x) → (∀ x, x ≠ a → cs_r S1 505 x = cs_r S 505 x) → (cs_r S 505 a = none → cs_r S1 505 a = some q) → (cs_r S 505 a ≠ none → cs_r S1 505 a = cs_r S 505 a) → w_X7_keep_17 post G S1 ra (some q) (some a) := by
    intro S1 hk1 hs1 hi1 hl1 hr1 h505 h505n h505s
    have at32 : ∀ S2 : cs_S, sI (fun f x => f = 813 ∧ x = ra) S S2 → (∀ f x, cs_i S2 f x = cs_i S f x) → (∀ f x, cs_l S2 f x = cs_l S f x) → (∀ f x, f ≠ 305 → cs_r S2 f x = cs_r S1 f x) → (cs_r S 506 a = none → ∀ x, cs_r S2 305 x = cs_r S 305 x) → (∀ z, cs_r S 506 a = some z → cs_r S2 305 z = some q ∧ ∀ x, x ≠ z → cs_r S2 305 x = cs_r S 305 x) → w_X7_keep_32 post G S2 ra (some q) (some a) := by
      intro S2 hs2 hi2 hl2 hr2 h305n h305s
      refine ⟨a, rfl, (hs2.1 a).trans ha, fun S20 e20 => ?_⟩
      subst e20
      have kra : cs_k (cs_ur S2 506 a (some q)) ra = 9 := (hs2.1 ra).trans hk
      have r815 : ∀ f x, f ≠ 506 → f ≠ 305 → f ≠ 505 → cs_r (cs_ur S2 506 a (some q)) f x = cs_r S f x := fun f x h1 h2 h3 => by rw [rur, if_neg (fun z => h1 z.1), hr2 f x h2, hr1 f x h3]
      refine ⟨kra, cap kra (fun z z1 z2 => ?_) (fun S4 hd => ⟨(hd.1.1 ra).trans kra, fun S24 e24 => ?_⟩)⟩
      · rw [r815 815 ra (by decide) (by decide) (by decide)] at z1
        rw [r815 814 ra (by decide) (by decide) (by decide)] at z2
        exact (hs2.1 z).trans (hz z z1 z2)
      · subst e24
        obtain ⟨d1, d2, d3, d4, d5, d6, d7⟩ := hd
        rw [r815 815 ra (by decide) (by decide) (by decide), r815 814 ra (by decide) (by decide) (by decide)] at d6
        rw [r815 815 ra (by decide) (by decide) (by decide), r815 814 ra (by decide) (by decide) (by decide)] at d7
        refine h _ ⟨?_, fun f x => (d2 f x).trans (hl2 f x), fun f x h1 h2 h3 h4 h5 h6 => ?_, fun x hx => ⟨?_, ?_⟩, d5, fun hh => ⟨(d6 hh).1, fun x => ?_⟩, fun z z1 z2 => ⟨?_, (d7 z z1 z2).2.1, fun x hx => ?_⟩, ?_, fun x hx => ⟨?_, ?_⟩, ?_, fun hh => ?_, fun hh => ?_, fun hh x => ?_, fun z z1 => ⟨?_, fun x hx => ?_⟩⟩
        · refine sI.ui ⟨fun x => (d1.1 x).trans (hs2.1 x), fun x => (d1.2.1 x).trans (hs2.2.1 x), fun f x z => (d1.2.2.1 f x id).trans (hs2.2.2.1 f x z), fun x j => (d1.2.2.2.1 x j).trans (hs2.2.2.2.1 x j), fun x j => (d1.2.2.2.2.1 x j).trans (hs2.2.2.2.2.1 x j), fun x j => (d1.2.2.2.2.2 x j).trans (hs2.2.2.2.2.2 x j)⟩ ⟨rfl, rfl⟩
        · rw [rui, d3 f x h1 h5 h6, r815 f x h4 h2 h3]
        · rw [rui, (d4 x hx).1, r815 _ x (by decide) (by decide) (by decide)]
        · rw [rui, (d4 x hx).2, r815 _ x (by decide) (by decide) (by decide)]
        · rw [rui, (d6 hh).2 x, r815 _ x (by decide) (by decide) (by decide)]
        · exact (d7 z z1 z2).1
        · rw [rui, (d7 z z1 z2).2.2 x hx, r815 _ x (by decide) (by decide) (by decide)]
        · rw [iui, if_pos ⟨rfl, rfl⟩, d1.2.2.1 813 ra id]
          show cs_i S2 813 ra + 1 = _
          rw [hi2]
        · rw [rui, d3 505 x (by decide) (by decide) (by decide), rur, if_neg (fun z => absurd z.1 (by decide)), hr2 505 x (by decide), h505 x hx]
        · rw [rui, d3 506 x (by decide) (by decide) (by decide), rur, if_neg (fun z => hx z.2), hr2 506 x (by decide), hr1 506 x (by decide)]
        · rw [rui, d3 506 a (by decide) (by decide) (by decide), rur, if_pos ⟨rfl, rfl⟩]
        · rw [rui, d3 505 a (by decide) (by decide) (by decide), rur, if_neg (fun z => absurd z.1 (by decide)), hr2 505 a (by decide), h505n hh]
        · rw [rui, d3 505 a (by decide) (by decide) (by decide), rur, if_neg (fun z => absurd z.1 (by decide)), hr2 505 a (by decide), h505s hh]
        · rw [rui, d3 305 x (by decide) (by decide) (by decide), rur, if_neg (fun z => absurd z.1 (by decide)), h305n hh x]
        · rw [rui, d3 305 z (by decide) (by decide) (by decide), rur, if_neg (fun z => absurd z.1 (by decide)), (h305s z z1).1]
        · rw [rui, d3 305 x (by decide) (by decide) (by decide), rur, if_neg (fun z => absurd z.1 (by decide)), (h305s z z1).2 x hx]
    have e506 : cs_r S1 506 a = cs_r S 506 a := hr1 506 a (by decide)
    refine ⟨a, rfl, (hk1 a).trans ha, fun r27 e27 => ⟨fun e => at32 S1 hs1 hi1 hl1 (fun f x _ => rfl) (fun _ x => hr1 305 x (by decide)) (fun z z1 => ?_), fun b28 e28 r29 e29 => ?_⟩⟩
    · rw [e27, e506, z1] at e; cases e
    · have z1 : cs_r S 506 a = some b28 := by rw [← e506, ← e27]; exact e28
      refine ⟨b28, by rw [e29, e506]; exact z1, (hk1 b28).trans (hn b28 z1), fun S32 e32 => ?_⟩
      subst e32
      refine at32 _ hs1.ur hi1 hl1 (fun f x hf => by rw [rur, if_neg (fun z => hf z.1)]) (fun hh => by rw [z1] at hh; cases hh) (fun z y1 => ?_)
      have : b28 = z := Option.some.inj (z1.symm.trans y1)
      subst this
      exact ⟨by rw [rur, if_pos ⟨rfl, rfl⟩], fun x hx => by rw [rur, if_neg (fun z => hx z.2), hr1 305 x (by decide)]⟩
  refine ⟨q, rfl, hq, fun r35 e35 => ⟨a, e35.trans hqa, ha, fun r38 e38 => ⟨fun e S40 e40 => ?_, fun b39 e39 => at17 S (fun _ => rfl) sI.rfl (fun _ _ => rfl) (fun _ _ => rfl) (fun _ _ _ => rfl) (fun _ _ => rfl) (fun hh => ?_) (fun _ => rfl)⟩⟩⟩
  · subst e40
    refine at17 _ (fun _ => rfl) sI.rfl.ur (fun _ _ => rfl) (fun _ _ => rfl) (fun f x hf => by rw [rur, if_neg (fun z => hf z.1)]) (fun x hx => by rw [rur, if_neg (fun z => hx z.2)]) (fun _ => by rw [rur, if_pos ⟨rfl, rfl⟩]) (fun hh => absurd (e38.symm.trans e) hh)
  · rw [e38, hh] at e39; cases e39
