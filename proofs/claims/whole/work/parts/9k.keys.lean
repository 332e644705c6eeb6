/-! ===== the class: what may change, what a value holds, which bucket ===== -/
/-- all is as it was but what E names (0 ints, 1 longs, 2 references, 3 to 5 the rows of them) and what is new -/
def fX (E : Nat → Nat → Nat → Prop) (S S' : cs_S) : Prop := ∀ a, cs_k S a ≠ 0 → cs_k S' a = cs_k S a ∧ cs_n S' a = cs_n S a ∧ (∀ f, ¬ E 0 f a → cs_i S' f a = cs_i S f a) ∧ (∀ f, ¬ E 1 f a → cs_l S' f a = cs_l S f a) ∧ (∀ f, ¬ E 2 f a → cs_r S' f a = cs_r S f a) ∧ (∀ j, ¬ E 3 j a → cs_ai S' a j = cs_ai S a j) ∧ (∀ j, ¬ E 4 j a → cs_al S' a j = cs_al S a j) ∧ (∀ j, ¬ E 5 j a → cs_ar S' a j = cs_ar S a j)
section FX
variable {E E' : Nat → Nat → Nat → Prop} {S S1 S2 : cs_S}
theorem fX.rfl : fX E S S := fun _ _ => ⟨Eq.refl _, Eq.refl _, fun _ _ => Eq.refl _, fun _ _ => Eq.refl _, fun _ _ => Eq.refl _, fun _ _ => Eq.refl _, fun _ _ => Eq.refl _, fun _ _ => Eq.refl _⟩
theorem fX.trans (h : fX E S S1) (g : fX E S1 S2) : fX E S S2 := fun a ha => by
  obtain ⟨a1, a2, a3, a4, a5, a6, a7, a8⟩ := h a ha
  obtain ⟨b1, b2, b3, b4, b5, b6, b7, b8⟩ := g a (by rw [a1]; exact ha)
  exact ⟨b1.trans a1, b2.trans a2, fun f e => (b3 f e).trans (a3 f e), fun f e => (b4 f e).trans (a4 f e), fun f e => (b5 f e).trans (a5 f e), fun f e => (b6 f e).trans (a6 f e), fun f e => (b7 f e).trans (a7 f e), fun f e => (b8 f e).trans (a8 f e)⟩
theorem fX.mono (h : fX E S S1) (m : ∀ s f a, E s f a → E' s f a) : fX E' S S1 := fun a ha => by
  obtain ⟨a1, a2, a3, a4, a5, a6, a7, a8⟩ := h a ha
  exact ⟨a1, a2, fun f e => a3 f (fun z => e (m _ _ _ z)), fun f e => a4 f (fun z => e (m _ _ _ z)), fun f e => a5 f (fun z => e (m _ _ _ z)), fun f e => a6 f (fun z => e (m _ _ _ z)), fun f e => a7 f (fun z => e (m _ _ _ z)), fun f e => a8 f (fun z => e (m _ _ _ z))⟩
theorem fX.ui (h : fX E S S1) {f a : Nat} {x : Int32} (e : E 0 f a ∨ cs_k S a = 0) : fX E S (cs_ui S1 f a x) := fun b hb => by
  obtain ⟨a1, a2, a3, a4, a5, a6, a7, a8⟩ := h b hb
  refine ⟨a1, a2, fun g hg => ?_, a4, a5, a6, a7, a8⟩
  rw [iui, if_neg ?_]
  · exact a3 g hg
  · rintro ⟨rfl, rfl⟩
    rcases e with e | e
    · exact hg e
    · exact hb e
theorem fX.ul (h : fX E S S1) {f a : Nat} {x : Int64} (e : E 1 f a ∨ cs_k S a = 0) : fX E S (cs_ul S1 f a x) := fun b hb => by
  obtain ⟨a1, a2, a3, a4, a5, a6, a7, a8⟩ := h b hb
  refine ⟨a1, a2, a3, fun g hg => ?_, a5, a6, a7, a8⟩
  rw [lul, if_neg ?_]
  · exact a4 g hg
  · rintro ⟨rfl, rfl⟩
    rcases e with e | e
    · exact hg e
    · exact hb e
theorem fX.ur (h : fX E S S1) {f a : Nat} {x : Option Nat} (e : E 2 f a ∨ cs_k S a = 0) : fX E S (cs_ur S1 f a x) := fun b hb => by
  obtain ⟨a1, a2, a3, a4, a5, a6, a7, a8⟩ := h b hb
  refine ⟨a1, a2, a3, a4, fun g hg => ?_, a6, a7, a8⟩
  rw [rur, if_neg ?_]
  · exact a5 g hg
  · rintro ⟨rfl, rfl⟩
    rcases e with e | e
    · exact hg e
    · exact hb e
theorem fX.ual (h : fX E S S1) {j a : Nat} {x : Int64} (e : E 4 j a ∨ cs_k S a = 0) : fX E S (cs_ual S1 a j x) := fun b hb => by
  obtain ⟨a1, a2, a3, a4, a5, a6, a7, a8⟩ := h b hb
  refine ⟨a1, a2, a3, a4, a5, a6, fun g hg => ?_, a8⟩
  rw [alual, if_neg ?_]
  · exact a7 g hg
  · rintro ⟨rfl, rfl⟩
    rcases e with e | e
    · exact hg e
    · exact hb e
theorem fX.uar (h : fX E S S1) {j a : Nat} {x : Option Nat} (e : E 5 j a ∨ cs_k S a = 0) : fX E S (cs_uar S1 a j x) := fun b hb => by
  obtain ⟨a1, a2, a3, a4, a5, a6, a7, a8⟩ := h b hb
  refine ⟨a1, a2, a3, a4, a5, a6, a7, fun g hg => ?_⟩
  rw [aruar, if_neg ?_]
  · exact a8 g hg
  · rintro ⟨rfl, rfl⟩
    rcases e with e | e
    · exact hg e
    · exact hb e
theorem fX.new (h : fX E S S1) {q ci : Nat} (hq : cs_k S1 q = 0) : fX E S (cs_new S1 q ci) := fun b hb => by
  obtain ⟨a1, a2, a3, a4, a5, a6, a7, a8⟩ := h b hb
  have hne : b ≠ q := fun e => hb (by rw [e] at a1; rw [← e] at hq; rw [e] at hq; rw [e, ← a1]; exact hq)
  exact ⟨by rw [knew, if_neg hne]; exact a1, a2, fun g hg => by rw [inew, if_neg hne]; exact a3 g hg, fun g hg => by rw [lnew, if_neg hne]; exact a4 g hg, fun g hg => by rw [rnew, if_neg hne]; exact a5 g hg, a6, a7, a8⟩
theorem fX.newA (h : fX E S S1) {q k n : Nat} (hq : cs_k S1 q = 0) : fX E S (cs_newA S1 q k n) := fun b hb => by
  obtain ⟨a1, a2, a3, a4, a5, a6, a7, a8⟩ := h b hb
  have hne : b ≠ q := fun e => hb (by rw [e] at a1; rw [e, ← a1]; exact hq)
  exact ⟨by rw [knewA, if_neg hne]; exact a1, by rw [nnewA, if_neg hne]; exact a2, a3, a4, a5, fun g hg => by rw [ainewA, if_neg hne]; exact a6 g hg, fun g hg => by rw [alnewA, if_neg hne]; exact a7 g hg, fun g hg => by rw [arnewA, if_neg hne]; exact a8 g hg⟩
theorem fX.dead (h : fX E S S1) {q : Nat} (hq : cs_k S1 q = 0) : cs_k S q = 0 := by
  by_cases c : cs_k S q = 0
  · exact c
  · rw [(h q c).1] at hq; exact hq
theorem fX.live (h : fX E S S1) {q : Nat} (hq : cs_k S q ≠ 0) : cs_k S1 q ≠ 0 := by rw [(h q hq).1]; exact hq
end FX
/-- what a value of the class holds -/
def vX (S : cs_S) (va : Nat) : Int32 × Int32 × (Nat → Int32) := (cs_i S 1000 va, cs_i S 1001 va, fun k => if cs_i S 1000 va = 1 ∧ k < (cs_i S 1001 va).toNatClampNeg then cs_ai S ((cs_r S 1002 va).getD 0) k else 0)
def hX (c : Int32 × Int32 × (Nat → Int32)) : Int32 := vh (31 * c.2.1 + c.1) c.2.2 (if c.1 = 1 then c.2.1.toNatClampNeg else 0)
def vK (S : cs_S) (va : Nat) : Prop := ∃ tx L, cvW S va tx L
section VX
variable {S : cs_S} {va vb tx ty L L' : Nat}
theorem vX_E (ha : cvW S va tx L) (hb : cvW S vb ty L') : cvE S va tx vb ty L ↔ vX S va = vX S vb := by
  obtain ⟨-, a2, -, -, a5, -, a7⟩ := ha
  obtain ⟨-, b2, -, -, -, -, -⟩ := hb
  constructor
  · rintro ⟨h0, h1, h2⟩
    refine Prod.ext h0 (Prod.ext h1 (funext fun k => ?_))
    show (if _ then cs_ai S ((cs_r S 1002 va).getD 0) k else 0) = (if _ then cs_ai S ((cs_r S 1002 vb).getD 0) k else 0)
    rw [a2, b2, ← h0, ← h1]
    by_cases c : cs_i S 1000 va = 1 ∧ k < (cs_i S 1001 va).toNatClampNeg
    · rw [if_pos c, if_pos c]
      rcases a7 with ⟨-, z⟩ | ⟨z, -⟩
      · rw [z, nI_clamp (by omega)] at c
        exact h2 k c.2
      · exact absurd c.1 z
    · rw [if_neg c, if_neg c]
  · intro h
    have h0 : cs_i S 1000 va = cs_i S 1000 vb := congrArg Prod.fst h
    have h1 : cs_i S 1001 va = cs_i S 1001 vb := congrArg (fun c => c.2.1) h
    refine ⟨h0, h1, fun k hk => ?_⟩
    have h2 : (if cs_i S 1000 va = 1 ∧ k < (cs_i S 1001 va).toNatClampNeg then cs_ai S ((cs_r S 1002 va).getD 0) k else 0) = (if cs_i S 1000 vb = 1 ∧ k < (cs_i S 1001 vb).toNatClampNeg then cs_ai S ((cs_r S 1002 vb).getD 0) k else 0) := congrFun (congrArg (fun c => c.2.2) h) k
    rw [a2, b2, ← h0, ← h1] at h2
    rcases a7 with ⟨z1, z2⟩ | ⟨-, z⟩
    · rw [if_pos ⟨z1, by rw [z2, nI_clamp (by omega)]; exact hk⟩, if_pos ⟨z1, by rw [z2, nI_clamp (by omega)]; exact hk⟩] at h2
      exact h2
    · omega
theorem vX_h (ha : cvW S va tx L) : cs_i S 1003 va = hX (vX S va) := by
  obtain ⟨-, a2, -, -, a5, a6, a7⟩ := ha
  rw [a6]
  show _ = vh (31 * cs_i S 1001 va + cs_i S 1000 va) (vX S va).2.2 (if cs_i S 1000 va = 1 then (cs_i S 1001 va).toNatClampNeg else 0)
  rcases a7 with ⟨z1, z2⟩ | ⟨z1, z2⟩
  · rw [if_pos z1, z2, nI_clamp (by omega)]
    refine vh_cong L (fun k hk => ?_)
    show _ = if cs_i S 1000 va = 1 ∧ k < (cs_i S 1001 va).toNatClampNeg then cs_ai S ((cs_r S 1002 va).getD 0) k else 0
    rw [if_pos ⟨z1, by rw [z2, nI_clamp (by omega)]; exact hk⟩, a2]; rfl
  · rw [if_neg z1, z2]; rfl
theorem vlR.x {σ : rf_S} {te f : Nat} (h : vlR S σ te va f) (hte : te ≤ 24000) : vK S va ∧ vX S va = vC σ f := by
  obtain ⟨tx, L, h1, -, h3⟩ := h.cv
  obtain ⟨-, b2, b3, -⟩ := h
  refine ⟨⟨tx, L, h1⟩, Prod.ext b2 (Prod.ext b3 (funext fun k => ?_))⟩
  show (if cs_i S 1000 va = 1 ∧ k < (cs_i S 1001 va).toNatClampNeg then cs_ai S ((cs_r S 1002 va).getD 0) k else 0) = (if σ.2.2.1 14 f = 1 ∧ k < (σ.2.2.1 15 f).toNatClampNeg then σ.2.2.1 18 ((σ.2.2.1 16 f).toNatClampNeg + k) else 0)
  rw [b2, b3]
  by_cases c : σ.2.2.1 14 f = 1 ∧ k < (σ.2.2.1 15 f).toNatClampNeg
  · rw [if_pos c, if_pos c]
    obtain ⟨o, o1, o2, o3⟩ := h3 c.1
    obtain ⟨-, c2, -, -, c5, -, c7⟩ := h1
    rw [c2, o1]
    rcases c7 with ⟨z1, z2⟩ | ⟨z1, -⟩
    · rw [← b3, z2, nI_clamp (by omega)] at c
      rw [nI_clamp (by omega)]; exact (o3 k c.2).symm
    · rw [b2] at z1; exact absurd c.1 z1
  · rw [if_neg c, if_neg c]
end VX
