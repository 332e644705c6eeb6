/-! ===== a record on both sides ===== -/
/-- the first m fields of an event: names and values on both sides -/
def flR (S : cs_S) (σ : rf_S) (te nm vs e m : Nat) : Prop := ∀ k, k < m → (∃ n l, 1 ≤ n ∧ n ≤ 8 ∧ wdR n (cs_al S nm k) (σ.2.2.2 13 (8 * e + k)) l) ∧ (∃ va, cs_ar S vs k = some va ∧ vlR S σ te va (8 * e + k)) ∧ (0 < k → 0 < lg_cmp (cs_al S nm k) (cs_al S nm (k - 1)))
def evR (S : cs_S) (σ : rf_S) (te q e m : Nat) : Prop := cs_k S q = 5 ∧ (∃ n, 1 ≤ n ∧ wdR n (cs_l S 401 q) (σ.2.2.2 11 e) (σ.2.2.2 12 e)) ∧ m ≤ 8 ∧ σ.2.2.1 9 e = nI m ∧ ∃ nm vs, cs_r S 403 q = some nm ∧ cs_k S nm = 21 ∧ cs_n S nm = m ∧ cs_r S 404 q = some vs ∧ cs_k S vs = 26 ∧ cs_n S vs = m ∧ flR S σ te nm vs e m
/-- a value stays one: what it rests on is as it was -/
theorem vlR.on {S S' : cs_S} {σ σ' : rf_S} {te te' va f g : Nat} (h : vlR S σ te va f) (hS : ∀ a, cs_k S a = 11 ∨ cs_k S a = 20 → cs_k S' a = cs_k S a ∧ cs_n S' a = cs_n S a ∧ cs_i S' 1000 a = cs_i S 1000 a ∧ cs_i S' 1001 a = cs_i S 1001 a ∧ cs_i S' 1003 a = cs_i S 1003 a ∧ cs_r S' 1002 a = cs_r S 1002 a ∧ (cs_r S 1002 va = some a → ∀ j, cs_ai S' a j = cs_ai S a j)) (h14 : σ'.2.2.1 14 g = σ.2.2.1 14 f) (h15 : σ'.2.2.1 15 g = σ.2.2.1 15 f) (h16 : σ'.2.2.1 16 g = σ.2.2.1 16 f) (h18 : ∀ j, j < te → σ'.2.2.1 18 j = σ.2.2.1 18 j) (hte : te ≤ te') : vlR S' σ' te' va g := by
  obtain ⟨a1, a2, a3, tx, L, a4, a5, a6, a7, a8, a9, a10⟩ := h
  have hv := hS va (Or.inl a1)
  have ht := hS tx (Or.inr a5)
  have hti := ht.2.2.2.2.2.2 a4
  refine ⟨hv.1.trans a1, by rw [h14, hv.2.2.1]; exact a2, by rw [h15, hv.2.2.2.1]; exact a3, tx, L, hv.2.2.2.2.2.1.trans a4, ht.1.trans a5, ht.2.1.trans a6, a7, ?_, fun k hk => ?_, ?_⟩
  · rw [h14, h15, hv.2.2.2.2.1, a8]
    exact vh_cong L (fun k _ => (hti k).symm)
  · rw [hti k]; exact a9 k hk
  · rw [h14, h15, h16]
    rcases a10 with ⟨b1, b2, o, b3, b4, b5⟩ | b
    · exact Or.inl ⟨b1, b2, o, b3, by omega, fun k hk => by rw [hti k, h18 (o + k) (by omega)]; exact b5 k hk⟩
    · exact Or.inr b
/-- .. behind growth -/
theorem vlR.grow {rc m0 f0 : Nat} {S S' : cs_S} {σ σ' : rf_S} {te te' va f : Nat} (h : vlR S σ te va f) (g : rg rc S S') (s : sg m0 f0 te σ σ') (hrc : cs_k S rc = 8) (hf : f < f0) (hte : te ≤ te') : vlR S' σ' te' va f := by
  refine h.on (fun a ha => ?_) (s.2.2.1 14 f (fun e => absurd e (by decide)) (fun _ => hf) (fun e => absurd e (by decide))) (s.2.2.1 15 f (fun e => absurd e (by decide)) (fun _ => hf) (fun e => absurd e (by decide))) (s.2.2.1 16 f (fun e => absurd e (by decide)) (fun _ => hf) (fun e => absurd e (by decide))) (fun j hj => s.2.2.1 18 j (fun e => absurd e (by decide)) (fun e => absurd e (by decide)) (fun _ => hj)) hte
  have hl : cs_k S a ≠ 0 := by rcases ha with e | e <;> rw [e] <;> decide
  have hne : a ≠ rc := fun e => by rw [e, hrc] at ha; rcases ha with e | e <;> exact absurd e (by decide)
  obtain ⟨g1, g2, g3, g4, g5, g6, g7, g8⟩ := g a hl
  exact ⟨g1, g2, g5 _ (fun e => absurd e hne), g5 _ (fun e => absurd e hne), g5 _ (fun e => absurd e hne), g4 _, fun _ j => g6 j⟩
/-- values and their bytes are as they were -/
def rgv (S S' : cs_S) : Prop := ∀ a, cs_k S a = 11 ∨ cs_k S a = 20 → cs_k S' a = cs_k S a ∧ cs_n S' a = cs_n S a ∧ cs_i S' 1000 a = cs_i S 1000 a ∧ cs_i S' 1001 a = cs_i S 1001 a ∧ cs_i S' 1003 a = cs_i S 1003 a ∧ cs_r S' 1002 a = cs_r S 1002 a ∧ ∀ j, cs_ai S' a j = cs_ai S a j
section RGV
variable {S S1 S2 : cs_S} {rc : Nat}
theorem rg.v (g : rg rc S S1) (hrc : cs_k S rc = 8) : rgv S S1 := by
  intro a ha
  have hl : cs_k S a ≠ 0 := by rcases ha with e | e <;> rw [e] <;> decide
  have hne : a ≠ rc := fun e => by rw [e, hrc] at ha; rcases ha with e | e <;> exact absurd e (by decide)
  obtain ⟨g1, g2, g3, g4, g5, g6, g7, g8⟩ := g a hl
  exact ⟨g1, g2, g5 _ (fun e => absurd e hne), g5 _ (fun e => absurd e hne), g5 _ (fun e => absurd e hne), g4 _, g6⟩
theorem gw.v (g : gw S S1) : rgv S S1 := by
  intro a ha
  have hl : cs_k S a ≠ 0 := by rcases ha with e | e <;> rw [e] <;> decide
  obtain ⟨g1, g2, g3, g4, g5, g6, g7, g8⟩ := g 0 a hl
  exact ⟨g1, g2, g.i hl, g.i hl, g.i hl, g4 _, g6⟩
theorem rgv.trans (h : rgv S S1) (g : rgv S1 S2) : rgv S S2 := by
  intro a ha
  obtain ⟨a1, a2, a3, a4, a5, a6, a7⟩ := h a ha
  obtain ⟨b1, b2, b3, b4, b5, b6, b7⟩ := g a (by rw [a1]; exact ha)
  exact ⟨b1.trans a1, b2.trans a2, b3.trans a3, b4.trans a4, b5.trans a5, b6.trans a6, fun j => (b7 j).trans (a7 j)⟩
theorem rgv.ual {a j : Nat} {y : Int64} : rgv S (cs_ual S a j y) := fun _ _ => ⟨rfl, rfl, rfl, rfl, rfl, rfl, fun _ => rfl⟩
theorem rgv.uar {a j : Nat} {y : Option Nat} : rgv S (cs_uar S a j y) := fun _ _ => ⟨rfl, rfl, rfl, rfl, rfl, rfl, fun _ => rfl⟩
theorem vlR.onv {σ σ' : rf_S} {te te' va f g : Nat} (h : vlR S σ te va f) (hS : rgv S S1) (h14 : σ'.2.2.1 14 g = σ.2.2.1 14 f) (h15 : σ'.2.2.1 15 g = σ.2.2.1 15 f) (h16 : σ'.2.2.1 16 g = σ.2.2.1 16 f) (h18 : ∀ j, j < te → σ'.2.2.1 18 j = σ.2.2.1 18 j) (hte : te ≤ te') : vlR S1 σ' te' va g :=
  h.on (fun a ha => by obtain ⟨a1, a2, a3, a4, a5, a6, a7⟩ := hS a ha; exact ⟨a1, a2, a3, a4, a5, a6, fun _ => a7⟩) h14 h15 h16 h18 hte
theorem vlR.ons {σ σ' : rf_S} {m0 f0 te te' va f : Nat} (h : vlR S σ te va f) (hS : rgv S S1) (s : sg m0 f0 te σ σ') (hf : f < f0) (hte : te ≤ te') : vlR S1 σ' te' va f :=
  h.onv hS (s.2.2.1 14 f (fun e => absurd e (by decide)) (fun _ => hf) (fun e => absurd e (by decide))) (s.2.2.1 15 f (fun e => absurd e (by decide)) (fun _ => hf) (fun e => absurd e (by decide))) (s.2.2.1 16 f (fun e => absurd e (by decide)) (fun _ => hf) (fun e => absurd e (by decide))) (fun j hj => s.2.2.1 18 j (fun e => absurd e (by decide)) (fun e => absurd e (by decide)) (fun _ => hj)) hte
end RGV
/-! the check byte is a byte -/
theorem mx1_b : ∀ b, b < 256 → (mx1 (nI b)).toNatClampNeg < 256 ∧ nI (mx1 (nI b)).toNatClampNeg = mx1 (nI b) := by decide +kernel
theorem mxn_b : ∀ r b, b < 256 → ∃ b', b' < 256 ∧ mxn r (nI b) = nI b' := by
  intro r
  induction r with
  | zero => intro b hb; exact ⟨b, hb, rfl⟩
  | succ r ih =>
    intro b hb
    obtain ⟨b', hb', e⟩ := ih _ (mx1_b b hb).1
    refine ⟨b', hb', ?_⟩
    rw [(mx1_b b hb).2] at e
    exact e
theorem i32_xor (a c : Nat) (ha : a < 256) (hc : c < 256) : nI a ^^^ nI c = nI (a ^^^ c) ∧ a ^^^ c < 256 := by
  refine ⟨?_, Nat.xor_lt_two_pow (n := 8) ha hc⟩
  apply Int32.toBitVec_inj.mp
  apply BitVec.eq_of_toNat_eq
  have h2 : a ^^^ c < 256 := Nat.xor_lt_two_pow (n := 8) ha hc
  show ((nI a).toBitVec ^^^ (nI c).toBitVec).toNat = (nI (a ^^^ c)).toBitVec.toNat
  rw [BitVec.toNat_xor]
  show (BitVec.ofNat 32 a).toNat ^^^ (BitVec.ofNat 32 c).toNat = (BitVec.ofNat 32 (a ^^^ c)).toNat
  rw [BitVec.toNat_ofNat, BitVec.toNat_ofNat, BitVec.toNat_ofNat, Nat.mod_eq_of_lt (by omega), Nat.mod_eq_of_lt (by omega), Nat.mod_eq_of_lt (by omega)]
theorem ckf_b {B : Nat → Int32} : ∀ r k c, c < 256 → (∀ j, k ≤ j → j < k + r → ∃ b, b < 256 ∧ B j = nI b) → ∃ b', b' < 256 ∧ ckf B r k (nI c) = nI b' := by
  intro r
  induction r with
  | zero => intro k c hc _; exact ⟨c, hc, rfl⟩
  | succ r ih =>
    intro k c hc hB
    obtain ⟨b, hb, e⟩ := hB k (Nat.le_refl _) (by omega)
    obtain ⟨x1, x2⟩ := i32_xor c b hc hb
    obtain ⟨b', hb', e'⟩ := mxn_b 8 _ x2
    obtain ⟨b2, h2, e2⟩ := ih (k + 1) b' hb' (fun j h1 h3 => hB j (by omega) (by omega))
    refine ⟨b2, h2, ?_⟩
    rw [← e2, ← e', ← x1, ← e]
    rfl
