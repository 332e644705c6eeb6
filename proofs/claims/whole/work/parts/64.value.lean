/-! ===== a value on both sides ===== -/
/-- all that was there is as it was -/
def gw (S S' : cs_S) : Prop := ∀ rc, rg rc S S'
theorem gw.i {S S' : cs_S} (h : gw S S') {f a : Nat} (ha : cs_k S a ≠ 0) : cs_i S' f a = cs_i S f a := (h (a + 1) a ha).2.2.2.2.1 f (fun e => absurd e (by omega))
theorem gw.k {S S' : cs_S} (h : gw S S') {a : Nat} (ha : cs_k S a ≠ 0) : cs_k S' a = cs_k S a := (h 0 a ha).1
theorem gw.n {S S' : cs_S} (h : gw S S') {a : Nat} (ha : cs_k S a ≠ 0) : cs_n S' a = cs_n S a := (h 0 a ha).2.1
theorem gw.ai {S S' : cs_S} (h : gw S S') {a j : Nat} (ha : cs_k S a ≠ 0) : cs_ai S' a j = cs_ai S a j := (h 0 a ha).2.2.2.2.2.1 j
def vh (x : Int32) (t : Nat → Int32) : Nat → Int32
  | 0 => x
  | k + 1 => 31 * vh x t k + t k
theorem vh_cong {x : Int32} {t t' : Nat → Int32} : ∀ n, (∀ k, k < n → t k = t' k) → vh x t n = vh x t' n := by
  intro n
  induction n with
  | zero => intro _; rfl
  | succ n ih => intro h; rw [vh, vh, ih (fun k hk => h k (by omega)), h n (by omega)]
section VI
variable {G : Nat → Nat} {S : cs_S}
theorem vi_38 {post : cs_S → Prop} {o b L : Nat} {x : Int32} (ho : cs_k S o = 11) (hb : cs_k S b = 20) (hL : cs_n S b = L) (hL2 : L < 2 ^ 31) (h : post (cs_ui S 1003 o (vh x (cs_ai S b) L))) : ∀ r k, k + r = L → w_X9_init_38 post G (r + 1) S o (vh x (cs_ai S b) k) (some b) (nI L) (nI k) := by
  intro r
  induction r with
  | zero =>
    intro k hk
    have : k = L := by omega
    subst this
    exact ⟨fun _ => ⟨ho, fun S12 e => by subst e; exact h⟩, fun hc => absurd (nI_le (Nat.le_refl _) hL2) hc⟩
  | succ r ih =>
    intro k hk
    refine ⟨fun hc => absurd hc (nI_ge (by omega) (by omega)), fun _ => ⟨b, rfl, hb, ?_, ?_⟩⟩
    · rw [hL]; exact nI_in (by omega) hL2
    · rw [nI_clamp (by omega), nI_1]
      exact ih (k + 1) (by omega)
def vlN (S : cs_S) (o : Nat) (s x : Int32) (b : Nat) : cs_S := cs_ui (cs_ur (cs_ui (cs_ui S 1000 o s) 1001 o x) 1002 o (some b)) 1003 o (vh (31 * x + s) (cs_ai S b) (cs_n S b))
theorem vi_ok {post : cs_S → Prop} {o b : Nat} {s x : Int32} (ho : cs_k S o = 11) (hb : cs_k S b = 20) (hL2 : cs_n S b < 2 ^ 31) (h : post (vlN S o s x b)) : wp_X9_init post G S o s x (some b) := by
  refine ⟨ho, fun S16 e16 => ?_⟩
  subst e16
  refine ⟨ho, fun S18 e18 => ?_⟩
  subst e18
  refine ⟨ho, fun S20 e20 => ?_⟩
  subst e20
  exact ⟨b, rfl, hb, cs_n S b + 1, vi_38 (S := cs_ur (cs_ui (cs_ui S 1000 o s) 1001 o x) 1002 o (some b)) (L := cs_n S b) ho hb rfl hL2 h (cs_n S b) 0 (by omega)⟩
/-- a new value -/
def vnW (S S' : cs_S) (va : Nat) (s x : Int32) (b : Nat) : Prop := cs_k S va = 0 ∧ gw S S' ∧ cs_k S' va = 11 ∧ cs_i S' 1000 va = s ∧ cs_i S' 1001 va = x ∧ cs_r S' 1002 va = some b ∧ cs_i S' 1003 va = vh (31 * x + s) (cs_ai S b) (cs_n S b)
theorem vn_ok {post : Option Nat → cs_S → Prop} {b : Nat} {s x : Int32} (hb : cs_k S b = 20) (hL2 : cs_n S b < 2 ^ 31) (h : ∀ va S', vnW S S' va s x b → post (some va) S') : ∀ q, cs_k S q = 0 → ∀ S1, S1 = cs_new S q 10 → wp_X9_init (fun S2 => post (some q) S2) G S1 q s x (some b) := by
  intro q hq S1 e
  subst e
  have hbq : b ≠ q := fun e => by rw [e, hq] at hb; exact absurd hb (by decide)
  refine vi_ok (by rw [knew, if_pos rfl]) (by rw [knew, if_neg hbq]; exact hb) hL2 (h q _ ⟨hq, fun rc => ?_, ?_, ?_, ?_, ?_, ?_⟩)
  · exact ((((rg.rfl.new hq).fui hq).fui hq).fur hq).fui hq
  · show cs_k (cs_new S q 10) q = 11
    rw [knew, if_pos rfl]
  · rw [vlN, iui, if_neg (fun e => absurd e.1 (by decide)), iur, iui, if_neg (fun e => absurd e.1 (by decide)), iui, if_pos ⟨rfl, rfl⟩]
  · rw [vlN, iui, if_neg (fun e => absurd e.1 (by decide)), iur, iui, if_pos ⟨rfl, rfl⟩]
  · rw [vlN, rui, rur, if_pos ⟨rfl, rfl⟩]
  · rw [vlN, iui, if_pos ⟨rfl, rfl⟩]
    rfl
end VI
/-- the class's value at va, the reference's field f -/
def vlR (S : cs_S) (σ : rf_S) (te va f : Nat) : Prop := cs_k S va = 11 ∧ cs_i S 1000 va = σ.2.2.1 14 f ∧ cs_i S 1001 va = σ.2.2.1 15 f ∧ ∃ tx L, cs_r S 1002 va = some tx ∧ cs_k S tx = 20 ∧ cs_n S tx = L ∧ L ≤ 24 ∧ cs_i S 1003 va = vh (31 * σ.2.2.1 15 f + σ.2.2.1 14 f) (cs_ai S tx) L ∧ (∀ k, k < L → ∃ b, 32 ≤ b ∧ b ≤ 126 ∧ cs_ai S tx k = nI b) ∧
  ((σ.2.2.1 14 f = 1 ∧ σ.2.2.1 15 f = nI L ∧ ∃ o, σ.2.2.1 16 f = nI o ∧ o + L ≤ te ∧ ∀ k, k < L → σ.2.2.1 18 (o + k) = cs_ai S tx k) ∨ ((σ.2.2.1 14 f = 0 ∨ σ.2.2.1 14 f = 2) ∧ L = 0))
theorem nar7 : ∀ b, b < 128 → vp_nar .byte ((nI b).toInt8.toInt32) = nI b := by decide +kernel
theorem lg_0 {x : Int64} : lg_cmp x 0 = 0 ↔ x = 0 := by
  unfold lg_cmp
  by_cases h1 : x > 0
  · rw [if_pos h1]
    refine ⟨fun h => absurd h (by decide), fun h => ?_⟩
    rw [h] at h1
    exact absurd h1 (by decide)
  · rw [if_neg h1]
    by_cases h2 : x = 0
    · rw [if_pos h2]; exact ⟨fun _ => h2, fun _ => rfl⟩
    · rw [if_neg h2]; exact ⟨fun h => absurd h (by decide), fun h => absurd h h2⟩
theorem and1 (v : Int64) : v &&& 1 = 0 ∨ v &&& 1 = 1 := by
  have h : (v &&& 1).toBitVec.toNat = v.toBitVec.toNat % 2 := by
    rw [Int64.toBitVec_and, BitVec.toNat_and]
    exact Nat.and_one_is_mod _
  have h2 : v.toBitVec.toNat % 2 = 0 ∨ v.toBitVec.toNat % 2 = 1 := by omega
  rcases h2 with h2 | h2
  · left
    apply Int64.toBitVec_inj.mp
    apply BitVec.eq_of_toNat_eq
    rw [h, h2]; rfl
  · right
    apply Int64.toBitVec_inj.mp
    apply BitVec.eq_of_toNat_eq
    rw [h, h2]; rfl
theorem fold_e {v s : Int64} (h : lg_cmp (v &&& 1) 0 = 0) : v >>> s ^^^ -(v &&& 1) = v >>> s := by
  rw [lg_0.mp h]
  apply Int64.toBitVec_inj.mp
  rw [Int64.toBitVec_xor]
  exact BitVec.xor_zero
theorem fold_o {v s : Int64} (h : ¬ lg_cmp (v &&& 1) 0 = 0) : v >>> s ^^^ -(v &&& 1) = -(v >>> s) - 1 := by
  have h1 : v &&& 1 = 1 := by
    rcases and1 v with h2 | h2
    · exact absurd (lg_0.mpr h2) h
    · exact h2
  rw [h1]
  generalize v >>> s = x
  apply Int64.toBitVec_inj.mp
  have e1 : (-(1 : Int64)).toBitVec = BitVec.allOnes 64 := by decide
  have e2 : (1 : Int64).toBitVec = 1#64 := by decide
  rw [Int64.toBitVec_xor, Int64.toBitVec_sub, e1, e2, Int64.toBitVec_neg, BitVec.neg_eq_not_add, BitVec.xor_allOnes, BitVec.add_sub_cancel]
