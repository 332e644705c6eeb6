/-! ===== the class: the bucket, and whether a key holds what is wanted ===== -/
def fm (h n : Int32) : Int32 := if 0 ≤ h ^^^ n then h - h / n * n else if h - h / n * n = 0 then h - h / n * n else h - h / n * n + n
theorem cfm {G : Nat → Nat} {S : cs_S} {h n : Int32} {post : Int32 → cs_S → Prop} (hn : ¬ n = 0) (hp : post (fm h n) S) : wp_J9_floorMod_7cf53 post G S h n := by
  unfold fm at hp
  refine ⟨hn, fun c => ?_, fun c => ⟨fun d => ?_, fun d => ?_⟩⟩
  · rw [if_pos c] at hp; exact hp
  · rw [if_neg c, if_pos d] at hp; exact hp
  · rw [if_neg c, if_neg d] at hp; exact hp
theorem tm_sg (x : Int) {n : Int} (hn : 0 < n) : (0 ≤ x → 0 ≤ x.tmod n) ∧ (x ≤ 0 → x.tmod n ≤ 0) := by
  refine ⟨fun z => ?_, fun z => ?_⟩
  · rw [Int.tmod_eq_emod_of_nonneg z]
    exact Int.emod_nonneg _ (by omega)
  · have h1 := Int.neg_tmod x n
    have h2 : (-x).tmod n = -x % n := Int.tmod_eq_emod_of_nonneg (by omega)
    have h3 := Int.emod_nonneg (-x) (b := n) (by omega)
    omega
theorem fm_div (h : Int32) {n : Int32} (hn : n.toInt = 1 ∨ n.toInt = 128) : (h - h / n * n).toInt = h.toInt.tmod n.toInt := by
  have h1 : -2147483648 ≤ h.toInt := Int32.minValue_le_toInt h
  have h2 : h.toInt ≤ 2147483647 := Int32.toInt_le h
  have e1 : (h / n).toInt = h.toInt.tdiv n.toInt := Int32.toInt_div_of_ne_right _ _ (fun z => by rw [z] at hn; revert hn; decide)
  have e2 := Int.tmod_add_tdiv_mul h.toInt n.toInt
  have e3 : h.toInt.tmod n.toInt < 128 ∧ -128 < h.toInt.tmod n.toInt := by
    rcases hn with z | z
    · rw [z, Int.tmod_one]; omega
    · rw [z]; exact ⟨Int.tmod_lt_of_pos _ (by decide), Int.lt_tmod_of_pos _ (by decide)⟩
  have e4 := tm_sg h.toInt (n := n.toInt) (by omega)
  generalize h.toInt.tmod n.toInt = m at *
  rw [Int32.toInt_sub, Int32.toInt_mul, e1]
  generalize h.toInt.tdiv n.toInt * n.toInt = d at *
  rw [Int.bmod_eq_of_le (n := d) (by omega) (by omega), Int.bmod_eq_of_le (by omega) (by omega)]
  omega
theorem xor_sg (h : Int32) {n : Int32} (hn : 0 ≤ n) : 0 ≤ h ^^^ n ↔ 0 ≤ h := by
  have k : ∀ x : Int32, 0 ≤ x ↔ x.toBitVec.msb = false := by
    intro x
    rw [Int32.le_iff_toInt_le, BitVec.msb_eq_toInt]
    show (0 : Int) ≤ x.toBitVec.toInt ↔ _
    by_cases c : x.toBitVec.toInt < 0
    · simp only [c, decide_true, Bool.true_eq_false, iff_false]; omega
    · simp only [c, decide_false, iff_true]; omega
  rw [k, k, Int32.toBitVec_xor, BitVec.msb_xor, (k n).mp hn]
  simp
theorem nI_at {x : Int32} {i : Nat} (h : x.toInt = i) (hi : i < 2 ^ 31) : x = nI i := by
  apply Int32.toInt_inj.mp
  rw [h, nI_toInt hi]
theorem fm_in (h : Int32) {nb : Nat} (hn : nb = 1 ∨ nb = 128) : ∃ i, i < nb ∧ fm h (nI nb) = nI i := by
  have hb : (nI nb).toInt = nb := nI_toInt (by omega)
  have hd := fm_div h (n := nI nb) (by rw [hb]; omega)
  rw [hb] at hd
  unfold fm
  have p0 : (0 : Int) < nb := by omega
  have h1 := Int.tmod_lt_of_pos h.toInt p0
  have h2 := Int.lt_tmod_of_pos h.toInt p0
  by_cases c : 0 ≤ h ^^^ nI nb
  · rw [if_pos c]
    rw [xor_sg h (nI_pos' (by omega)), Int32.le_iff_toInt_le] at c
    have c' : 0 ≤ h.toInt := c
    have h3 := (tm_sg h.toInt p0).1 c'
    exact ⟨(h.toInt.tmod nb).toNat, by omega, nI_at (by rw [hd]; omega) (by omega)⟩
  · rw [if_neg c]
    rw [xor_sg h (nI_pos' (by omega)), Int32.le_iff_toInt_le] at c
    have c' : ¬ (0 : Int) ≤ h.toInt := c
    clear c
    have h3 := (tm_sg h.toInt p0).2 (by omega)
    by_cases d : h - h / nI nb * nI nb = 0
    · rw [if_pos d]; exact ⟨0, by omega, d⟩
    · rw [if_neg d]
      have d' : ¬ h.toInt.tmod nb = 0 := fun z => d (by
        apply Int32.toInt_inj.mp
        rw [hd, z]; rfl)
      refine ⟨(h.toInt.tmod nb + nb).toNat, by omega, nI_at ?_ (by omega)⟩
      rw [Int32.toInt_add, hd, hb, Int.bmod_eq_of_le (by omega) (by omega)]
      omega
/-- a row of values -/
def vRow (S : cs_S) (w n : Nat) : Prop := ∀ k, k < n → ∃ va, cs_ar S w k = some va ∧ vK S va
def rX (S : cs_S) (w k : Nat) : Int32 × Int32 × (Nat → Int32) := vX S ((cs_ar S w k).getD 0)
section CHV
variable {G : Nat → Nat} {S : cs_S} {a vs wa n m : Nat} {h : Int32} {post : Int32 → cs_S → Prop}
theorem chv (hk : cs_k S a = 6) (hv : cs_r S 500 a = some vs) (hvk : cs_k S vs = 26) (hvn : cs_n S vs = n) (hn4 : n ≤ 4) (hrow : vRow S vs n) (hw : cs_k S wa = 26) (hwn : cs_n S wa = 4) (hwr : vRow S wa m) (hm : m ≤ 4) (hy : cs_i S 501 a = h → n = m → (∀ k, k < m → rX S vs k = rX S wa k) → post 1 S) (hno : ¬ (cs_i S 501 a = h ∧ n = m ∧ ∀ k, k < m → rX S vs k = rX S wa k) → post 0 S) : wp_X4_holdsValues post G S a (some wa) (nI m) h := by
  refine ⟨hk, fun c => hno (fun z => c z.1), fun c r27 e27 => ⟨vs, e27.trans hv, hvk, fun c2 => ?_, fun c2 => hno (fun z => c2 (by rw [hvn, z.2.1]; rfl))⟩⟩
  have hnm : n = m := by rw [hvn] at c2; exact (nI_eq (by omega) (by omega)).mp c2
  subst hnm
  have key : ∀ r k, k + r = n → (∀ j, j < k → rX S vs j = rX S wa j) → w_X4_holdsValues_22 post G (r + 1) S a (some wa) (nI n) (nI k) := by
    intro r
    induction r with
    | zero =>
      intro k hk' hall
      have : k = n := by omega
      subst this
      exact ⟨fun _ => hy c rfl hall, fun z => absurd (nI_le (Nat.le_refl _) (by omega)) z⟩
    | succ r ih =>
      intro k hk' hall
      obtain ⟨va, v1, tx, L, v2⟩ := hrow k (by omega)
      obtain ⟨vb, w1, ty, L', w2⟩ := hwr k (by omega)
      refine ⟨fun z => absurd z (nI_ge (by omega) (by omega)), fun _ => ⟨wa, rfl, hw, fun z => ?_, fun _ => ⟨hk, fun r18 e18 => ⟨vs, e18.trans hv, hvk, by rw [hvn]; exact nI_in (by omega) (by omega), fun r21 e21 => ⟨by rw [hwn]; exact nI_in (by omega) (by omega), fun r22 e22 => ?_⟩⟩⟩⟩⟩
      · rw [hwn] at z; exact absurd z (nI_ge (b := 4) (by omega) (by omega))
      · rw [nI_clamp (by omega)] at e21 e22
        refine ⟨va, e21.trans v1, v2.1, ?_⟩
        rw [e22, w1]
        have hx : rX S vs k = vX S va ∧ rX S wa k = vX S vb := by
          unfold rX; rw [v1, w1]; exact ⟨rfl, rfl⟩
        refine csm v2 w2 (fun z => ⟨fun _ => ?_, fun q => absurd q (by decide)⟩) (fun z => ⟨fun q => absurd rfl q, fun _ => hno (fun q => z ?_)⟩)
        · rw [nI_1]
          refine ih (k + 1) (by omega) (fun j hj => ?_)
          by_cases e : j = k
          · rw [e, hx.1, hx.2]; exact (vX_E v2 w2).mp z
          · exact hall j (by omega)
        · have := q.2.2 k (by omega)
          rw [hx.1, hx.2] at this
          exact (vX_E v2 w2).mpr this
  exact ⟨n + 1, key n 0 (by omega) (fun j hj => absurd hj (by omega))⟩
end CHV
