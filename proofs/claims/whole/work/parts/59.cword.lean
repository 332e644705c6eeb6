/-! ===== words of the tape: the class's side ===== -/
/-- n letters from p on: a fault and its place, or 0 and the place behind -/
def wlf (bf : Nat → Nat) (z : Nat) : Nat → Nat → Int32 × Nat
  | 0, p => (0, p)
  | r + 1, p => if z ≤ p then (1, z) else if bf p < 97 ∨ 122 < bf p then (2, p) else wlf bf z r (p + 1)
def lf (bf : Nat → Nat) (p i : Nat) : Nat := if 97 ≤ bf (p + i) ∧ bf (p + i) ≤ 122 then bf (p + i) - 96 else 0
theorem lf_lt (bf : Nat → Nat) (p : Nat) : ∀ i, lf bf p i < 2 ^ 5 := by
  intro i
  unfold lf
  split
  · show _ < 32
    omega
  · decide
section CW
variable {G : Nat → Nat} {rc tp z n p0 : Nat} {bf : Nat → Nat} {post : Int64 → cs_S → Prop}
theorem cw_dead {S : cs_S} (hk : cs_k S rc = 8) (h0 : ¬ cs_i S 700 rc = 0) (hn : n ≤ 12) (h : ∀ y, post y S) : ∀ r k v, k + r = n → w_X6_readWord_12 post G (r + 1) S rc (nI n) v (nI k) := by
  intro r
  induction r with
  | zero =>
    intro k v hkn
    have : k = n := by omega
    subst this
    exact ⟨fun _ => h _, fun hc => absurd (nI_le (Nat.le_refl _) (by omega)) hc⟩
  | succ r ih =>
    intro k v hkn
    refine ⟨fun hc => absurd hc (nI_ge (by omega) (by omega)), fun _ => ⟨hk, rd_dead hk h0 ?_⟩⟩
    show w_X6_readWord_12 post G (r + 1) S rc (nI n) _ (nI k + 1)
    rw [nI_1]
    exact ih _ _ (by omega)
theorem cw_12 (hn : n ≤ 12) (hB : ∀ j, j < z → bf j < 256) : ∀ r k (S : cs_S), k + r = n → rdC S rc tp (p0 + k) z → cs_i S 700 rc = 0 → (∀ j, j < z → cs_ai S tp j = nI (bf j)) →
    ((wlf bf z r (p0 + k)).1 = 0 → post (Int64.ofNat (dg 5 12 (lf bf p0) n)) (cs_ui S 706 rc (nI (p0 + n)))) →
    (¬ (wlf bf z r (p0 + k)).1 = 0 → ∀ y q, post y (cs_ui (cs_ui (cs_ui S 706 rc q) 700 rc (wlf bf z r (p0 + k)).1) 701 rc (nI (wlf bf z r (p0 + k)).2))) →
    w_X6_readWord_12 post G (r + 1) S rc (nI n) (Int64.ofNat (dg 5 12 (lf bf p0) k)) (nI k) := by
  intro r
  induction r with
  | zero =>
    intro k S hkn hr h0 hA hok hbad
    have : k = n := by omega
    subst this
    refine ⟨fun _ => ?_, fun hc => absurd (nI_le (Nat.le_refl _) (by omega)) hc⟩
    have h := hok rfl
    rw [cs_us hr.2.2.2.2.2.1] at h
    exact h
  | succ r ih =>
    intro k S hkn hr h0 hA hok hbad
    rw [wlf] at hok hbad
    have k1 := hr.1
    refine ⟨fun hc => absurd hc (nI_ge (by omega) (by omega)), fun _ => ⟨k1, ?_⟩⟩
    have e1 : cs_ui S 706 rc (nI (p0 + k)) = S := cs_us hr.2.2.2.2.2.1
    by_cases hp : z ≤ p0 + k
    · rw [if_pos hp] at hbad
      have hb : ∀ y, post y (cs_ui (cs_ui S 700 rc 1) 701 rc (nI z)) := fun y => by
        have h3 : post y (cs_ui (cs_ui (cs_ui S 706 rc (nI (p0 + k))) 700 rc 1) 701 rc (nI z)) := hbad (by show ¬ (1 : Int32) = 0; decide) y _
        rw [e1] at h3
        exact h3
      refine rd_end hr h0 (Nat.le_antisymm hr.2.2.2.2.2.2.2 hp) ?_
      show w_X6_readWord_12 post G (r + 1) _ rc (nI n) _ (nI k + 1)
      rw [nI_1]
      exact cw_dead (S := cs_ui (cs_ui S 700 rc 1) 701 rc (nI z)) k1 (by rw [iui, if_neg (fun q => absurd q.1 (by decide)), iui, if_pos ⟨rfl, rfl⟩]; decide) hn hb r (k + 1) _ (by omega)
    · rw [if_neg hp] at hok hbad
      have hpz : p0 + k < z := by omega
      have ea := hA _ hpz
      have hb256 := hB _ hpz
      by_cases hl : bf (p0 + k) < 97 ∨ 122 < bf (p0 + k)
      · rw [if_pos hl] at hbad
        have hb : ∀ y, post y (cs_ui (cs_ui S 700 rc 2) 701 rc (nI (p0 + k))) := fun y => by
          have h3 : post y (cs_ui (cs_ui (cs_ui S 706 rc (nI (p0 + k))) 700 rc 2) 701 rc (nI (p0 + k))) := hbad (by show ¬ (2 : Int32) = 0; decide) y _
          rw [e1] at h3
          exact h3
        refine rd_bad hr h0 hpz ?_ ?_
        · rw [ea]
          rcases hl with hl | hl
          · exact Or.inl (nI_lt (b := 97) hl (by decide))
          · exact Or.inr (nI_ge (b := bf (p0 + k)) (a := 122) hl (by omega))
        · show w_X6_readWord_12 post G (r + 1) _ rc (nI n) _ (nI k + 1)
          rw [nI_1]
          exact cw_dead (S := cs_ui (cs_ui S 700 rc 2) 701 rc (nI (p0 + k))) k1 (by rw [iui, if_neg (fun q => absurd q.1 (by decide)), iui, if_pos ⟨rfl, rfl⟩]; decide) hn hb r (k + 1) _ (by omega)
      · rw [if_neg hl] at hok hbad
        refine rd_ok hr h0 hpz (by rw [ea]; exact nI_nlt (b := 97) (by omega) (by omega)) (by rw [ea]; exact nI_le (b := 122) (by omega) (by decide)) ?_
        show w_X6_readWord_12 post G (r + 1) _ rc (nI n) (Int64.ofNat (dg 5 12 (lf bf p0) k) ||| (((cs_ai S tp (p0 + k) - 97) + 1).toInt64 <<< ((5 * (11 - nI k)).toInt64 &&& 63))) (nI k + 1)
        rw [ea, wl_ok (lf_lt bf p0) (by omega) (by omega) (by omega) (by unfold lf; rw [if_pos ⟨by omega, by omega⟩]), nI_1]
        refine ih (k + 1) _ (by omega) (hr.on hpz) (by rw [iui, if_neg (fun q => absurd q.1 (by decide))]; exact h0) hA (fun hz => ?_) (fun hz y q => ?_)
        · rw [cs_uu]; exact hok hz
        · rw [cs_uu]; exact hbad hz y q
end CW
