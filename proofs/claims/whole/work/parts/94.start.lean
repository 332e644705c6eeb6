/-! ===== the reference alone: where what is found begins: counts and sums ===== -/
theorem i64_ofInt {z : Int} (h1 : -(2 ^ 62) < z) (h2 : z < 2 ^ 62) : (Int64.ofInt z).toInt = z := by
  rw [Int64.toInt_ofInt, show Int64.size = 18446744073709551616 from rfl, Int.bmod_eq_of_le] <;> omega
theorem lg_z {z : Int} {y : Int32} (h1 : -(2 ^ 62) < z) (h2 : z < 2 ^ 62) : 0 ≤ lg_cmp (Int64.ofInt z) y.toInt64 ↔ y.toInt ≤ z := by
  rw [lg_nn, Int64.le_iff_toInt_le, Int32.toInt_toInt64, i64_ofInt h1 h2]
theorem lg_ze {z : Int} {y : Int32} (h1 : -(2 ^ 62) < z) (h2 : z < 2 ^ 62) : lg_cmp (Int64.ofInt z) y.toInt64 = 0 ↔ z = y.toInt := by
  rw [lg_eq, ← Int64.toInt_inj, Int32.toInt_toInt64, i64_ofInt h1 h2]
theorem z_add (z : Int) (y : Int32) : Int64.ofInt z + y.toInt64 = Int64.ofInt (z + y.toInt) := by
  rw [Int64.ofInt_add]
  rfl
theorem z_1 (z : Int) : Int64.ofInt z + 1 = Int64.ofInt (z + 1) := by
  rw [Int64.ofInt_add]
  rfl
/-- the rule's place, its events and their times -/
def sP (σ : rf_S) (r b bk e w : Nat) (tm : Nat → Nat) : Prop := σ.1 32 = nI bk ∧ bk ≤ 1 ∧ r < 12 ∧ b = 12 * bk + r ∧ e < 4000 ∧ σ.2.2.1 44 b = nI w ∧ w < 2 ^ 31 ∧ (∀ o, o ≤ e → σ.2.2.1 8 o = nI (tm o) ∧ tm o < 2 ^ 31 ∧ ∃ m, m ≤ 8 ∧ σ.2.2.1 9 o = nI m) ∧ ∀ o o', o ≤ o' → o' ≤ e → tm o ≤ tm o'
/-- it counts and lies in the window of event e -/
def wC (σ : rf_S) (r b f e w : Nat) (tm : Nat → Nat) (o : Nat) : Prop := cC σ r b f o ∧ tm e < tm o + w
section STA
variable {σ : rf_S} {r b bk e w f : Nat} {tm : Nat → Nat} {Q : Int32 → rf_S → Prop}
theorem rst_c {L : Nat} (hP : sP σ r b bk e w tm) (hwh : σ.2.2.1 38 b = 0) (hL : σ.2.2.1 39 b = nI L) (hL1 : 1 ≤ L) (hL2 : L ≤ 1000)
    (hy : ∀ o, o ≤ e → wC σ r b f e w tm o → sS (wC σ r b f e w tm) (fun _ => 1) o (e + 1 - o) = L → Q (nI o) σ) (hn : sS (wC σ r b f e w tm) (fun _ => 1) 0 (e + 1) < L → Q (-1) σ) :
    ∀ t, t ≤ e + 1 → (∀ o, t ≤ o → o ≤ e → tm e < tm o + w) → ∀ x7 x8 : Int32, ((∃ o, t ≤ o ∧ o ≤ e ∧ wC σ r b f e w tm o ∧ sS (wC σ r b f e w tm) (fun _ => 1) o (e + 1 - o) = L ∧ x8 = nI o) ∨ (x8 = -1 ∧ sS (wC σ r b f e w tm) (fun _ => 1) t (e + 1 - t) < L)) → w_X12_startOf_64 Q (t + 1) σ (nI r) (nI e) (nI b) (nI f) (Int64.ofInt (sS (wC σ r b f e w tm) (fun _ => 1) t (e + 1 - t))) x7 x8 (nI t - 1) := by
  obtain ⟨h32, hbk, hr, hbb, he, hw, hw2, hev, hmono⟩ := hP
  have hb24 : b < 24 := by omega
  have i38 : vp_in (nI b) (rf_n 38) := nI_in (N := 24) hb24 (by decide)
  have i39 : vp_in (nI b) (rf_n 39) := nI_in (N := 24) hb24 (by decide)
  have hbd : ∀ t k, -(2 ^ 62) < sS (wC σ r b f e w tm) (fun _ => 1) t k ∧ (k ≤ 4001 → sS (wC σ r b f e w tm) (fun _ => 1) t k < 2 ^ 62) := by
    intro t k
    have h1 := sS_nn (P := wC σ r b f e w tm) (v := fun _ => 1) (lo := t) (fun _ => by decide) k
    have h2 := (sS_bd (P := wC σ r b f e w tm) (v := fun _ => 1) (lo := t) (B := 1) (by decide) (fun _ _ => by decide) k).2
    exact ⟨by omega, fun hk => by omega⟩
  -- the end, at t: nothing below lies in the window
  have fin : ∀ t, t ≤ e + 1 → (∀ x, x < t → ¬ tm e < tm x + w) → ∀ x7 x8 : Int32, ((∃ o, t ≤ o ∧ o ≤ e ∧ wC σ r b f e w tm o ∧ sS (wC σ r b f e w tm) (fun _ => 1) o (e + 1 - o) = L ∧ x8 = nI o) ∨ (x8 = -1 ∧ sS (wC σ r b f e w tm) (fun _ => 1) t (e + 1 - t) < L)) → w_X12_startOf_243 Q σ (nI r) (nI e) (nI b) (nI f) (Int64.ofInt (sS (wC σ r b f e w tm) (fun _ => 1) t (e + 1 - t))) x7 x8 := by
    intro t ht hlow x7 x8 h8
    have hz : sS (wC σ r b f e w tm) (fun _ => 1) 0 (e + 1) = sS (wC σ r b f e w tm) (fun _ => 1) t (e + 1 - t) := by
      rw [show e + 1 = t + (e + 1 - t) from by omega, sS_app, sS_zero t (fun x _ hx q => hlow x (by omega) q.2), show t + (e + 1 - t) - t = e + 1 - t from by omega, Nat.zero_add]
      omega
    refine ⟨i38, fun _ => ⟨i39, ?_⟩, fun hc => ?_⟩
    · rw [nI_clamp (by omega), hL, hwh, lg_z (hbd t _).1 ((hbd t _).2 (by omega)), nI_toInt (by omega)]
      refine ⟨fun hc => ⟨i38, fun q => absurd rfl q, fun _ => ?_⟩, fun hc => hn (by rw [hz]; omega)⟩
      rcases h8 with ⟨o, h1, h2, h3, h4, h5⟩ | ⟨-, h5⟩
      · rw [h5]; exact hy o h2 h3 h4
      · omega
    · rw [nI_clamp (by omega), hwh] at hc; exact absurd hc (by decide)
  intro t
  induction t with
  | zero =>
    intro _ _ x7 x8 h8
    exact ⟨fun _ => fin 0 (by omega) (fun x hx => absurd hx (by omega)) x7 x8 h8, fun hc => absurd (by decide) hc⟩
  | succ t ih =>
    intro ht hin x7 x8 h8
    obtain ⟨t1, t2, m, hm, h9⟩ := hev t (by omega)
    obtain ⟨t3, t4, -⟩ := hev e (Nat.le_refl _)
    have es : e + 1 - t = (e + 1 - (t + 1)) + 1 := by omega
    rw [nI_pred]
    refine ⟨fun hc => absurd hc (nI_pos (by omega)), fun _ => ⟨nI_in (N := 4001) (by omega) (by decide), nI_in (N := 4001) (by omega) (by decide), nI_in (N := 24) hb24 (by decide), ?_⟩⟩
    rw [nI_clamp (by omega : t < 2 ^ 31), nI_clamp (by omega : e < 2 ^ 31), nI_clamp (by omega : b < 2 ^ 31), t1, t3, hw, tcmp t2 t4 hw2]
    refine ⟨fun hc => fin (t + 1) ht (fun x hx q => ?_) x7 x8 h8, fun hc => rct h32 hbk hr hbb (by omega) hm h9 (fun hcc => ⟨fun _ => ⟨i38, fun q => ?_, fun _ => ⟨i38, fun q => ?_, fun _ => ⟨i39, ?_⟩⟩⟩, fun q => absurd q (by decide)⟩) (fun hcc => ⟨fun q => absurd rfl q, fun _ => ?_⟩)⟩
    · have := hmono x t (by omega) (by omega)
      omega
    · exact absurd hwh q
    · rw [nI_clamp (by omega)] at q
      exact absurd hwh q
    · have hC : wC σ r b f e w tm t := ⟨hcc, by omega⟩
      have hst : sS (wC σ r b f e w tm) (fun _ => 1) t (e + 1 - t) = sS (wC σ r b f e w tm) (fun _ => 1) (t + 1) (e + 1 - (t + 1)) + 1 := by
        rw [es, sS_down, one_y hC]
        simp only [Int.natCast_one, Int.one_mul]
        omega
      have hin' : ∀ o, t ≤ o → o ≤ e → tm e < tm o + w := fun o h1 h2 => by
        by_cases eo : o = t
        · rw [eo]; omega
        · exact hin o (by omega) h2
      rw [nI_clamp (by omega), hL, z_1, lg_ze (by have := (hbd (t + 1) (e + 1 - (t + 1))).1; omega) (by have := sS_bd (P := wC σ r b f e w tm) (v := fun _ => 1) (lo := t + 1) (B := 1) (by decide) (fun _ _ => by decide) (e + 1 - (t + 1)); omega), nI_toInt (by omega), ← hst]
      refine ⟨fun hq => ?_, fun hq => ?_⟩
      · show w_X12_startOf_64 Q (t + 1) σ (nI r) (nI e) (nI b) (nI f) _ (nI t) x8 (nI t + (-1))
        rw [nI_m1]
        refine ih (by omega) hin' (nI t) x8 ?_
        rcases h8 with ⟨o, h1, h2⟩ | ⟨h1, h2⟩
        · exact Or.inl ⟨o, by omega, h2⟩
        · exact Or.inr ⟨h1, by omega⟩
      · show w_X12_startOf_64 Q (t + 1) σ (nI r) (nI e) (nI b) (nI f) _ (nI t) (nI t) (nI t + (-1))
        rw [nI_m1]
        exact ih (by omega) hin' (nI t) (nI t) (Or.inl ⟨t, Nat.le_refl _, by omega, hC, hq, rfl⟩)
    · have hC : ¬ wC σ r b f e w tm t := fun q => hcc q.1
      have hst : sS (wC σ r b f e w tm) (fun _ => 1) t (e + 1 - t) = sS (wC σ r b f e w tm) (fun _ => 1) (t + 1) (e + 1 - (t + 1)) := by
        rw [es, sS_down, one_n hC]
        simp
      show w_X12_startOf_64 Q (t + 1) σ (nI r) (nI e) (nI b) (nI f) _ x7 x8 (nI t + (-1))
      rw [nI_m1, ← hst]
      refine ih (by omega) (fun o h1 h2 => ?_) x7 x8 ?_
      · by_cases eo : o = t
        · rw [eo]; omega
        · exact hin o (by omega) h2
      · rcases h8 with ⟨o, h1, h2⟩ | ⟨h1, h2⟩
        · exact Or.inl ⟨o, by omega, h2⟩
        · exact Or.inr ⟨h1, by omega⟩
end STA
