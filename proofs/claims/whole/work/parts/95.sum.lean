/-! ===== the reference alone: sums ===== -/
/-- the number that event o brings -/
def vS (σ : rf_S) (b o : Nat) : Int := match fO σ o (σ.2.2.2 36 b) with
  | some k => (σ.2.2.1 15 (8 * o + k)).toInt
  | none => 0
theorem vS_bd (σ : rf_S) (b o : Nat) : -(2 ^ 31) ≤ vS σ b o ∧ vS σ b o ≤ 2 ^ 31 := by
  unfold vS
  split
  · rename_i k _
    have h1 := Int32.le_toInt (σ.2.2.1 15 (8 * o + k))
    have h2 := Int32.toInt_lt (σ.2.2.1 15 (8 * o + k))
    omega
  · omega
section STS
variable {σ : rf_S} {r b bk e w f : Nat} {tm : Nat → Nat} {Q : Int32 → rf_S → Prop}
theorem rst_s {Ls : Int32} (hP : sP σ r b bk e w tm) (hwh : σ.2.2.1 38 b = 2) (hL : σ.2.2.1 39 b = Ls) (hCe : wC σ r b f e w tm e)
    (hy : ∀ o, o ≤ e → wC σ r b f e w tm o → (∀ x, x < o → ¬ wC σ r b f e w tm x) → Ls.toInt ≤ sS (wC σ r b f e w tm) (vS σ b) 0 (e + 1) → Q (nI o) σ) (hn : ¬ Ls.toInt ≤ sS (wC σ r b f e w tm) (vS σ b) 0 (e + 1) → Q (-1) σ) :
    ∀ t, t ≤ e + 1 → (∀ o, t ≤ o → o ≤ e → tm e < tm o + w) → ∀ x7 x8 : Int32, ((∃ o, t ≤ o ∧ o ≤ e ∧ wC σ r b f e w tm o ∧ (∀ x, t ≤ x → x < o → ¬ wC σ r b f e w tm x) ∧ x7 = nI o) ∨ ∀ x, t ≤ x → x ≤ e → ¬ wC σ r b f e w tm x) → w_X12_startOf_64 Q (t + 1) σ (nI r) (nI e) (nI b) (nI f) (Int64.ofInt (sS (wC σ r b f e w tm) (vS σ b) t (e + 1 - t))) x7 x8 (nI t - 1) := by
  obtain ⟨h32, hbk, hr, hbb, he, hw, hw2, hev, hmono⟩ := hP
  have hb24 : b < 24 := by omega
  have i38 : vp_in (nI b) (rf_n 38) := nI_in (N := 24) hb24 (by decide)
  have i39 : vp_in (nI b) (rf_n 39) := nI_in (N := 24) hb24 (by decide)
  have hbd : ∀ t k, k ≤ 4001 → -(2 ^ 62) < sS (wC σ r b f e w tm) (vS σ b) t k ∧ sS (wC σ r b f e w tm) (vS σ b) t k < 2 ^ 62 := by
    intro t k hk
    have h2 := sS_bd (P := wC σ r b f e w tm) (v := vS σ b) (lo := t) (B := 2 ^ 31) (by decide) (fun x _ => vS_bd σ b x) k
    omega
  have fin : ∀ t, t ≤ e + 1 → (∀ x, x < t → ¬ tm e < tm x + w) → ∀ x7 x8 : Int32, ((∃ o, t ≤ o ∧ o ≤ e ∧ wC σ r b f e w tm o ∧ (∀ x, t ≤ x → x < o → ¬ wC σ r b f e w tm x) ∧ x7 = nI o) ∨ ∀ x, t ≤ x → x ≤ e → ¬ wC σ r b f e w tm x) → w_X12_startOf_243 Q σ (nI r) (nI e) (nI b) (nI f) (Int64.ofInt (sS (wC σ r b f e w tm) (vS σ b) t (e + 1 - t))) x7 x8 := by
    intro t ht hlow x7 x8 h7
    have hz : sS (wC σ r b f e w tm) (vS σ b) 0 (e + 1) = sS (wC σ r b f e w tm) (vS σ b) t (e + 1 - t) := by
      rw [show e + 1 = t + (e + 1 - t) from by omega, sS_app, sS_zero t (fun x _ hx q => hlow x (by omega) q.2), show t + (e + 1 - t) - t = e + 1 - t from by omega, Nat.zero_add]
      omega
    refine ⟨i38, fun _ => ⟨i39, ?_⟩, fun hc => ?_⟩
    · rw [nI_clamp (by omega), hL, hwh, lg_z (hbd t _ (by omega)).1 (hbd t _ (by omega)).2]
      refine ⟨fun hc => ⟨i38, fun _ => ?_, fun q => absurd q (by decide)⟩, fun hc => hn (by rw [hz]; exact hc)⟩
      rcases h7 with ⟨o, h1, h2, h3, h4, h5⟩ | h5
      · rw [h5]
        refine hy o h2 h3 (fun x hx q => ?_) (by rw [hz]; exact hc)
        by_cases c : t ≤ x
        · exact h4 x c hx q
        · exact hlow x (by omega) q.2
      · by_cases c : t ≤ e
        · exact absurd hCe (h5 e c (Nat.le_refl _))
        · exact absurd hCe.2 (hlow e (by omega))
    · rw [nI_clamp (by omega), hwh] at hc; exact absurd hc (by decide)
  intro t
  induction t with
  | zero =>
    intro _ _ x7 x8 h8
    exact ⟨fun _ => fin 0 (by omega) (fun x hx => absurd hx (by omega)) x7 x8 h8, fun hc => absurd (by decide) hc⟩
  | succ t ih =>
    intro ht hin x7 x8 h7
    obtain ⟨t1, t2, m, hm, h9⟩ := hev t (by omega)
    obtain ⟨t3, t4, -⟩ := hev e (Nat.le_refl _)
    have es : e + 1 - t = (e + 1 - (t + 1)) + 1 := by omega
    rw [nI_pred]
    refine ⟨fun hc => absurd hc (nI_pos (by omega)), fun _ => ⟨nI_in (N := 4001) (by omega) (by decide), nI_in (N := 4001) (by omega) (by decide), nI_in (N := 24) hb24 (by decide), ?_⟩⟩
    rw [nI_clamp (by omega : t < 2 ^ 31), nI_clamp (by omega : e < 2 ^ 31), nI_clamp (by omega : b < 2 ^ 31), t1, t3, hw, tcmp t2 t4 hw2]
    refine ⟨fun hc => fin (t + 1) ht (fun x hx q => ?_) x7 x8 h7, fun hc => rct h32 hbk hr hbb (by omega) hm h9 (fun hcc => ⟨fun _ => ⟨i38, fun _ => ⟨nI_in (N := 24) hb24 (by decide), ?_⟩, fun q => ?_⟩, fun q => absurd q (by decide)⟩) (fun hcc => ⟨fun q => absurd rfl q, fun _ => ?_⟩)⟩
    · have := hmono x t (by omega) (by omega)
      omega
    · have hC : wC σ r b f e w tm t := ⟨hcc, by omega⟩
      have hin' : ∀ o, t ≤ o → o ≤ e → tm e < tm o + w := fun o h1 h2 => by
        by_cases eo : o = t
        · rw [eo]; omega
        · exact hin o (by omega) h2
      rcases hcc.2.2 with z | ⟨k, hk, z⟩
      · exact absurd hwh z.2
      · have hk2 := fO_lt h9 hm hk
        refine rfo (by omega) h9 hm ?_
        rw [hk]
        have hst : sS (wC σ r b f e w tm) (vS σ b) t (e + 1 - t) = sS (wC σ r b f e w tm) (vS σ b) (t + 1) (e + 1 - (t + 1)) + (σ.2.2.1 15 (8 * t + k)).toInt := by
          rw [es, sS_down, one_y hC]
          simp only [Int.natCast_one, Int.one_mul]
          have : vS σ b t = (σ.2.2.1 15 (8 * t + k)).toInt := by unfold vS; rw [hk]
          omega
        refine ⟨i38, fun _ => ⟨i38, fun q => ?_, fun _ => ⟨nI_in (N := 32008) (c := 8 * t + k) (by omega) (by decide), ?_⟩⟩, fun q => ?_⟩
        · rw [nI_clamp (by omega)] at q; exact absurd hwh q
        · show w_X12_startOf_64 Q (t + 1) σ (nI r) (nI e) (nI b) (nI f) (_ + (σ.2.2.1 15 (nI (8 * t + k)).toNatClampNeg).toInt64) (nI t) x8 (nI t + (-1))
          rw [nI_clamp (by omega), nI_m1, z_add, ← hst]
          exact ih (by omega) hin' (nI t) x8 (Or.inl ⟨t, Nat.le_refl _, by omega, hC, fun x a b => absurd b (by omega), rfl⟩)
        · rw [nI_clamp (by omega), hwh] at q; exact absurd q (by decide)
    · rw [hwh] at q; exact absurd q (by decide)
    · have hC : ¬ wC σ r b f e w tm t := fun q => hcc q.1
      have hst : sS (wC σ r b f e w tm) (vS σ b) t (e + 1 - t) = sS (wC σ r b f e w tm) (vS σ b) (t + 1) (e + 1 - (t + 1)) := by
        rw [es, sS_down, one_n hC]
        simp
      show w_X12_startOf_64 Q (t + 1) σ (nI r) (nI e) (nI b) (nI f) _ x7 x8 (nI t + (-1))
      rw [nI_m1, ← hst]
      refine ih (by omega) (fun o h1 h2 => ?_) x7 x8 ?_
      · by_cases eo : o = t
        · rw [eo]; omega
        · exact hin o (by omega) h2
      · rcases h7 with ⟨o, h1, h2, h3, h4, h5⟩ | h5
        · refine Or.inl ⟨o, by omega, h2, h3, fun x a1 a2 => ?_, h5⟩
          by_cases ex : x = t
          · rw [ex]; exact hC
          · exact h4 x (by omega) a2
        · refine Or.inr (fun x a1 a2 => ?_)
          by_cases ex : x = t
          · rw [ex]; exact hC
          · exact h5 x (by omega) a2
end STS
