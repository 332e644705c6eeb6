/-! ===== unsigned numbers: the class's side ===== -/
theorem cs_uu {S : cs_S} {f a : Nat} {x y : Int32} : cs_ui (cs_ui S f a x) f a y = cs_ui S f a y := by
  refine Prod.ext rfl (Prod.ext (funext fun g => funext fun b => ?_) rfl)
  show cs_i (cs_ui (cs_ui S f a x) f a y) g b = cs_i (cs_ui S f a y) g b
  rw [iui, iui, iui]
  by_cases h : g = f ∧ b = a
  · rw [if_pos h, if_pos h]
  · rw [if_neg h, if_neg h, if_neg h]
theorem cs_us {S : cs_S} {f a : Nat} {x : Int32} (h : cs_i S f a = x) : cs_ui S f a x = S := by
  refine Prod.ext rfl (Prod.ext (funext fun g => funext fun b => ?_) rfl)
  show cs_i (cs_ui S f a x) g b = cs_i S g b
  rw [iui]
  by_cases e : g = f ∧ b = a
  · rw [if_pos e, e.1, e.2, h]
  · rw [if_neg e]
section CU
variable {G : Nat → Nat} {rc tp z : Nat} {st : Int32} {post : Int64 → cs_S → Prop}
theorem cu_54 {k10 : cs_S → Nat → Int32 → Int64 → Int32 → Prop} {S : cs_S} {v : Int64} {x4 x5 : Int32} (h : (x4 ≤ 0 ∨ ¬ x5 = 0) → w_X6_readUnsigned_70 post G k10 S rc st v x4 x5) (h2 : ¬ x4 ≤ 0 → x5 = 0 → w_X6_readUnsigned_64 post G k10 S rc st v x4 x5) : w_X6_readUnsigned_54 post G k10 S rc st v x4 x5 :=
  ⟨fun hc => h (Or.inl hc), fun hc => ⟨fun hd => h (Or.inr hd), fun hd => h2 hc hd⟩⟩
theorem cu_dead {S : cs_S} {v : Int64} {k n : Nat} (hk : cs_k S rc = 8) (h0 : ¬ cs_i S 700 rc = 0) (hk5 : k ≤ 5) (h : ∀ y, post y S) : w_X6_readUnsigned_10 post G (n + 1) S rc st v (nI k) := by
  have h70 : ∀ (k10 : cs_S → Nat → Int32 → Int64 → Int32 → Prop) y x4, w_X6_readUnsigned_70 post G k10 S rc st y x4 0 := fun k10 y x4 => ⟨fun hc => absurd hc (by decide), fun _ => h _⟩
  have h54 : ∀ (k10 : cs_S → Nat → Int32 → Int64 → Int32 → Prop) y x4, w_X6_readUnsigned_54 post G k10 S rc st y x4 0 := fun k10 y x4 => cu_54 (fun _ => h70 _ _ _) (fun _ _ => ⟨hk, rd_fail2 hk h0 (h70 _ _ _)⟩)
  exact ⟨fun _ => h _, fun _ => ⟨hk, rd_dead hk h0 ⟨fun _ => h54 _ _ _, fun _ => ⟨fun hc => absurd hc (by decide), fun _ => h54 _ _ _⟩⟩⟩⟩
theorem cu_10 : ∀ r k p vn (S : cs_S), k + r = 5 → 0 < r → vn < 2 ^ (7 * k) → rdC S rc tp p z → cs_i S 700 rc = 0 → (∀ j, j < z → ∃ b, b < 256 ∧ cs_ai S tp j = nI b) →
    ((ruf (cs_ai S tp) z r k p (Int64.ofNat vn)).1 = 0 → post (ruf (cs_ai S tp) z r k p (Int64.ofNat vn)).2.2 (cs_ui S 706 rc (nI (ruf (cs_ai S tp) z r k p (Int64.ofNat vn)).2.1))) →
    (¬ (ruf (cs_ai S tp) z r k p (Int64.ofNat vn)).1 = 0 → ∀ y q, post y (cs_ui (cs_ui (cs_ui S 706 rc q) 700 rc (ruf (cs_ai S tp) z r k p (Int64.ofNat vn)).1) 701 rc (if (ruf (cs_ai S tp) z r k p (Int64.ofNat vn)).1 = 1 then nI z else st))) →
    w_X6_readUnsigned_10 post G (r + 2) S rc st (Int64.ofNat vn) (nI k) := by
  intro r
  induction r with
  | zero => intro k p vn S _ h; exact absurd h (by decide)
  | succ r ih =>
    intro k p vn S hk _ hv hr h0 hB hok hbad
    rw [ruf] at hok hbad
    have k1 := hr.1
    refine ⟨fun hc => absurd hc (nI_ge (a := k) (b := 5) (by omega) (by decide)), fun _ => ⟨k1, ?_⟩⟩
    by_cases hp : z ≤ p
    · have hpz : p = z := Nat.le_antisymm hr.2.2.2.2.2.2.2 hp
      rw [if_pos hp] at hbad
      have e1 : cs_ui S 706 rc (nI p) = S := cs_us hr.2.2.2.2.2.1
      have hb : ∀ y, post y (cs_ui (cs_ui S 700 rc 1) 701 rc (nI z)) := fun y => by
        have h3 : post y (cs_ui (cs_ui (cs_ui S 706 rc (nI p)) 700 rc 1) 701 rc (nI z)) := hbad (by show ¬ (1 : Int32) = 0; decide) y (nI p)
        rw [e1] at h3
        exact h3
      refine rd_end hr h0 hpz ?_
      have hd : ¬ cs_i (cs_ui (cs_ui S 700 rc 1) 701 rc (nI z)) 700 rc = 0 := by
        rw [iui, if_neg (fun q => absurd q.1 (by decide)), iui, if_pos ⟨rfl, rfl⟩]
        decide
      have h70 : ∀ (k10 : cs_S → Nat → Int32 → Int64 → Int32 → Prop) y x4, w_X6_readUnsigned_70 post G k10 (cs_ui (cs_ui S 700 rc 1) 701 rc (nI z)) rc st y x4 0 := fun k10 y x4 => ⟨fun hc => absurd hc (by decide), fun _ => hb _⟩
      have h54 : ∀ (k10 : cs_S → Nat → Int32 → Int64 → Int32 → Prop) y x4, w_X6_readUnsigned_54 post G k10 (cs_ui (cs_ui S 700 rc 1) 701 rc (nI z)) rc st y x4 0 := fun k10 y x4 => cu_54 (fun _ => h70 _ _ _) (fun _ _ => ⟨k1, rd_fail2 k1 hd (h70 _ _ _)⟩)
      exact ⟨fun _ => h54 _ _ _, fun _ => ⟨fun hc => absurd hc (by decide), fun _ => h54 _ _ _⟩⟩
    · rw [if_neg hp] at hok hbad
      have hpz : p < z := by omega
      obtain ⟨b, hb, eb⟩ := hB p hpz
      have eb' : cs_ai S tp p = nI b := eb
      rw [eb'] at hok hbad
      refine rd_ok hr h0 hpz (by rw [eb']; exact nI_pos (by omega)) (by rw [eb']; exact nI_le (b := 255) (by omega) (by decide)) ?_
      rw [eb']
      have hr1 := hr.on hpz
      have h01 : cs_i (cs_ui S 706 rc (nI (p + 1))) 700 rc = 0 := by rw [iui, if_neg (fun q => absurd q.1 (by decide))]; exact h0
      have hvn := ruv_ok (bn := b) hb (by omega : k ≤ 4) hv
      -- a fault at this byte
      have hf : (∀ y, post y (cs_ui (cs_ui (cs_ui S 706 rc (nI (p + 1))) 700 rc 3) 701 rc st)) → w_X6_readUnsigned_64 post G (w_X6_readUnsigned_10 post G (r + 2)) (cs_ui S 706 rc (nI (p + 1))) rc st (ruv (nI b) k (Int64.ofNat vn)) (nI k) (nI b) := fun hy => by
        refine ⟨k1, rd_fail k1 h01 ⟨fun _ => ?_, fun _ => hy _⟩⟩
        rw [nI_1]
        have hd : ¬ cs_i (cs_ui (cs_ui (cs_ui S 706 rc (nI (p + 1))) 700 rc 3) 701 rc st) 700 rc = 0 := by
          rw [iui, if_neg (fun q => absurd q.1 (by decide)), iui, if_pos ⟨rfl, rfl⟩]
          decide
        exact cu_dead k1 hd (by omega) hy
      have hk4 : ∀ h : nI k = 4, k = 4 := fun h => (nI_eq (b := 4) (by omega) (by decide)).mp h
      have h15 : ∀ h : 15 < nI b, 15 < b := fun h => (nI_ltI (a := 15) (by decide) (by omega)).mp h
      have h128 : (128 ≤ nI b) ↔ 128 ≤ b := nI_leI (a := 128) (by decide) (by omega)
      have hb0 : nI b = 0 → b = 0 := fun h => (nI_eq (b := 0) (by omega) (by decide)).mp h
      have hkle : nI k ≤ 0 → k = 0 := fun h => by
        have := (nI_leI (a := k) (b := 0) (by omega) (by decide)).mp h
        omega
      by_cases hc : 128 ≤ nI b
      · rw [if_pos hc] at hok hbad
        have hcb := h128.mp hc
        cases r with
        | zero =>
          have hk9 : k = 4 := by omega
          have hy : ∀ y, post y (cs_ui (cs_ui (cs_ui S 706 rc (nI (p + 1))) 700 rc 3) 701 rc st) := fun y => hbad (by show ¬ (3 : Int32) = 0; decide) y _
          exact ⟨fun hq => absurd (by rw [hk9]; rfl) hq, fun _ => ⟨fun _ => hf hy, fun hq => absurd ((nI_ltI (a := 15) (by decide) (by omega)).mpr (by omega)) hq⟩⟩
        | succ r =>
          have h70 : w_X6_readUnsigned_70 post G (w_X6_readUnsigned_10 post G (r + 1 + 2)) (cs_ui S 706 rc (nI (p + 1))) rc st (ruv (nI b) k (Int64.ofNat vn)) (nI k) (nI b) := by
            refine ⟨fun _ => ?_, fun hq => absurd hc hq⟩
            rw [nI_1, hvn]
            rw [hvn] at hok hbad
            refine ih (k + 1) (p + 1) _ _ (by omega) (by omega) ?_ hr1 h01 hB (fun hz => ?_) (fun hz y q => ?_)
            · have e7 : 7 * (k + 1) = 7 * k + 7 := by omega
              rw [e7, Nat.pow_add]
              have : b % 128 * 2 ^ (7 * k) ≤ 127 * 2 ^ (7 * k) := Nat.mul_le_mul_right _ (by omega)
              omega
            · rw [cs_uu]; exact hok hz
            · rw [cs_uu]; exact hbad hz y q
          have h54 := cu_54 (fun _ => h70) (fun _ hq => absurd (hb0 hq) (by omega))
          exact ⟨fun _ => h54, fun hq => absurd (hk4 hq) (by omega)⟩
      · rw [if_neg hc] at hok hbad
        have hcb : b < 128 := Nat.not_le.mp (fun q => hc (h128.mpr q))
        have hbig := ruv_big (bn := b) (vn := vn) hcb (by omega : k ≤ 4) hv
        by_cases hg : 0 < lg_cmp (ruv (nI b) k (Int64.ofNat vn)) 4294967295
        · rw [if_pos hg] at hbad
          obtain ⟨hk9, hb9⟩ := hbig.mp hg
          have hy : ∀ y, post y (cs_ui (cs_ui (cs_ui S 706 rc (nI (p + 1))) 700 rc 3) 701 rc st) := fun y => hbad (by show ¬ (3 : Int32) = 0; decide) y _
          exact ⟨fun hq => absurd (by rw [hk9]; rfl) hq, fun _ => ⟨fun _ => hf hy, fun hq => absurd ((nI_ltI (a := 15) (by decide) (by omega)).mpr hb9) hq⟩⟩
        · rw [if_neg hg] at hok hbad
          have both : w_X6_readUnsigned_54 post G (w_X6_readUnsigned_10 post G (r + 2)) (cs_ui S 706 rc (nI (p + 1))) rc st (ruv (nI b) k (Int64.ofNat vn)) (nI k) (nI b) := by
            by_cases hb1 : 0 < nI b
            · rw [if_pos hb1] at hok
              exact cu_54 (fun _ => ⟨fun hq => absurd hq hc, fun _ => hok rfl⟩) (fun _ hq => absurd hb1 (by rw [hq]; decide))
            · rw [if_neg hb1] at hok hbad
              have hbz : b = 0 := by
                have := (not_congr (nI_ltI (a := 0) (b := b) (by decide) (by omega))).mp hb1
                omega
              by_cases hk0 : k = 0
              · rw [if_pos hk0] at hok
                exact cu_54 (fun _ => ⟨fun hq => absurd hq hc, fun _ => hok rfl⟩) (fun hq _ => absurd (by rw [hk0]; decide) hq)
              · rw [if_neg hk0] at hbad
                have hy : ∀ y, post y (cs_ui (cs_ui (cs_ui S 706 rc (nI (p + 1))) 700 rc 3) 701 rc st) := fun y => hbad (by show ¬ (3 : Int32) = 0; decide) y _
                refine cu_54 (fun hq => ?_) (fun _ _ => hf hy)
                rcases hq with hq | hq
                · exact absurd (hkle hq) hk0
                · exact absurd (by rw [hbz]; rfl) hq
          exact ⟨fun _ => both, fun hq => ⟨fun hq2 => absurd (hbig.mpr ⟨hk4 hq, h15 hq2⟩) hg, fun _ => both⟩⟩
end CU
