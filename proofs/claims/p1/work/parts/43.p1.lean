/-! ===== one call on a fresh object ===== -/
theorem i32_ge {x : Int32} (h : ¬ x < 0) : (0 : Int32) ≤ x := Int32.not_lt.mp h
theorem rthr {post : Int32 → rf_S → Prop} {σ : rf_S} (h : post 1 (rf_ui σ 0 1)) : wp_X12_throwsIf post σ 1 := ⟨fun hc => absurd hc (by decide), fun _ => ⟨rfl, h⟩⟩
theorem cf_newA {G : Nat → Nat} {S : cs_S} {xo ob : Nat} (h : cf_F G S xo) (hob : cs_k S ob = 0) : cf_F G (cs_newA S ob 21 1) xo := by
  obtain ⟨tp, sc, kd, pl, am, rv, rc, pk, wt, ru, la, td, ⟨⟨a1, a2, a3, a4, a5⟩, ⟨b1, b2⟩, ⟨c1, c2, c3, c4, c5⟩, ⟨d1, d2, d3, d4, d5, d6, d7, d8, d9⟩, ⟨e1, e2, e3, e4⟩, ⟨f1, f2, f3, f4, f5⟩, g⟩, ⟨h1, h2, h3⟩, ⟨i1, i2, i3⟩, ⟨j1, j2, j3, j4, j5, j6, j7, j8, j9, j10, j11⟩, k⟩ := h
  have x1 := (cs_ne hob a1).symm
  have x2 := (cs_ne hob b1).symm
  have x3 := (cs_ne hob c1).symm
  have x4 := (cs_ne hob d1).symm
  have x5 := (cs_ne hob d3).symm
  have x6 := (cs_ne hob d5).symm
  have x7 := (cs_ne hob d7).symm
  have x8 := (cs_ne hob e1).symm
  have x9 := (cs_ne hob e3).symm
  have x10 := (cs_ne hob f1).symm
  have x11 := (cs_ne hob f2).symm
  have x12 := (cs_ne hob f4).symm
  have x13 := (cs_ne hob j2).symm
  have x14 := (cs_ne hob j6).symm
  have x15 := (cs_ne hob j9).symm
  refine ⟨tp, sc, kd, pl, am, rv, rc, pk, wt, ru, la, td, ⟨⟨by simp [knewA, x1, a1], a2, a3, a4, a5⟩, ⟨by simp [knewA, x2, b1], by simp [nnewA, x2, b2]⟩, ⟨by simp [knewA, x3, c1], c2, c3, c4, c5⟩, ⟨by simp [knewA, x4, d1], by simp [nnewA, x4, d2], by simp [knewA, x5, d3], by simp [nnewA, x5, d4], by simp [knewA, x6, d5], by simp [nnewA, x6, d6], by simp [knewA, x7, d7], by simp [nnewA, x7, d8], fun j => by simp [alnewA, x7, d9]⟩, ⟨by simp [knewA, x8, e1], e2, by simp [knewA, x9, e3], by simp [nnewA, x9, e4]⟩, ⟨by simp [knewA, x10, f1], by simp [knewA, x11, f2], by simp [nnewA, x11, f3], by simp [knewA, x12, f4], by simp [nnewA, x12, f5]⟩, g⟩, ⟨h1, h2, h3⟩, ⟨i1, i2, i3⟩, ⟨j1, by simp [knewA, x13, j2], by simp [nnewA, x13, j3], j4, j5, by simp [knewA, x14, j6], by simp [nnewA, x14, j7], j8, by simp [knewA, x15, j9], j10, j11⟩, k⟩
section P1T
variable {Cm Sm : Nat} {xs : Nat → Int32} {G : Nat → Nat} {xo ob i u v : Nat} {K : cs_S → rf_S → Nat → Nat → Prop} {S : cs_S} {σ : rf_S}
theorem p1_feed (hF : cf_F G S xo) (hR : rf_F σ) (hK : ∀ S σ u v, K S σ u v) : lw_feed Cm Sm xs G xo ob i K S σ u v := by
  obtain ⟨tp, sc, kd, pl, am, rv, rc, pk, wt, ru, la, td, ⟨⟨a1, a2, a3, a4, a5⟩, ⟨b1, b2⟩, -⟩, ⟨h1, h2, h3⟩, -⟩ := hF
  refine pf_feed (z := 0) ⟨a1, a2, b1, b2, h1⟩ (by decide) ?_
  exact rf_feed (z := 0) (hR.1 2 (by decide) (by decide)) (by decide) ⟨rfl, hK _ _ _ _⟩
theorem p1_end (hF : cf_F G S xo) (hR : rf_F σ) (hK : ∀ S σ u v, K S σ u v) : lw_end Cm Sm xs G xo ob i K S σ u v := by
  obtain ⟨tp, sc, kd, pl, am, rv, rc, pk, wt, ru, la, td, ⟨⟨a1, a2, a3, a4, a5⟩, -⟩, ⟨h1, h2, h3⟩, -⟩ := hF
  have r2 := hR.1 2 (by decide) (by decide)
  refine ⟨fun hc => ?_, fun hc => ⟨a1, fun hd S4 e4 => ?_, fun hd => ?_⟩⟩
  · exact ⟨fun _ => ⟨rfl, hK _ _ _ _⟩, fun h => absurd hc h⟩
  · rw [h1] at hd
    refine ⟨fun h => absurd h hc, fun _ => ⟨fun _ => ⟨rfl, hK _ _ _ _⟩, fun h => absurd ?_ h⟩⟩
    rw [r2]
    exact hd
  · rw [h1] at hd
    refine ⟨fun h => absurd h hc, fun _ => ⟨fun h => absurd ?_ hd, fun _ => ⟨rfl, hK _ _ _ _⟩⟩⟩
    rw [r2] at h
    exact h
theorem p1_fault (hF : cf_F G S xo) (hR : rf_F σ) (hK : ∀ S σ u v, K S σ u v) : lw_fault Cm Sm xs G xo ob i K S σ u v := by
  obtain ⟨tp, sc, kd, pl, am, rv, rc, pk, wt, ru, la, td, ⟨⟨a1, -⟩, -⟩, ⟨h1, h2, h3⟩, -⟩ := hF
  refine ⟨a1, ?_, hK _ _ _ _⟩
  rw [h2, hR.1 5 (by decide) (by decide)]
theorem p1_place (hF : cf_F G S xo) (hR : rf_F σ) (hK : ∀ S σ u v, K S σ u v) : lw_place Cm Sm xs G xo ob i K S σ u v := by
  obtain ⟨tp, sc, kd, pl, am, rv, rc, pk, wt, ru, la, td, ⟨⟨a1, -⟩, -⟩, ⟨h1, h2, h3⟩, -⟩ := hF
  refine ⟨a1, ?_, hK _ _ _ _⟩
  rw [h3, hR.2]
theorem p1_count (hF : cf_F G S xo) (hR : rf_F σ) (hK : ∀ S σ u v, K S σ u v) : lw_count Cm Sm xs G xo ob i K S σ u v := by
  obtain ⟨tp, sc, kd, pl, am, rv, rc, pk, wt, ru, la, td, ⟨⟨a1, a2, a3, a4, a5⟩, -, -, -, ⟨e1, -⟩, ⟨f1, -⟩, -⟩, ⟨h1, h2, h3⟩, ⟨i1, i2, i3⟩, ⟨j1, j2, j3, j4, -⟩, ⟨k1, k2, k3, k4, k5, -⟩⟩ := hF
  have rz : ∀ k, k ≠ 6 → k ≠ 7 → σ.1 k = 0 := hR.1
  have key : ∀ (x : Int32) (r : Int32), (∀ j : Int, j = 0 ∨ j = 1 ∨ j = 2 ∨ j = 3 ∨ j = 4 ∨ j = 5 ∨ j = 6 ∨ j = 7 → x.toInt = j → r = 0) → (x.toInt < 0 ∨ 7 < x.toInt → r = -1) → ∀ S1, wp_X12_count (fun r2 σ1 => r = r2 ∧ K S1 σ1 u v) σ x := by
    intro x r hr hr2 S1
    refine ⟨fun hc => ⟨hr2 hc, hK _ _ _ _⟩, fun hc => ⟨?_, hK _ _ _ _⟩, fun hc => ⟨?_, hK _ _ _ _⟩, fun hc => ⟨?_, hK _ _ _ _⟩, fun hc => ⟨?_, hK _ _ _ _⟩, fun hc => ⟨?_, hK _ _ _ _⟩, fun hc => ⟨?_, hK _ _ _ _⟩, fun hc => ⟨?_, hK _ _ _ _⟩, fun hc => ⟨?_, hK _ _ _ _⟩⟩
    · rw [hr 0 (by omega) hc, rz 33 (by decide) (by decide)]
    · rw [hr 1 (by omega) hc, rz 19 (by decide) (by decide)]
    · rw [hr 2 (by omega) hc, rz 23 (by decide) (by decide)]
    · rw [hr 3 (by omega) hc, rz 78 (by decide) (by decide)]
    · rw [hr 4 (by omega) hc, rz 79 (by decide) (by decide)]
    · rw [hr 5 (by omega) hc, rz 21 (by decide) (by decide)]
    · rw [hr 6 (by omega) hc, rz 2 (by decide) (by decide)]
    · rw [hr 7 (by omega) hc, rz 85 (by decide) (by decide)]
  have z : ∀ r : Int32, r = 0 → ∀ x : Int32, x.toInt = 0 ∨ x.toInt = 1 ∨ x.toInt = 2 ∨ x.toInt = 3 ∨ x.toInt = 4 ∨ x.toInt = 5 ∨ x.toInt = 6 ∨ x.toInt = 7 → ∀ S1, wp_X12_count (fun r2 σ1 => r = r2 ∧ K S1 σ1 u v) σ x := fun r hr x hx S1 => key x r (fun _ _ _ => hr) (fun h => by omega) S1
  refine ⟨fun hc => key _ _ (fun j hj hx => by omega) (fun _ => rfl) S, fun hc => ⟨a1, fun r e => ⟨wt, e.trans a5, f1, z _ j4 _ (by omega) S⟩⟩, fun hc => ⟨a1, fun r e => ⟨wt, e.trans a5, f1, z _ k1 _ (by omega) S⟩⟩, fun hc => ⟨a1, fun r e => ⟨wt, e.trans a5, f1, z _ k2 _ (by omega) S⟩⟩, fun hc => ⟨a1, fun r e => ⟨wt, e.trans a5, f1, z _ k3 _ (by omega) S⟩⟩, fun hc => ⟨a1, fun r e => ⟨wt, e.trans a5, f1, z _ k4 _ (by omega) S⟩⟩, fun hc => ⟨a1, fun r e => ⟨wt, e.trans a5, f1, z _ k5 _ (by omega) S⟩⟩, fun hc => ⟨a1, z _ h1 _ (by omega) S⟩, fun hc => ⟨a1, fun r e => ⟨rc, e.trans a4, e1, z _ i3 _ (by omega) S⟩⟩⟩
theorem told0 {post : Option Nat → cs_S → Prop} {wt td : Nat} {x : Int32} (f1 : cs_k S wt = 12) (j8 : cs_r S 1103 wt = some td) (j9 : cs_k S td = 1) (j11 : cs_i S 2 td = 0) (h : post none S) : wp_X10_toldAt post G S wt x :=
  ⟨fun _ => h, fun hc => ⟨f1, fun r9 e9 => ⟨td, e9.trans j8, j9, j9, fun hd => absurd (by rw [j11] at hd; exact hd) hc, fun _ => h⟩⟩⟩
theorem late0 {post : Option Nat → cs_S → Prop} {wt : Nat} {x : Int32} (f1 : cs_k S wt = 12) (k1 : cs_i S 1104 wt = 0) (h : post none S) : wp_X10_latestAt post G S wt x :=
  ⟨fun _ => h, fun hc => ⟨f1, fun _ => h, fun hd => absurd (by rw [k1]; exact i32_ge hc) hd⟩⟩
theorem p1_alert (hF : cf_F G S xo) (hR : rf_F σ) (hK : ∀ S σ u v, K S σ u v) (hu : u + 1 ≤ Cm) (hv : v + 6 ≤ Sm) : lw_alert Cm Sm xs G xo ob i K S σ u v := by
  obtain ⟨tp, sc, kd, pl, am, rv, rc, pk, wt, ru, la, td, ⟨⟨a1, a2, a3, a4, a5⟩, -, -, -, ⟨e1, -⟩, ⟨f1, -⟩, -⟩, -, -, ⟨j1, j2, j3, j4, j5, j6, j7, j8, j9, j10, j11⟩, -⟩ := hF
  have r78 := hR.1 78 (by decide) (by decide)
  have fin : ∀ S1, wp_X12_alert (fun b σ1 => wp_X12_thrown (fun t σ2 => t = 1 ∧ ((1 : Int32) = 0 → cs_k S1 ob = 21 ∧ vp_in 0 (cs_n S1 ob) ∧ cs_al S1 ob 0 = b.toInt64) ∧ K S1 σ2 (u + 1) (v + 6)) σ1) σ (xs (i + 1)) (xs (i + 2)) := by
    intro S1
    have t : ∀ x y, w_X12_alert_29 (fun b σ1 => wp_X12_thrown (fun t σ2 => t = 1 ∧ ((1 : Int32) = 0 → cs_k S1 ob = 21 ∧ vp_in 0 (cs_n S1 ob) ∧ cs_al S1 ob 0 = b.toInt64) ∧ K S1 σ2 (u + 1) (v + 6)) σ1) σ x y := fun x y => rthr ⟨fun hc => absurd hc (by decide), fun _ => ⟨rfl, fun hc => absurd hc (by decide), hK _ _ _ _⟩⟩
    refine ⟨fun _ => t _ _, fun hc => ⟨fun _ => t _ _, fun hd => absurd ?_ hd⟩⟩
    rw [r78]
    exact i32_ge hc
  refine ⟨1, 6, hu, hv, a1, a1, fun r17 e17 => ⟨wt, e17.trans a5, f1, told0 f1 j8 j9 j11 ⟨fun _ => ⟨Nat.le_refl _, Nat.le_refl _, fin S⟩, fun b hb => absurd hb (by simp)⟩⟩⟩
theorem p1_key (hF : cf_F G S xo) (hR : rf_F σ) (hK : ∀ S σ u v, K S σ u v) (hu : u + 1 ≤ Cm) (hv : v + 6 ≤ Sm) : lw_key Cm Sm xs G xo ob i K S σ u v := by
  obtain ⟨tp, sc, kd, pl, am, rv, rc, pk, wt, ru, la, td, ⟨⟨a1, a2, a3, a4, a5⟩, -, -, -, ⟨e1, -⟩, ⟨f1, -⟩, -⟩, -, -, ⟨j1, j2, j3, j4, j5, j6, j7, j8, j9, j10, j11⟩, -⟩ := hF
  have r78 := hR.1 78 (by decide) (by decide)
  have fin : ∀ S1, wp_X12_key (fun b σ1 => wp_X12_thrown (fun t σ2 => t = 1 ∧ ((1 : Int32) = 0 → cs_k S1 ob = 21 ∧ vp_in 0 (cs_n S1 ob) ∧ cs_al S1 ob 0 = b.toInt64) ∧ K S1 σ2 (u + 1) (v + 6)) σ1) σ (xs (i + 1)) (xs (i + 2)) (xs (i + 3)) := by
    intro S1
    have t : ∀ x y z, w_X12_key_20 (fun b σ1 => wp_X12_thrown (fun t σ2 => t = 1 ∧ ((1 : Int32) = 0 → cs_k S1 ob = 21 ∧ vp_in 0 (cs_n S1 ob) ∧ cs_al S1 ob 0 = b.toInt64) ∧ K S1 σ2 (u + 1) (v + 6)) σ1) σ x y z := fun x y z => rthr ⟨fun hc => absurd hc (by decide), fun _ => ⟨rfl, fun hc => absurd hc (by decide), hK _ _ _ _⟩⟩
    refine ⟨fun _ => t _ _ _, fun hc => ⟨fun _ => t _ _ _, fun hd => absurd ?_ hd⟩⟩
    rw [r78]
    exact i32_ge hc
  refine ⟨1, 6, hu, hv, a1, a1, fun r35 e35 => ⟨wt, e35.trans a5, f1, told0 f1 j8 j9 j11 ⟨fun _ => ⟨Nat.zero_le _, Nat.zero_le _, fun _ => ⟨Nat.le_refl _, Nat.le_refl _, fin S⟩, fun b hb => absurd hb (by simp)⟩, fun b hb => absurd hb (by simp)⟩⟩⟩
theorem p1_rule (hF : cf_F G S xo) (hR : rf_F σ) (hK : ∀ S σ u v, K S σ u v) (hu : u + 1 ≤ Cm) (hv : v + 6 ≤ Sm) : lw_rule Cm Sm xs G xo ob i K S σ u v := by
  obtain ⟨tp, sc, kd, pl, am, rv, rc, pk, wt, ru, la, td, ⟨⟨a1, a2, a3, a4, a5⟩, -, -, -, ⟨e1, -⟩, ⟨f1, -⟩, -⟩, -, -, ⟨j1, j2, j3, j4, -⟩, -⟩ := hF
  have r33 := hR.1 33 (by decide) (by decide)
  have fin : ∀ S1, wp_X12_rule_ (fun b σ1 => wp_X12_thrown (fun t σ2 => t = 1 ∧ ((1 : Int32) = 0 → cs_k S1 ob = 21 ∧ vp_in 0 (cs_n S1 ob) ∧ cs_al S1 ob 0 = b.toInt64) ∧ K S1 σ2 (u + 1) (v + 6)) σ1) σ (xs (i + 1)) (xs (i + 2)) := by
    intro S1
    have t : ∀ x y, w_X12_rule__22 (fun b σ1 => wp_X12_thrown (fun t σ2 => t = 1 ∧ ((1 : Int32) = 0 → cs_k S1 ob = 21 ∧ vp_in 0 (cs_n S1 ob) ∧ cs_al S1 ob 0 = b.toInt64) ∧ K S1 σ2 (u + 1) (v + 6)) σ1) σ x y := fun x y => rthr ⟨fun hc => absurd hc (by decide), fun _ => ⟨rfl, fun hc => absurd hc (by decide), hK _ _ _ _⟩⟩
    refine ⟨fun _ => t _ _, fun hc => ⟨fun _ => t _ _, fun hd => absurd ?_ hd⟩⟩
    rw [r33]
    exact i32_ge hc
  have t24 : w_X11_rule_24 (fun r S1 => cs_k S1 ob = 21 ∧ vp_in 0 (cs_n S1 ob) ∧ (fun k S1 => wp_X12_rule_ (fun b σ1 => wp_X12_thrown (fun t σ2 => t = k ∧ (k = 0 → cs_k S1 ob = 21 ∧ vp_in 0 (cs_n S1 ob) ∧ cs_al S1 ob 0 = b.toInt64) ∧ K S1 σ2 (u + 1) (v + 6)) σ1) σ (xs (i + 1)) (xs (i + 2))) 0 (cs_ual S1 ob 0 r.toInt64)) (fun S1 => (fun k S1 => wp_X12_rule_ (fun b σ1 => wp_X12_thrown (fun t σ2 => t = k ∧ (k = 0 → cs_k S1 ob = 21 ∧ vp_in 0 (cs_n S1 ob) ∧ cs_al S1 ob 0 = b.toInt64) ∧ K S1 σ2 (u + 1) (v + 6)) σ1) σ (xs (i + 1)) (xs (i + 2))) 1 S1) G 1 6 S 0 0 := ⟨Nat.zero_le _, Nat.zero_le _, Nat.le_refl _, Nat.le_refl _, fin S⟩
  refine ⟨1, 6, hu, hv, a1, fun _ => t24, fun hc => ⟨a1, fun r21 e21 => ⟨wt, e21.trans a5, f1, fun _ => t24, fun hd => absurd ?_ hd⟩⟩⟩
  rw [j4]
  exact i32_ge hc
theorem p1_event (hF : cf_F G S xo) (hR : rf_F σ) (hK : ∀ S σ u v, K S σ u v) (hu : u + 1 ≤ Cm) (hv : v + 6 ≤ Sm) : lw_event Cm Sm xs G xo ob i K S σ u v := by
  obtain ⟨tp, sc, kd, pl, am, rv, rc, pk, wt, ru, la, td, ⟨⟨a1, a2, a3, a4, a5⟩, -, -, -, ⟨e1, -⟩, ⟨f1, -⟩, -⟩, -, -, -, ⟨k1, -⟩⟩ := hF
  have r19 := hR.1 19 (by decide) (by decide)
  have fin : ∀ S1, wp_X12_event (fun b σ1 => wp_X12_thrown (fun t σ2 => t = 1 ∧ ((1 : Int32) = 0 → cs_k S1 ob = 21 ∧ vp_in 0 (cs_n S1 ob) ∧ cs_al S1 ob 0 = b.toInt64) ∧ K S1 σ2 (u + 1) (v + 6)) σ1) σ (xs (i + 1)) (xs (i + 2)) := by
    intro S1
    have t : ∀ x y, w_X12_event_18 (fun b σ1 => wp_X12_thrown (fun t σ2 => t = 1 ∧ ((1 : Int32) = 0 → cs_k S1 ob = 21 ∧ vp_in 0 (cs_n S1 ob) ∧ cs_al S1 ob 0 = b.toInt64) ∧ K S1 σ2 (u + 1) (v + 6)) σ1) σ x y := fun x y => rthr ⟨fun hc => absurd hc (by decide), fun _ => ⟨rfl, fun hc => absurd hc (by decide), hK _ _ _ _⟩⟩
    refine ⟨fun _ => ⟨rfl, fun _ => t _ _, fun hc => absurd rfl hc⟩, fun hc => ⟨fun _ => ⟨rfl, fun _ => t _ _, fun hc => absurd rfl hc⟩, fun hd => absurd ?_ hd⟩⟩
    rw [r19]
    exact i32_ge hc
  refine ⟨1, 6, hu, hv, a1, a1, fun r19 e19 => ⟨wt, e19.trans a5, f1, late0 f1 k1 ⟨fun _ => ⟨Nat.le_refl _, Nat.le_refl _, fin S⟩, fun b hb => absurd hb (by simp)⟩⟩⟩
theorem p1_pack (hF : cf_F G S xo) (hR : rf_F σ) (hK : ∀ S σ u v, K S σ u v) (hu : u + 1 ≤ Cm) (hv : v + 6 ≤ Sm) : lw_pack Cm Sm xs G xo ob i K S σ u v := by
  obtain ⟨tp, sc, kd, pl, am, rv, rc, pk, wt, ru, la, td, ⟨⟨a1, a2, a3, a4, a5⟩, -, -, -, ⟨e1, -⟩, ⟨f1, -⟩, -⟩, -, -, -, ⟨k1, -⟩⟩ := hF
  have r19 := hR.1 19 (by decide) (by decide)
  have fin : ∀ S1, wp_X12_pack (fun b σ1 => wp_X12_thrown (fun t σ2 => t = 1 ∧ ((1 : Int32) = 0 → cs_k S1 ob = 21 ∧ vp_in 0 (cs_n S1 ob) ∧ cs_al S1 ob 0 = b.toInt64) ∧ K S1 σ2 (u + 1) (v + 6)) σ1) σ (xs (i + 1)) := by
    intro S1
    have t : ∀ x, w_X12_pack_23 (fun b σ1 => wp_X12_thrown (fun t σ2 => t = 1 ∧ ((1 : Int32) = 0 → cs_k S1 ob = 21 ∧ vp_in 0 (cs_n S1 ob) ∧ cs_al S1 ob 0 = b.toInt64) ∧ K S1 σ2 (u + 1) (v + 6)) σ1) σ x := fun x => rthr ⟨fun hc => absurd hc (by decide), fun _ => ⟨rfl, fun hc => absurd hc (by decide), hK _ _ _ _⟩⟩
    refine ⟨fun _ => ⟨rfl, fun _ => t _, fun hc => absurd rfl hc⟩, fun hc => ⟨fun _ => ⟨rfl, fun _ => t _, fun hc => absurd rfl hc⟩, fun hd => absurd ?_ hd⟩⟩
    rw [r19]
    exact i32_ge hc
  refine ⟨1, 6, hu, hv, a1, a1, fun r36 e36 => ⟨wt, e36.trans a5, f1, late0 f1 k1 ⟨fun _ => ⟨a1, fun r41 e41 => ⟨wt, e41.trans a5, f1, late0 f1 k1 ⟨Nat.zero_le _, Nat.zero_le _, fun _ => ⟨Nat.zero_le _, Nat.zero_le _, Nat.le_refl _, Nat.le_refl _, fin S⟩, fun b hb => absurd hb (by simp)⟩⟩⟩, fun _ => ⟨Nat.zero_le _, Nat.zero_le _, fun _ => ⟨Nat.zero_le _, Nat.zero_le _, Nat.le_refl _, Nat.le_refl _, fin S⟩, fun b hb => absurd hb (by simp)⟩⟩⟩⟩
theorem p1_octet (hF : cf_F G S xo) (hR : rf_F σ) (hK : ∀ S σ u v, K S σ u v) (hu : u + 1 ≤ Cm) (hv : v + 6 ≤ Sm) : lw_octet Cm Sm xs G xo ob i K S σ u v := by
  obtain ⟨tp, sc, kd, pl, am, rv, rc, pk, wt, ru, la, td, ⟨⟨a1, a2, a3, a4, a5⟩, -, -, -, ⟨e1, -⟩, -⟩, -, ⟨i1, i2, i3⟩, -⟩ := hF
  have r85 := hR.1 85 (by decide) (by decide)
  have fin : ∀ S1, wp_X12_octet (fun b σ1 => wp_X12_thrown (fun t σ2 => t = 1 ∧ ((1 : Int32) = 0 → cs_k S1 ob = 21 ∧ vp_in 0 (cs_n S1 ob) ∧ cs_al S1 ob 0 = b.toInt64) ∧ K S1 σ2 (u + 1) (v + 6)) σ1) σ (xs (i + 1)) := by
    intro S1
    have t : ∀ x, w_X12_octet_13 (fun b σ1 => wp_X12_thrown (fun t σ2 => t = 1 ∧ ((1 : Int32) = 0 → cs_k S1 ob = 21 ∧ vp_in 0 (cs_n S1 ob) ∧ cs_al S1 ob 0 = b.toInt64) ∧ K S1 σ2 (u + 1) (v + 6)) σ1) σ x := fun x => rthr ⟨fun hc => absurd hc (by decide), fun _ => ⟨rfl, fun hc => absurd hc (by decide), hK _ _ _ _⟩⟩
    refine ⟨fun _ => t _, fun hc => ⟨fun hd => absurd ?_ hc, fun _ => t _⟩⟩
    rw [r85] at hd
    exact hd
  refine ⟨1, 6, hu, hv, a1, fun _ => ⟨Nat.zero_le _, Nat.zero_le _, Nat.le_refl _, Nat.le_refl _, fin S⟩, fun hc => ⟨a1, fun r12 e12 => ⟨rc, e12.trans a4, e1, fun hd => absurd ?_ hc, fun _ => ⟨Nat.zero_le _, Nat.zero_le _, Nat.le_refl _, Nat.le_refl _, fin S⟩⟩⟩⟩
  rw [i3] at hd
  exact hd
theorem p1_pass (hF : cf_F G S xo) (hR : rf_F σ) (hK : ∀ S σ u v, K S σ u v) (hu : u ≤ Cm) (hv : v ≤ Sm) : lw_pass Cm Sm xs G xo ob i K S σ u v := by
  obtain ⟨tp, sc, kd, pl, am, rv, rc, pk, wt, ru, la, td, ⟨⟨a1, a2, a3, a4, a5⟩, -, -, -, ⟨e1, -⟩, ⟨f1, -⟩, -⟩, -, -, ⟨j1, j2, j3, j4, -⟩, ⟨k1, k2, k3, k4, k5, -⟩⟩ := hF
  have r21 := hR.1 21 (by decide) (by decide)
  have r72 := hR.1 72 (by decide) (by decide)
  refine ⟨0, 0, hu, hv, a1, fun r10 e10 => ⟨wt, e10.trans a5, f1, fun hc => ?_, fun hc => ⟨fun hd r13 e13 => ⟨wt, e13.trans a5, f1, 0, 0, Nat.le_refl _, Nat.le_refl _, ?_⟩, fun hd => ?_⟩⟩⟩
  · rw [k5] at hc
    exact ⟨Nat.le_refl _, Nat.le_refl _, fun _ => ⟨rfl, hK _ _ _ _⟩, fun h => absurd (by rw [r21]; exact hc) h⟩
  · rw [k5] at hc
    refine ⟨1, Nat.le_refl _, Nat.le_refl _, fun h => absurd h (by decide), fun _ => ⟨f1, 1, f1, fun _ => ⟨fun h => absurd rfl h, fun _ => ⟨Nat.le_refl _, Nat.le_refl _, f1, fun S15 e15 => ?_⟩⟩, fun h => absurd (by rw [j4]; decide) h⟩⟩
    refine ⟨fun h => absurd (by rw [r21] at h; exact h) hc, fun _ => ⟨fun _ => ⟨2, fun h => absurd h (by decide), fun _ => ⟨1, fun _ => ⟨fun _ => ⟨fun h => absurd rfl h, fun _ => ⟨fun _ => ⟨rfl, hK _ _ _ _⟩, fun h => absurd rfl h⟩⟩, fun h => absurd (by rw [lw_cmp0]; decide) h⟩, fun h => absurd (by rw [r1ui]; simp [r72]) h⟩⟩, fun h => absurd hd h⟩⟩
  · rw [k5] at hc
    exact ⟨Nat.le_refl _, Nat.le_refl _, fun h => absurd (by rw [r21] at h; exact h) hc, fun _ => ⟨fun h => absurd h hd, fun _ => ⟨rfl, hK _ _ _ _⟩⟩⟩
theorem p1_take (hF : cf_F G S xo) (hR : rf_F σ) (hK : ∀ S σ u v, K S σ u v) (hu : u ≤ Cm) (hv : v ≤ Sm) : lw_take Cm Sm xs G xo ob i K S σ u v := by
  obtain ⟨tp, sc, kd, pl, am, rv, rc, pk, wt, ru, la, td, ⟨⟨a1, a2, a3, a4, a5⟩, ⟨b1, b2⟩, -, -, ⟨e1, -⟩, ⟨f1, -⟩, -⟩, ⟨h1, h2, h3⟩, -⟩ := hF
  have r2 := hR.1 2 (by decide) (by decide)
  refine ⟨0, 0, hu, hv, a1, fun r86 e86 r87 e87 => ⟨rc, e86.trans a4, e1, e1, fun S14 e14 => ⟨tp, e87.trans a2, ?_, ?_, fun S18 e18 => ⟨?_, fun S20 e20 => ⟨?_, fun S22 e22 => ⟨?_, fun S24 e24 => ⟨?_, fun S92 e92 => ⟨1, Nat.le_refl _, Nat.le_refl _, fun h => absurd h (by decide), fun _ => ?_⟩⟩⟩⟩⟩⟩⟩⟩
  · subst e14; exact b1
  · subst e14; exact e1
  · subst e18; subst e14; exact e1
  · subst e20; subst e18; subst e14; exact e1
  · subst e22; subst e20; subst e18; subst e14; exact e1
  · subst e24; subst e22; subst e20; subst e18; subst e14; exact a1
  have q1 : cs_k S92 xo = 13 := by subst e92; subst e24; subst e22; subst e20; subst e18; subst e14; exact a1
  have q2 : cs_k S92 rc = 8 := by subst e92; subst e24; subst e22; subst e20; subst e18; subst e14; exact e1
  have q3 : cs_r S92 1205 xo = some rc := by subst e92; subst e24; subst e22; subst e20; subst e18; subst e14; simp [rui, rur, a4]
  have q4 : cs_i S92 700 rc = 0 := by subst e92; subst e24; subst e22; subst e20; subst e18; subst e14; simp [iui]
  have q5 : cs_i S92 705 rc = 0 := by
    subst e92; subst e24; subst e22; subst e20; subst e18; subst e14
    have e9 : (if Int32.ofNat 2100 < (0 : Int32) then Int32.ofNat 2100 else 0) = 0 := by decide
    simp [iui, iur, h1, nur, b2, e9]
  have q6 : cs_i S92 706 rc = 0 := by subst e92; subst e24; subst e22; subst e20; subst e18; subst e14; simp [iui]
  refine ⟨q1, fun r58 e58 => ⟨rc, e58.trans q3, q2, q2, fun h => absurd q4 h, fun _ => ⟨fun _ => ⟨rfl, fun _ => ⟨Nat.le_refl _, Nat.le_refl _, q1, fun r48 e48 => ⟨rc, e48.trans q3, q2, fun S51 e51 => ⟨?_, fun r53 e53 => ⟨rc, ?_, ?_, fun S56 e56 => ?_⟩⟩⟩⟩, fun h => absurd rfl h⟩, fun h => absurd (by rw [q5, q6]; decide) h⟩⟩⟩
  · subst e51; exact q1
  · subst e51; exact e53.trans q3
  · subst e51; exact q2
  · refine ⟨1, fun _ => ⟨rfl, hK _ _ _ _⟩, fun h => absurd ?_ h⟩
    simp [r1ui, r2]
end P1T
