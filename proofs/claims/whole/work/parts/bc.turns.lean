/-! ===== the calls that leave the log alone ===== -/
/-- class and reference between two calls -/
def jY (G : Nat → Nat) (xo ob tp sc kd pl am rv rc pk wt z y te : Nat) (Bc Bs : Int) (S : cs_S) (σ : rf_S) : Prop :=
  cf_C G S xo tp sc kd pl am rv rc pk wt ∧ jX_t S σ xo tp z ∧ jX_p S σ xo rc pk y ∧ jX_o S ob am rv ∧ (∃ x : Int32, cs_al S ob 0 = x.toInt64) ∧ LG G (PXs G xo ob tp sc kd pl am rv rc pk) wt S σ te Bc Bs
section JYS
variable {G : Nat → Nat} {xo ob tp sc kd pl am rv rc pk wt z y te : Nat} {S S' : cs_S} {σ σ' : rf_S} {Bc Bs : Int} {Cm Sm i u v : Nat} {xs : Nat → Int32} {K : cs_S → rf_S → Nat → Nat → Prop}
theorem jY.thr (h : jY G xo ob tp sc kd pl am rv rc pk wt z y te Bc Bs S σ) (c : Int32) : jY G xo ob tp sc kd pl am rv rc pk wt z y te Bc Bs S (rf_ui σ 0 c) := by
  obtain ⟨hC, ht, hp, ho, hb, hL⟩ := h
  exact ⟨hC, ht, hp, ho, hb, hL.lo (fun kk hk => by rw [r1ui, if_neg (by omega)]) rfl⟩
theorem jY_fault (h : jY G xo ob tp sc kd pl am rv rc pk wt z y te Bc Bs S σ) (kk : ∀ S σ, jY G xo ob tp sc kd pl am rv rc pk wt z y te Bc Bs S σ → K S σ u v) : lw_fault Cm Sm xs G xo ob i K S σ u v :=
  ⟨h.1.1.1, h.2.2.1.1, kk _ _ (h.thr 0)⟩
theorem jY_place (h : jY G xo ob tp sc kd pl am rv rc pk wt z y te Bc Bs S σ) (kk : ∀ S σ, jY G xo ob tp sc kd pl am rv rc pk wt z y te Bc Bs S σ → K S σ u v) : lw_place Cm Sm xs G xo ob i K S σ u v :=
  ⟨h.1.1.1, h.2.2.1.2.1, kk _ _ (h.thr 0)⟩
theorem jY_count (h : jY G xo ob tp sc kd pl am rv rc pk wt z y te Bc Bs S σ) (kk : ∀ S σ, jY G xo ob tp sc kd pl am rv rc pk wt z y te Bc Bs S σ → K S σ u v) : lw_count Cm Sm xs G xo ob i K S σ u v := by
  obtain ⟨hC, ht, hp, ho, hb9, hL⟩ := id h
  obtain ⟨w1, w2, w3, w4, w5, w6⟩ := hL.w
  obtain ⟨⟨a1, a2, a3, a4, a5⟩, -, -, -, ⟨e1, -⟩, ⟨f1, -⟩, -⟩ := id hC
  have hk := kk _ _ (h.thr 0)
  refine ⟨fun hc => ⟨fun _ => ⟨rfl, hk⟩, ?_⟩, fun hc => ⟨a1, fun r e => ⟨wt, e.trans a5, f1, ?_⟩⟩, fun hc => ⟨a1, fun r e => ⟨wt, e.trans a5, f1, ?_⟩⟩, fun hc => ⟨a1, fun r e => ⟨wt, e.trans a5, f1, ?_⟩⟩, fun hc => ⟨a1, fun r e => ⟨wt, e.trans a5, f1, ?_⟩⟩, fun hc => ⟨a1, fun r e => ⟨wt, e.trans a5, f1, ?_⟩⟩, fun hc => ⟨a1, fun r e => ⟨wt, e.trans a5, f1, ?_⟩⟩, fun hc => ⟨a1, ?_⟩, fun hc => ⟨a1, fun r e => ⟨rc, e.trans a4, e1, ?_⟩⟩⟩
  · exact ⟨fun h => by omega, fun h => by omega, fun h => by omega, fun h => by omega, fun h => by omega, fun h => by omega, fun h => by omega, fun h => by omega⟩
  · exact ⟨fun h => by omega, fun _ => ⟨w1, hk⟩, fun h => by omega, fun h => by omega, fun h => by omega, fun h => by omega, fun h => by omega, fun h => by omega, fun h => by omega⟩
  · exact ⟨fun h => by omega, fun h => by omega, fun _ => ⟨w2, hk⟩, fun h => by omega, fun h => by omega, fun h => by omega, fun h => by omega, fun h => by omega, fun h => by omega⟩
  · exact ⟨fun h => by omega, fun h => by omega, fun h => by omega, fun _ => ⟨w3, hk⟩, fun h => by omega, fun h => by omega, fun h => by omega, fun h => by omega, fun h => by omega⟩
  · exact ⟨fun h => by omega, fun h => by omega, fun h => by omega, fun h => by omega, fun _ => ⟨w4, hk⟩, fun h => by omega, fun h => by omega, fun h => by omega, fun h => by omega⟩
  · exact ⟨fun h => by omega, fun h => by omega, fun h => by omega, fun h => by omega, fun h => by omega, fun _ => ⟨w5, hk⟩, fun h => by omega, fun h => by omega, fun h => by omega⟩
  · exact ⟨fun h => by omega, fun h => by omega, fun h => by omega, fun h => by omega, fun h => by omega, fun h => by omega, fun _ => ⟨w6, hk⟩, fun h => by omega, fun h => by omega⟩
  · exact ⟨fun h => by omega, fun h => by omega, fun h => by omega, fun h => by omega, fun h => by omega, fun h => by omega, fun h => by omega, fun _ => ⟨ht.1.trans ht.2.2.1.symm, hk⟩, fun h => by omega⟩
  · exact ⟨fun h => by omega, fun h => by omega, fun h => by omega, fun h => by omega, fun h => by omega, fun h => by omega, fun h => by omega, fun h => by omega, fun _ => ⟨hp.2.2.1.trans hp.2.2.2.2.1.symm, hk⟩⟩
theorem jY_end (h : jY G xo ob tp sc kd pl am rv rc pk wt z y te Bc Bs S σ) (kk : ∀ S σ z1, z1 ≤ z → jY G xo ob tp sc kd pl am rv rc pk wt z1 y te Bc Bs S σ → K S σ u v) : lw_end Cm Sm xs G xo ob i K S σ u v := by
  obtain ⟨hC, ht, hp, ho, hb9, hL⟩ := id h
  have hk := kk _ _ z (Nat.le_refl _) (h.thr 0)
  have e12 : cs_i S 1201 xo = σ.1 2 := ht.1.trans ht.2.2.1.symm
  refine ⟨fun hc => ⟨fun _ => ⟨rfl, hk⟩, fun h => absurd hc h⟩, fun hc => ⟨hC.1.1, fun hd S4 e4 => ⟨fun h => absurd h hc, fun _ => ⟨fun _ => ⟨rfl, ?_⟩, fun h => absurd (by rw [← e12]; exact hd) h⟩⟩, fun hd => ⟨fun h => absurd h hc, fun _ => ⟨fun h => absurd (by rw [e12]; exact h) hd, fun _ => ⟨rfl, hk⟩⟩⟩⟩⟩
  subst e4
  have h0 : (0 : Int) ≤ (xs (i + 1)).toInt := by
    have := Int32.not_lt.mp hc
    simpa using Int32.le_iff_toInt_le.mp this
  have hz := ht.2.1
  rw [ht.1] at hd
  have hd2 := Int32.le_iff_toInt_le.mp hd
  rw [nI_toInt (by omega)] at hd2
  obtain ⟨w, hw9⟩ : ∃ w : Nat, (xs (i + 1)).toInt = (w : Int) := ⟨(xs (i + 1)).toInt.toNat, by omega⟩
  have ew : xs (i + 1) = nI w := by
    apply Int32.toInt_inj.mp
    rw [hw9, nI_toInt (by omega)]
  refine kk _ _ w (by omega) ⟨hC, ⟨?_, by omega, ?_, fun j hj => ht.2.2.2 j (by omega)⟩, ⟨?_, ?_, ?_, hp.2.2.2.1, hp.2.2.2.2.1, hp.2.2.2.2.2⟩, ho, hb9, (hL.jn hC ho hb9 (jn.ui (Or.inl rfl))).jr ((jr.ui rfl).trans (jr.ui rfl))⟩
  · rw [iui, if_pos ⟨rfl, rfl⟩, ew]
  · rw [r1ui, if_pos rfl, ew]
  · rw [iui, if_neg (fun h => absurd h.1 (by decide))]; exact hp.1
  · rw [iui, if_neg (fun h => absurd h.1 (by decide))]; exact hp.2.1
  · rw [iui, if_neg (fun h => absurd h.1 (by decide))]; exact hp.2.2.1
theorem jY_feed (h : jY G xo ob tp sc kd pl am rv rc pk wt z y te Bc Bs S σ) (kk : ∀ S σ z1, z1 ≤ z + 20 → jY G xo ob tp sc kd pl am rv rc pk wt z1 y te Bc Bs S σ → K S σ u v) : lw_feed Cm Sm xs G xo ob i K S σ u v := by
  obtain ⟨hC, ht, hp, ho, hb9, hL⟩ := id h
  have hw := hL.w
  obtain ⟨⟨a1, a2, a3, a4, a5⟩, ⟨b1, b2⟩, -, -, ⟨e1, e2, e3, e4⟩, ⟨f1, -⟩, g⟩ := id hC
  by_cases hz : z + 20 ≤ 2100
  · have hpk : pk ≠ tp := fun e => g.2.2.1 e.symm
    have hrc : rc ≠ xo := fun e => by rw [e, a1] at e1; cases e1
    have hwt : wt ≠ xo := fun e => by rw [e, a1] at f1; cases f1
    refine pf_feed ⟨a1, a2, b1, b2, ht.1⟩ hz (rf_feed ht.2.2.1 hz ⟨rfl, kk _ _ (z + 20) (Nat.le_refl _) ?_⟩)
    have q0 : jQ S (rf_ui σ 0 0) xo tp rc pk wt z y := ⟨ht, hp, hw⟩
    have q := ((((q0.up4 (a := xs (i + 1)) hpk hrc hwt (by omega)).up4 (a := xs (i + 2)) hpk hrc hwt (by omega)).up4 (a := xs (i + 3)) hpk hrc hwt (by omega)).up4 (a := xs (i + 4)) hpk hrc hwt (by omega)).up4 (a := xs (i + 5)) hpk hrc hwt (by omega)
    have hb4 : ∀ (S : cs_S) (z : Nat) (a : Int32), (∃ x : Int32, cs_al S ob 0 = x.toInt64) → ∃ x : Int32, cs_al (pf4 S xo tp z a) ob 0 = x.toInt64 := fun S z a h => h
    exact ⟨hC.pf4.pf4.pf4.pf4.pf4, q.1, q.2.1, ho.pf4.pf4.pf4.pf4.pf4, hb4 _ _ _ (hb4 _ _ _ (hb4 _ _ _ (hb4 _ _ _ (hb4 _ _ _ hb9)))), (hL.jn hC ho hb9 ((((jn.pf4.trans jn.pf4).trans jn.pf4).trans jn.pf4).trans jn.pf4)).jr (((((jr.ui rfl).trans jr.rf4).trans jr.rf4).trans jr.rf4).trans jr.rf4 |>.trans jr.rf4)⟩
  · have hk := kk _ _ z (by omega) (h.thr 0)
    have hle : ¬ nI z + 20 ≤ 2100 := by
      rw [show nI z + 20 = nI (z + 20) from lw_ad z 20]
      intro hc
      have h2 := Int32.le_iff_toInt_le.mp hc
      have ht2 := ht.2.1
      rw [nI_toInt (by omega)] at h2
      have h3 : (2100 : Int32).toInt = 2100 := by decide
      rw [h3] at h2
      omega
    refine ⟨a1, fun r e => ⟨tp, e.trans a2, b1, fun hc => absurd ?_ hle, fun _ => ⟨fun hc => absurd ?_ hle, fun _ => ⟨rfl, hk⟩⟩⟩⟩
    · rw [ht.1, b2] at hc; exact hc
    · rw [ht.2.2.1] at hc; exact hc
end JYS
