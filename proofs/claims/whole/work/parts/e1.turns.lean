/-! ===== all turns ===== -/
section TRN
variable {G : Nat → Nat} {xo ob tp sc kd pl am rv rc pk : Nat} {L : Nat} {xs : Nat → Int32}
theorem lw_go (hL : L ≤ 3072) : ∀ (n t wt z y te : Nat) (Bc Bs : Int) (S : cs_S) (σ : rf_S) (u v : Nat), n + t = 513 → jY G xo ob tp sc kd pl am rv rc pk wt z y te Bc Bs S σ → (u : Int) + 58 * z + Bc ≤ 101 + 1173 * t → (v : Int) + 600 * z + Bs ≤ 798954 + 12683 * t → te + z ≤ 20 * t → lw_run 601024 7293034 L xs G xo ob n (6 * t) S σ u v := by
  intro n
  induction n with
  | zero =>
    intro t wt z y te Bc Bs S σ u v hn h hu hv ht
    show ¬ 6 * t + 6 ≤ L
    omega
  | succ n ih =>
    intro t wt z y te Bc Bs S σ u v hn h hu hv ht hi
    have h6 : 6 * t + 6 = 6 * (t + 1) := by omega
    obtain ⟨nc, ns⟩ := h.2.2.2.2.2.nn
    have hz : z ≤ 2100 := h.2.1.2.1
    have t12 : t < 512 := by omega
    rw [h6]
    have same : ∀ y1 S1 σ1, jY G xo ob tp sc kd pl am rv rc pk wt z y1 te Bc Bs S1 σ1 → lw_run 601024 7293034 L xs G xo ob n (6 * (t + 1)) S1 σ1 u v := fun y1 S1 σ1 h1 => ih (t + 1) wt z y1 te Bc Bs S1 σ1 u v (by omega) h1 (by omega) (by omega) (by omega)
    have one : ∀ y1 S1 σ1, jY G xo ob tp sc kd pl am rv rc pk wt z y1 te Bc Bs S1 σ1 → lw_run 601024 7293034 L xs G xo ob n (6 * (t + 1)) S1 σ1 (u + 1) (v + 6) := fun y1 S1 σ1 h1 => ih (t + 1) wt z y1 te Bc Bs S1 σ1 (u + 1) (v + 6) (by omega) h1 (by omega) (by omega) (by omega)
    have u1 : u + 1 ≤ 601024 := by omega
    have v6 : v + 6 ≤ 7293034 := by omega
    refine ⟨h.1.1.1, fun _ => ?_, fun _ => ?_, fun _ => ?_, fun _ => ?_, fun _ => ?_, fun _ => ?_, fun _ => ?_, fun _ => ?_, fun _ => ?_, fun _ => ?_, fun _ => ?_, fun _ => ?_, fun _ => ?_, fun _ => ?_, fun _ => ?_⟩
    · exact jY_feed h (fun S1 σ1 z1 hz1 h1 => ih (t + 1) wt z1 y te Bc Bs S1 σ1 u v (by omega) h1 (by omega) (by omega) (by omega))
    · exact jY_end h (fun S1 σ1 z1 hz1 h1 => ih (t + 1) wt z1 y te Bc Bs S1 σ1 u v (by omega) h1 (by omega) (by omega) (by omega))
    · refine jY_rules h _ _ xs (6 * t) _ u v (by omega) (by omega) (fun S1 σ1 wt' te' Bc' Bs' h1 hc => ?_)
      rcases hc with ⟨e1, e2, e3⟩ | ⟨e1, e2, e3⟩
      · exact ih (t + 1) wt' 0 y te' Bc' Bs' S1 σ1 _ _ (by omega) h1 (by rw [e2]; omega) (by rw [e3]; omega) (by omega)
      · exact ih (t + 1) wt' 0 y te' Bc' Bs' S1 σ1 _ _ (by omega) h1 (by rw [e2]; omega) (by rw [e3]; omega) (by omega)
    · exact jY_fault h (fun S1 σ1 h1 => same y S1 σ1 h1)
    · exact jY_place h (fun S1 σ1 h1 => same y S1 σ1 h1)
    · obtain ⟨m, n', te', Bc', Bs', a1, a2, a3, ⟨a4, a5⟩, a6⟩ := jY_take h (by omega)
      exact a6 _ _ xs (6 * t) _ u v (by omega) (by omega) (fun S1 σ1 h1 => ih (t + 1) wt 0 y te' Bc' Bs' S1 σ1 _ _ (by omega) h1 (by omega) (by omega) (by omega))
    · obtain ⟨m, n', Bc', Bs', a1, a2, ⟨a4, a5⟩, a6⟩ := jY_pass h (xs (6 * t + 1))
      exact a6 _ _ xs (6 * t) _ u v rfl (by omega) (by omega) (fun S1 σ1 h1 => ih (t + 1) wt z y te Bc' Bs' S1 σ1 _ _ (by omega) h1 (by omega) (by omega) (by omega))
    · exact jY_count h (fun S1 σ1 h1 => same y S1 σ1 h1)
    · exact jY_alert h (fun S1 σ1 h1 => one y S1 σ1 h1) u1 v6
    · exact jY_key h (fun S1 σ1 h1 => one y S1 σ1 h1) u1 v6
    · exact jY_rule h (fun S1 σ1 h1 => one y S1 σ1 h1) u1 v6
    · exact jY_event h (fun S1 σ1 h1 => one y S1 σ1 h1) u1 v6
    · exact jY_pack h (fun S1 σ1 y1 h1 => one y1 S1 σ1 h1) u1 v6
    · exact jY_octet h (fun S1 σ1 h1 => one y S1 σ1 h1) u1 v6
    · exact same y S σ h
end TRN
/-- the object at first -/
theorem jY_0 {G : Nat → Nat} {xo ob : Nat} {S : cs_S} (h : cf_F G S xo) (hob : cs_k S ob = 0) : ∃ tp sc kd pl am rv rc pk wt, jY G xo ob tp sc kd pl am rv rc pk wt 0 0 0 35 1813 (cs_newA S ob 21 1) (rf_E rf_i0) := by
  obtain ⟨tp, sc, kd, pl, am, rv, rc, pk, wt, ru, la, td, hC, ⟨x1, x2, x3⟩, ⟨r1, r2, r3⟩, ⟨w1, w2, w3, w4, w5, w6, w7, w8, w9, w10, w11⟩, ⟨v1, v2, v3, v4, v5, v6, v7, v8⟩⟩ := h
  obtain ⟨⟨a1, a2, a3, a4, a5⟩, ⟨b1, b2⟩, ⟨c1, c2, c3, c4, c5⟩, ⟨d1, d2, d3, d4, d5, d6, d7, d8, d9⟩, ⟨e1, e2, e3, e4⟩, ⟨f1, f2, f3, f4, f5⟩, g⟩ := id hC
  have nk : ∀ {a n : Nat}, cs_k S a = n → n ≠ 0 → a ≠ ob := fun h1 h2 e => h2 (by rw [← h1, e]; exact hob)
  have kk : ∀ {a n : Nat}, cs_k S a = n → n ≠ 0 → cs_k (cs_newA S ob 21 1) a = n := fun h1 h2 => by rw [knewA, if_neg (nk h1 h2)]; exact h1
  have ll : ∀ {a n m : Nat}, cs_k S a = n → n ≠ 0 → cs_n S a = m → cs_n (cs_newA S ob 21 1) a = m := fun h1 h2 h3 => by rw [nnewA, if_neg (nk h1 h2)]; exact h3
  have hF : fX (rlE xo sc kd pl am) S (cs_newA S ob 21 1) := fX.rfl.newA hob
  refine ⟨tp, sc, kd, pl, am, rv, rc, pk, wt, hC.fr hF a5 (kk f1 (by decide)), ⟨x1, Nat.zero_le _, rf_F0.1 2 (by decide) (by decide), fun j hj => absurd hj (Nat.not_lt_zero _)⟩, ⟨x2.trans (rf_F0.1 5 (by decide) (by decide)).symm, x3.trans rf_F0.2.symm, r3, Nat.zero_le _, rf_F0.1 85 (by decide) (by decide), fun j hj => absurd hj (Nat.not_lt_zero _)⟩, ⟨by rw [knewA, if_pos rfl], by rw [nnewA, if_pos rfl], fun e => nk d5 (by decide) e.symm, fun e => nk d7 (by decide) e.symm⟩, ⟨0, by rw [alnewA, if_pos rfl]; rfl⟩, ?_⟩
  refine LG_new (bk := 0) (nr := 0) (cn := 0) (S0 := S) (ra := fun _ => 0) (rr := ru) (lt := la) (tl := td) rfl (by omega) rfl (by omega) ⟨fun r hr => absurd hr (Nat.not_lt_zero _), fun r r' a hr => absurd hr (Nat.not_lt_zero _)⟩ (by omega) (fun n hn => by have := hn.1; have := hn.2; omega) (fun n hn => by have := hn.1; have := hn.2; omega) (fun j => rfl) (fun v => rfl) rfl ⟨⟨kk f1 (by decide), w1, kk w2 (by decide), ⟨Nat.zero_le _, by rw [ll w2 (by decide) w3]; omega⟩, w4, w5, kk w6 (by decide), ll w6 (by decide) w7, w8, fun r hr => absurd hr (Nat.not_lt_zero _)⟩, ⟨v1, v2, v3, v4, v5, v6, v7⟩, ⟨kk w9 (by decide), w10, w11⟩, kk f4 (by decide), ll f4 (by decide) f5⟩ (fun a ha => ?_)
  rcases ha with e | e | e | e | e | e | e | e | e | e | e
  · rw [e, kk a1 (by decide)]; decide
  · rw [e, kk b1 (by decide)]; decide
  · rw [e, kk c1 (by decide)]; decide
  · rw [e, kk d1 (by decide)]; decide
  · rw [e, kk d3 (by decide)]; decide
  · rw [e, kk d5 (by decide)]; decide
  · rw [e, kk d7 (by decide)]; decide
  · rw [e, kk e1 (by decide)]; decide
  · rw [e, kk e3 (by decide)]; decide
  · rw [e, knewA, if_pos rfl]; decide
  · rw [e, kk f2 (by decide)]; decide
theorem lw_done {L : Nat} {xs : Nat → Int32} (hL : L ≤ 3072) : lw_all 601024 7293034 L xs := by
  intro G xo hG hxo
  refine ⟨12, 8517, by omega, by omega, ci_X11 hG hxo (fun S hF => el_all (fun ob hob => ⟨513, ?_⟩))⟩
  obtain ⟨tp, sc, kd, pl, am, rv, rc, pk, wt, h⟩ := jY_0 hF hob
  exact lw_go hL 513 0 wt 0 0 0 35 1813 _ _ _ _ (by omega) h (by omega) (by omega) (by omega)
