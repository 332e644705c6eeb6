/-! ===== event and pack, as calls of the law ===== -/
/-- the events that are still told of -/
def lat (ne : Nat) (p : Int32) : Prop := ∃ e, p = nI e ∧ e < ne ∧ ne ≤ e + 64
theorem i_nat {p : Int32} (h : ¬ p < 0) : ∃ j, p = nI j ∧ j < 2 ^ 31 := by
  have b1 := Int32.le_iff_toInt_le.mp (Int32.not_lt.mp h)
  have b2 : p.toInt ≤ 2147483647 := Int32.toInt_le p
  have b3 : (0 : Int32).toInt = 0 := by decide
  rw [b3] at b1
  exact ⟨p.toInt.toNat, nI_at (by omega) (by omega), by omega⟩
theorem lat_64 {ne e : Nat} (hne : ne ≤ 4000) (he : e < ne) : nI ne - 64 ≤ nI e ↔ ne ≤ e + 64 := by
  have e64 : (64 : Int32).toInt = 64 := by decide
  rw [Int32.le_iff_toInt_le, Int32.toInt_sub, nI_toInt (by omega), nI_toInt (by omega), e64, Int.bmod_eq_of_le (by omega) (by omega)]
  omega
section LTC
variable {G : Nat → Nat} {S : cs_S} {σ : rf_S} {wt lt ne : Nat} {ev : Nat → Nat} {p : Int32}
theorem lat_n0 (hne : ne ≤ 4000) (hc : p < 0) : ¬ lat ne p := by
  rintro ⟨e, rfl, a, b⟩
  exact absurd hc (nI_nlt (a := e) (b := 0) (by omega) (by omega))
theorem lat_ge (hne : ne ≤ 4000) (hd : nI ne ≤ p) : ¬ lat ne p := by
  rintro ⟨e, rfl, a, b⟩
  exact nI_ge a (by omega) hd
theorem c_lat {post : Option Nat → cs_S → Prop} (kw : cs_k S wt = 12) (h4 : cs_i S 1104 wt = nI ne) (hne : ne ≤ 4000) (h2 : cs_r S 1102 wt = some lt) (k2 : cs_k S lt = 23) (n2 : cs_n S lt = 64) (hr : ∀ o, o < ne → ne ≤ o + 64 → cs_ar S lt (o % 64) = some (ev o)) (h0 : ¬ lat ne p → post none S) (h1 : ∀ e, p = nI e → e < ne → ne ≤ e + 64 → post (some (ev e)) S) : wp_X10_latestAt post G S wt p := by
  refine ⟨fun hc => h0 (lat_n0 hne hc), fun hc => ⟨kw, fun hd => h0 (lat_ge hne (by rw [← h4]; exact hd)), fun hd => ?_⟩⟩
  obtain ⟨e, rfl, he⟩ := i_nat hc
  rw [h4] at hd ⊢
  have hlt : e < ne := Nat.not_le.mp (fun q => hd (nI_le q (by omega)))
  refine ⟨fun hf r7 e7 => ⟨by decide, lt, e7.trans h2, k2, ?_, fun r10 e10 => ?_⟩, fun hf => h0 ?_⟩
  · rw [nI_64 (by omega), n2]; exact nI_in (by omega) (by decide)
  · rw [nI_64 (by omega), nI_clamp (by omega), hr e hlt ((lat_64 hne hlt).mp hf)] at e10
    subst e10
    exact h1 e rfl hlt ((lat_64 hne hlt).mp hf)
  · rintro ⟨e', h, a, b⟩
    exact hf (by rw [h]; exact (lat_64 hne a).mpr b)
theorem r_late {Q : Int32 → rf_S → Prop} (h19 : σ.1 19 = nI ne) (hne : ne ≤ 4000) (h0 : ¬ lat ne p → Q 0 σ) (h1 : lat ne p → Q 1 σ) : wp_X12_isLate Q σ p := by
  refine ⟨fun hc => ⟨rfl, h0 (lat_n0 hne hc)⟩, fun hc => ⟨fun hd => ⟨rfl, h0 (lat_ge hne (by rw [← h19]; exact hd))⟩, fun hd => ⟨fun hf => ⟨rfl, h0 ?_⟩, fun hf => ⟨rfl, h1 ?_⟩⟩⟩⟩
  · rintro ⟨e, rfl, a, b⟩
    rw [h19] at hf
    exact Int32.not_lt.mpr ((lat_64 hne a).mpr b) hf
  · obtain ⟨e, rfl, he⟩ := i_nat hc
    rw [h19] at hd hf
    have hlt : e < ne := Nat.not_le.mp (fun q => hd (nI_le q (by omega)))
    exact ⟨e, rfl, hlt, (lat_64 hne hlt).mp (Int32.not_lt.mp hf)⟩
theorem r_event_bad {Q : Int32 → rf_S → Prop} {p2 : Int32} (h19 : σ.1 19 = nI ne) (hne : ne ≤ 4000) (h : ¬ lat ne p ∨ p2 < 0 ∨ ¬ p2 ≤ 3) (hQ : Q 0 (rf_ui σ 0 1)) : wp_X12_event Q σ p p2 := by
  have b : w_X12_event_18 Q σ p p2 := ⟨fun z => absurd z (by decide), fun _ => ⟨rfl, fun z => absurd z (by decide), fun _ => hQ⟩⟩
  refine r_late h19 hne (fun _ => ⟨fun _ => b, fun z => absurd rfl z⟩) (fun hl => ⟨fun z => absurd z (by decide), fun _ => ⟨fun _ => b, fun h1 => ⟨fun h2 => ?_, fun _ => b⟩⟩⟩)
  rcases h with z | z | z
  · exact absurd hl z
  · exact absurd z h1
  · exact absurd h2 z
theorem r_event_ok {Q : Int32 → rf_S → Prop} {p2 : Int32} {e n : Nat} {c : Int64} (h19 : σ.1 19 = nI ne) (hne : ne ≤ 4000) (he : e < ne) (hl : ne ≤ e + 64) (hw : wdR n c (σ.2.2.2 11 e) (σ.2.2.2 12 e)) (h4 : ¬ p2 < 0) (h5 : p2 ≤ 3) (hQ : ∀ x, (p2 = 0 → x = σ.2.2.1 8 e) → (p2 = 1 → x = nI n) → (p2 = 2 → x = σ.2.2.1 9 e) → (p2 = 3 → x = σ.2.2.1 10 e) → Q x (rf_ui σ 0 0)) : wp_X12_event Q σ (nI e) p2 := by
  obtain ⟨f, hf, c1, c2, c3⟩ := hw.F
  refine r_late h19 hne (fun hc => absurd ⟨e, rfl, he, hl⟩ hc) (fun _ => ⟨fun z => absurd z (by decide), fun _ => ⟨fun z => absurd z h4, fun _ => ⟨fun _ => ⟨fun _ => ⟨rfl, fun _ => ⟨n + 1, re_33 (σ := rf_ui σ 0 0) hf (by omega) c2 c3 ?_ n 0 (by omega)⟩, fun z => absurd rfl z⟩, fun z => absurd rfl z⟩, fun z => absurd h5 z⟩⟩⟩)
  have cj : (nI e).toNatClampNeg = e := nI_clamp (by omega)
  have hin : ∀ kk, rf_n kk = 4001 → vp_in (nI e) (rf_n kk) := fun kk h => by rw [h]; exact nI_in (by omega) (by decide)
  refine ⟨fun n0 => ⟨fun n1 => ⟨fun n2 => ⟨hin 10 (by decide), ?_⟩, fun n2 => ⟨hin 9 (by decide), ?_⟩⟩, fun n1 => ?_⟩, fun n0 => ⟨hin 8 (by decide), ?_⟩⟩
  · rw [cj]
    have e3 : ∀ z : Prop, (p2 = 0 ∨ p2 = 1 ∨ p2 = 2) → z := fun z q => by
      rcases q with q | q | q
      · exact absurd q n0
      · exact absurd q n1
      · exact absurd q n2
    exact hQ _ (fun z => e3 _ (Or.inl z)) (fun z => e3 _ (Or.inr (Or.inl z))) (fun z => e3 _ (Or.inr (Or.inr z))) (fun _ => rfl)
  · rw [cj]; exact hQ _ (fun z => absurd z n0) (fun z => absurd z n1) (fun _ => rfl) (fun z => absurd (n2.symm.trans z) (by decide))
  · exact hQ _ (fun z => absurd z n0) (fun _ => rfl) (fun z => absurd (n1.symm.trans z) (by decide)) (fun z => absurd (n1.symm.trans z) (by decide))
  · rw [cj]; exact hQ _ (fun _ => rfl) (fun z => absurd (n0.symm.trans z) (by decide)) (fun z => absurd (n0.symm.trans z) (by decide)) (fun z => absurd (n0.symm.trans z) (by decide))
theorem r_pack_bad {Q : Int32 → rf_S → Prop} (h19 : σ.1 19 = nI ne) (hne : ne ≤ 4000) (h : ¬ lat ne p ∨ (¬ p ≤ 0 ∧ ¬ lat ne (p - 1))) (hQ : Q 0 (rf_ui σ 0 1)) : wp_X12_pack Q σ p := by
  have b : w_X12_pack_23 Q σ p := ⟨fun z => absurd z (by decide), fun _ => ⟨rfl, fun z => absurd z (by decide), fun _ => hQ⟩⟩
  refine r_late h19 hne (fun _ => ⟨fun _ => b, fun z => absurd rfl z⟩) (fun hl => ⟨fun z => absurd z (by decide), fun _ => ⟨fun h1 => ?_, fun h1 => r_late h19 hne (fun _ => ⟨fun z => absurd rfl z, fun _ => b⟩) (fun h2 => ?_)⟩⟩)
  · rcases h with z | z
    · exact absurd hl z
    · exact absurd h1 z.1
  · rcases h with z | z
    · exact absurd hl z
    · exact absurd h2 z.2
theorem r_pack_ok {Q : Int32 → rf_S → Prop} (h19 : σ.1 19 = nI ne) (hne : ne ≤ 4000) (hl : lat ne p) (h1 : p ≤ 0 ∨ lat ne (p - 1)) (hQ : pkP Q p (rf_ui σ 0 0)) : wp_X12_pack Q σ p := by
  have b : w_X12_pack_27 Q σ p := ⟨fun _ => ⟨rfl, fun _ => hQ, fun z => absurd rfl z⟩, fun z => absurd rfl z⟩
  refine r_late h19 hne (fun z => absurd hl z) (fun _ => ⟨fun z => absurd z (by decide), fun _ => ⟨fun _ => b, fun h2 => r_late h19 hne (fun z => ?_) (fun _ => ⟨fun _ => b, fun z => absurd z (by decide)⟩)⟩⟩)
  rcases h1 with c | c
  · exact absurd c h2
  · exact absurd c z
end LTC
section EVC
variable {G : Nat → Nat} {xo ob tp sc kd pl am rv rc pk wt z y te : Nat} {S S' : cs_S} {σ σ' : rf_S} {Bc Bs : Int} {Cm Sm i u v : Nat} {xs : Nat → Int32} {K : cs_S → rf_S → Nat → Nat → Prop}
theorem jY_event (h : jY G xo ob tp sc kd pl am rv rc pk wt z y te Bc Bs S σ) (kk : ∀ S σ, jY G xo ob tp sc kd pl am rv rc pk wt z y te Bc Bs S σ → K S σ (u + 1) (v + 6)) (hu : u + 1 ≤ Cm) (hv : v + 6 ≤ Sm) : lw_event Cm Sm xs G xo ob i K S σ u v := by
  obtain ⟨hC, ht, hp, ho, hb9, hL⟩ := id h
  obtain ⟨a1, a2, a3, a4, a5⟩ := hC.1
  obtain ⟨bk, nr, x, k, n, w, q, L, dp, tr, ud, ut, nv, ne, na, nl, now, pr, lr, le, tm, ev, ra, rr, lt, tl, S0, hS, hB, hD, hW, -⟩ := hL
  obtain ⟨ko, Ow, al, ed, wl, hSH, -⟩ := hW
  obtain ⟨w1, w2, w3, w4, w5, w6, w7, w8, w9, w10⟩ := hSH.1
  have i4 := hSH.2.1.1
  obtain ⟨d1, d2, d3, d4, d5⟩ := hD.1
  generalize hp1 : xs (i + 1) = p1
  generalize hp2 : xs (i + 2) = p2
  have bad : (¬ lat ne p1 ∨ p2 < 0 ∨ ¬ p2 ≤ 3) → wp_X12_event (fun b σ1 => wp_X12_thrown (fun t σ2 => t = 1 ∧ ((1 : Int32) = 0 → cs_k S ob = 21 ∧ vp_in 0 (cs_n S ob) ∧ cs_al S ob 0 = b.toInt64) ∧ K S σ2 (u + 1) (v + 6)) σ1) σ p1 p2 := fun hb => r_event_bad d1 d2 hb ⟨rfl, fun hc => absurd hc (by decide), kk _ _ (h.thr 1)⟩
  refine ⟨1, 6, hu, hv, a1, a1, fun r19 e19 => ⟨wt, e19.trans a5, w1, ?_⟩⟩
  rw [hp1, hp2]
  refine c_lat w1 i4 d2 w6 w7 w8 hSH.2.2.2.1 (fun hn => ⟨fun _ => ⟨Nat.le_refl _, Nat.le_refl _, bad (Or.inl hn)⟩, fun b z => (nomatch z)⟩) (fun e ee he hl => ⟨fun z => (nomatch z), fun b23 e23 => ?_⟩)
  cases e23
  subst ee
  obtain ⟨⟨m, hev⟩, t1, t2, t3, t4⟩ := hSH.2.2.1 e he
  obtain ⟨v1, ⟨n', n1, hw⟩, v3, v4, nm, vs, v5, v6, v7, -⟩ := hev
  have t8 := (hD.2.1 e he).2.1
  have hok : ∀ x : Int32, (p2 = 0 → x = σ.2.2.1 8 e) → (p2 = 1 → x = nI n') → (p2 = 2 → x = σ.2.2.1 9 e) → (p2 = 3 → x = σ.2.2.1 10 e) → ¬ p2 < 0 → p2 ≤ 3 → cs_k S ob = 21 ∧ vp_in 0 (cs_n S ob) ∧ wp_X12_event (fun b σ1 => wp_X12_thrown (fun t σ2 => t = 0 ∧ ((0 : Int32) = 0 → cs_k (cs_ual S ob 0 x.toInt64) ob = 21 ∧ vp_in 0 (cs_n (cs_ual S ob 0 x.toInt64) ob) ∧ cs_al (cs_ual S ob 0 x.toInt64) ob 0 = b.toInt64) ∧ K (cs_ual S ob 0 x.toInt64) σ2 (u + 1) (v + 6)) σ1) σ (nI e) p2 := fun x q0 q1 q2 q3 h4 h5 => by
    refine ⟨ho.1, ho.at0, r_event_ok d1 d2 he hl hw h4 h5 (fun x' u0 u1 u2 u3 => ?_)⟩
    have ex : x = x' := by
      have b1 := Int32.le_iff_toInt_le.mp (Int32.not_lt.mp h4)
      have b2 := Int32.le_iff_toInt_le.mp h5
      have b3 : (0 : Int32).toInt = 0 := by decide
      have b4 : (3 : Int32).toInt = 3 := by decide
      rw [b3] at b1
      rw [b4] at b2
      have : p2.toInt = 0 ∨ p2.toInt = 1 ∨ p2.toInt = 2 ∨ p2.toInt = 3 := by omega
      rcases this with c | c | c | c
      · have e : p2 = 0 := Int32.toInt_inj.mp (by rw [c]; decide)
        rw [q0 e, u0 e]
      · have e : p2 = 1 := Int32.toInt_inj.mp (by rw [c]; decide)
        rw [q1 e, u1 e]
      · have e : p2 = 2 := Int32.toInt_inj.mp (by rw [c]; decide)
        rw [q2 e, u2 e]
      · have e : p2 = 3 := Int32.toInt_inj.mp (by rw [c]; decide)
        rw [q3 e, u3 e]
    refine ⟨rfl, fun _ => ⟨ho.1, ho.at0, ?_⟩, kk _ _ (h.box x 0)⟩
    rw [alual, if_pos ⟨rfl, rfl⟩, ex]
  have pe : ∀ {c : Int32} {m : Int}, p2.toInt = m → c.toInt = m → p2 = c := fun h1 h2 => Int32.toInt_inj.mp (h1.trans h2.symm)
  refine ⟨fun hb => ⟨Nat.le_refl _, Nat.le_refl _, bad ?_⟩, fun c => ⟨v1, ?_⟩, fun c => ⟨v1, ?_⟩, fun c => ⟨v1, fun r28 e28 => ⟨nm, e28.trans v5, v6, ?_⟩⟩, fun c => ⟨v1, ?_⟩⟩
  · rcases hb with hb | hb
    · exact Or.inr (Or.inl (Int32.lt_iff_toInt_lt.mpr hb))
    · refine Or.inr (Or.inr (fun z => ?_))
      have := Int32.le_iff_toInt_le.mp z
      have b4 : (3 : Int32).toInt = 3 := by decide
      omega
  · have e : p2 = 0 := pe c (by decide)
    subst e
    exact hok _ (fun _ => by rw [t1, t8]) (fun z => absurd z (by decide)) (fun z => absurd z (by decide)) (fun z => absurd z (by decide)) (by decide) (by decide)
  · have e : p2 = 1 := pe c (by decide)
    subst e
    obtain ⟨f, hf, c1, -, -⟩ := hw.F
    rw [c1]
    exact cl_of hf (hok (nI n') (fun z => absurd z (by decide)) (fun _ => rfl) (fun z => absurd z (by decide)) (fun z => absurd z (by decide)) (by decide) (by decide))
  · have e : p2 = 2 := pe c (by decide)
    subst e
    rw [v7]
    exact hok (nI m) (fun z => absurd z (by decide)) (fun z => absurd z (by decide)) (fun _ => v4.symm) (fun z => absurd z (by decide)) (by decide) (by decide)
  · have e : p2 = 3 := pe c (by decide)
    subst e
    exact hok _ (fun z => absurd z (by decide)) (fun z => absurd z (by decide)) (fun z => absurd z (by decide)) (fun _ => t3) (by decide) (by decide)
end EVC
