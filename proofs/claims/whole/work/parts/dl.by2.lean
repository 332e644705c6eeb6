/-! ===== a rule read: the names of by ===== -/
def stR (G cx : Nat → Nat) (bf : Nat → Nat) (z c bk nr : Nat) (ra : Nat → Nat) (nm : Nat → Int64) (na : Int64) (i cn x k n : Nat) (σ : rf_S) : cs_S → cs_S → Nat → Prop := fun S0 S R => ∃ ca by0 wt vi vl un ce be, mK G cx bf z c nr ra nm S0 R ca by0 wt i vi vl un ce be S ∧ cJ S σ bk nr cn x k n na vi vl un ce be ∧ vi 811 = 0
section BY2
variable {G cx : Nat → Nat} {bf : Nat → Nat} {z c bk nr i cn x k n R ca by0 wt : Nat} {ra : Nat → Nat} {nm : Nat → Int64} {na : Int64} {σ σ' : rf_S} {S S' S0 : cs_S} {vi : Nat → Int32} {vl : Nat → Int64} {un : Option Nat} {ce : Nat → Option Nat} {be : Nat → Int64} {fk fp : Int32}
theorem BY1 {d : Nat} (ht : tC bf z c) (h : rA bf z bk nr nm i cn σ) (hi : i < c) (hnr : nr < 12) (hd : n + d = 3) (hX : rWx σ (12 * bk + nr) x k n) (hna : ∃ n l, n ≤ 8 ∧ wdR n na (σ.2.2.2 35 (12 * bk + nr)) l) (h45 : σ.2.2.1 45 (12 * bk + nr) = 0)
    (rec : ∀ σ3, n < 3 → rA bf z bk nr nm (i + 1 + 1) cn σ3 → i + 1 + 1 < c → rWx σ3 (12 * bk + nr) x k (n + 1) → (∃ n l, n ≤ 8 ∧ wdR n na (σ3.2.2.2 35 (12 * bk + nr)) l) → σ3.2.2.1 45 (12 * bk + nr) = 0 → OUTR G cx bf z c bk nr ra nm na (i + 1 + 1) cn σ3 (fun Q => w_X12_readBy_0 (fun r27 σ27 => (¬ r27 = 0 → w_X12_rule_193 Q σ27 (nI (12 * bk + nr))) ∧ (r27 = 0 → Q 0 σ27)) d σ3 (nI (12 * bk + nr))) (stR G cx bf z c bk nr ra nm na (i + 1 + 1) cn x k (n + 1) σ3) (fun post mc ms u v S R => w_X5_readBy_4 (fun S84 => w_X5_readRule_76 post G mc ms S84 u v (cx 0) (some R)) G (d + 1) S (cx 0) (some R) 1 (nI (n + 1)))) :
    OUTR G cx bf z c bk nr ra nm na i cn σ (fun Q => w_X12_readBy_0 (fun r27 σ27 => (¬ r27 = 0 → w_X12_rule_193 Q σ27 (nI (12 * bk + nr))) ∧ (r27 = 0 → Q 0 σ27)) (d + 1) σ (nI (12 * bk + nr))) (stR G cx bf z c bk nr ra nm na i cn x k n σ) (fun post mc ms u v S R => w_X5_readBy_4 (fun S84 => w_X5_readRule_76 post G mc ms S84 u v (cx 0) (some R)) G (d + 2) S (cx 0) (some R) 1 (nI n)) := by
  have hbk := h.2.2.1.2.2
  have hz := ht.1
  have hle := ht.le i (by omega)
  have hc : cn ≤ 1100 := by have := h.2.2.2.2.1.2.1; omega
  have eC : (nI (12 * bk + nr)).toNatClampNeg = 12 * bk + nr := nI_clamp (by omega)
  have i43 : vp_in (nI (12 * bk + nr)) (rf_n 43) := nI_in (N := 24) (by omega) (by decide)
  obtain ⟨σ1, g1, g2, g3⟩ := r_nx ht h hi
  have p1 : pF bk cn σ σ1 := g1.pf
  have er1 : σ1.2.2 = σ.2.2 := g1.2.2
  have hle1 := ht.le (i + 1) (by omega)
  have hK9 := ht.K39 (i := i + 1) (by omega)
  have hone := ht.one hi
  have hX1 : rWx σ1 (12 * bk + nr) x k n := hX.on p1.sk
  have x43 : σ1.2.2.1 43 (12 * bk + nr) = nI n := hX1.2.2.1.1
  have n3 : ¬ (3 : Int32) < nI n := fun q => by
    have := (nI_ltI (a := 3) (by decide) (by omega)).mp q; omega
  have cx3 : nI n + 1 = nI (n + 1) := nI_1 n
  -- the class's end of the loop
  have dead : ∀ {S0 S1 : cs_S} {R mc ms u v : Nat} {fk fp : Int32} {post : cs_S → Prop}, dM G cx bf z c nr ra nm S0 R fk fp S1 → u ≤ mc → v ≤ ms → (∀ S1, pQ G cx bf z c nr ra nm fk fp S1 → fX (pE (cx 0)) S0 S1 → post S1) → w_X5_readBy_4 (fun S84 => w_X5_readRule_76 post G mc ms S84 u v (cx 0) (some R)) G (d + 1) S1 (cx 0) (some R) 0 (nI n + 1) := fun hdd hu hv hp => ⟨fun _ => d_76 hdd hu hv hp, fun q => absurd rfl q⟩
  by_cases e2 : kt bf z (i + 1) = 2
  · have hlt := ht.lt (i := i + 1) (by omega) (by omega)
    have hone1 := ht.one hlt
    obtain ⟨n', l', n1, n2, hwd⟩ := g2.wd ht (by omega) (Or.inl e2)
    by_cases en : n = 3
    · -- one too many
      have pB : pF bk cn σ (rB σ1 4 (fpl bf z (i + 1))) := p1.trans rB.f (Nat.le_refl _)
      refine ⟨0, rB σ1 4 (fpl bf z (i + 1)), 0, 0, pB.gf, fun Q hQ => g3 _ (r_isn ht g2 (by omega) (fun _ => ⟨fun _ => ⟨i43, fun q => absurd (by rw [eC, x43, en]; rfl) q, fun _ => r_wrong ht g2 (by omega) (by omega) ⟨rfl, fun q => absurd rfl q, fun _ => hQ⟩⟩, fun q => absurd q (by decide)⟩) (fun q => absurd e2 q)), Or.inr ⟨4, fpl bf z (i + 1), rfl, rB.d (by decide), by omega, by omega, ?_⟩⟩
      rintro S0 S R post ⟨ca, by0, wt, vi, vl, un, ce, be, hm, hj, v11⟩ hp mc ms u v hu hv
      refine ⟨fun q => absurd q (by decide), fun _ => ⟨fun q => absurd q n3, fun _ => ⟨hm.1.1.1.1, c_step ht hm.1 hi (fun S41 p41 f41 => ⟨p41.1.1.1, fun q => absurd (by rw [p41.2.2.2.2, e2]; rfl) q, fun _ => ?_⟩)⟩⟩⟩
      have h41 := hm.pe p41 f41
      refine ⟨R, rfl, h41.2.2.1.1.1, fun q => ?_, fun _ => c_fail ht p41 (by decide) (fun S46 p46 f46 => ?_)⟩
      · rw [h41.2.2.1.1.2.1, hj.1.2.2.2.2.1, en] at q; exact absurd q (by decide)
      · rw [if_neg (by omega)] at p46
        exact d_73 (h41.dd p46 f46 hX.2.1.2.2.1 hj.1.2.2.2.1 hX.2.2.1.2 hj.1.2.2.2.2.1) (fun S1 h1 => dead h1 (by omega) (by omega) hp)
    · have hn3 : n < 3 := by omega
      obtain ⟨q38a, q38b⟩ := r_by38 (post := fun r27 σ27 => True) (k0 := fun _ _ => True) (show 12 * bk + nr < 24 by omega) x43 hn3
      have nn3 : ¬ σ1.2.2.1 43 (nI (12 * bk + nr)).toNatClampNeg = 3 := fun q => by
        rw [eC, x43] at q
        have := (nI_eq (b := 3) (by omega) (by decide)).mp q
        omega
      by_cases ex : ∃ j, j < n ∧ σ1.2.2.2 37 (3 * (12 * bk + nr) + j) = σ1.2.1 58
      · -- the name is there
        obtain ⟨j0, hj0, ej0⟩ := ex
        have pB : pF bk cn σ (rB σ1 5 (fpl bf z (i + 1))) := p1.trans rB.f (Nat.le_refl _)
        refine ⟨0, rB σ1 5 (fpl bf z (i + 1)), 0, 0, pB.gf, fun Q hQ => g3 _ (r_isn ht g2 (by omega) (fun _ => ⟨fun _ => ⟨i43, fun _ => ⟨n + 1, (r_by38 (by omega) x43 hn3).2 j0 hj0 ej0 ?_⟩, fun q => absurd q nn3⟩, fun q => absurd q (by decide)⟩) (fun q => absurd e2 q)), Or.inr ⟨5, fpl bf z (i + 1), rfl, rB.d (by decide), by omega, by omega, ?_⟩⟩
        · rw [g2.pl ht (by omega) (by omega)]; exact ⟨fun q => absurd rfl q, fun _ => hQ⟩
        rintro S0 S R post ⟨ca, by0, wt, vi, vl, un, ce, be, hm, hj, v11⟩ hp mc ms u v hu hv
        refine ⟨fun q => absurd q (by decide), fun _ => ⟨fun q => absurd q n3, fun _ => ⟨hm.1.1.1.1, c_step ht hm.1 hi (fun S41 p41 f41 => ⟨p41.1.1.1, fun q => absurd (by rw [p41.2.2.2.2, e2]; rfl) q, fun _ => ?_⟩)⟩⟩⟩
        have h41 := hm.pe p41 f41
        obtain ⟨⟨a1, a2, a3, a4⟩, ⟨b1, b2, b3, b4, b5⟩, -, -, ⟨e1, e2'⟩, -⟩ := id p41.1
        have am := p41.am ht (by omega)
        have bej : be j0 = (at_ bf z (i + 1)).2.2.1 := by
          obtain ⟨n4, l4, p4, p5⟩ := hj.2.2.2 j0 hj0
          refine (wd_eq8 p5 hwd p4 n2).mpr ?_
          rw [← ej0, er1]
        refine ⟨R, rfl, h41.2.2.1.1.1, fun _ => ⟨a1, fun q => absurd (by rw [p41.2.2.2.2, e2]; rfl) q, fun _ r30 e30 => ⟨cx 1, e30.trans a2, b1, fun r33 e33 => ⟨cx 4, e33.trans b4, e1, ?_, R, rfl, h41.2.2.1.1.1, ?_⟩⟩⟩, fun q => ?_⟩
        · rw [p41.2.2.2.1, e2']; exact nI_in (by have := ht.2.2.1; omega) (by decide)
        · rw [am]
          refine (c_keyed h41.2.2.1 hj.1.2.2.2.2.1 (by omega)).2 j0 hj0 bej ⟨fun q => absurd q (by decide), fun _ => ⟨a1, c_fail ht p41 (by decide) (fun S46 p46 f46 => ?_)⟩⟩
          rw [if_neg (by omega)] at p46
          exact d_73 (h41.dd p46 f46 hX.2.1.2.2.1 hj.1.2.2.2.1 hX.2.2.1.2 hj.1.2.2.2.2.1) (fun S1 h1 => dead h1 (by omega) (by omega) hp)
        · rw [h41.2.2.1.1.2.1, hj.1.2.2.2.2.1] at q
          exact absurd (nI_lt (b := 3) hn3 (by decide)) q
      · -- a new name
        have hno : ∀ j, j < n → ¬ σ1.2.2.2 37 (3 * (12 * bk + nr) + j) = σ1.2.1 58 := fun j hj e => ex ⟨j, hj, e⟩
        have g2b : rA bf z bk nr nm (i + 1) cn (rf_ua (rf_ub σ1 37 (3 * (12 * bk + nr) + n) (σ1.2.1 58)) 43 (12 * bk + nr) (nI (n + 1))) := g2.row rfl rfl (fun k j hk => by rw [r3ua, if_neg (by omega)]; rfl) (fun k j hk _ => by show (rf_ub σ1 37 _ _).2.2.2 k j = _; rw [r4ub, if_neg (by omega)])
        obtain ⟨σ3, h1, h2, h3⟩ := r_nx ht g2b hlt
        have er3 := h1.2.2
        have hG2 : gF bk nr cn σ (rf_ua (rf_ub σ1 37 (3 * (12 * bk + nr) + n) (σ1.2.1 58)) 43 (12 * bk + nr) (nI (n + 1))) := (p1.gf.ub hnr (Or.inr ⟨rfl, by omega, by omega⟩)).ua hnr (Or.inl ⟨by omega, by omega, by omega, rfl⟩)
        have hG3 : gF bk nr cn σ σ3 := hG2.trans (nxF.pf (bk := bk) (cn := cn) h1).gf (Nat.le_refl _)
        have r3 : ∀ k j, k ≠ 43 → σ3.2.2.1 k j = σ.2.2.1 k j := fun k j hk => by
          rw [er3, r3ua, if_neg (fun e => hk e.1)]
          show σ1.2.2.1 k j = _
          rw [er1]
        have r43 : σ3.2.2.1 43 (12 * bk + nr) = nI (n + 1) := by rw [er3, r3ua, if_pos ⟨rfl, rfl⟩]
        have r4 : ∀ k j, ¬ (k = 37 ∧ j = 3 * (12 * bk + nr) + n) → σ3.2.2.2 k j = σ.2.2.2 k j := fun k j hk => by
          rw [er3]
          show (rf_ub σ1 37 _ _).2.2.2 k j = _
          rw [r4ub, if_neg hk, er1]
        have r37 : σ3.2.2.2 37 (3 * (12 * bk + nr) + n) = σ1.2.1 58 := by
          rw [er3]
          show (rf_ub σ1 37 _ _).2.2.2 37 _ = _
          rw [r4ub, if_pos ⟨rfl, rfl⟩]
        have o37 : ∀ j, j < n → σ3.2.2.2 37 (3 * (12 * bk + nr) + j) = σ1.2.2.2 37 (3 * (12 * bk + nr) + j) := fun j hj => by rw [r4 37 _ (fun e => by have := e.2; omega), er1]
        have hX3 : rWx σ3 (12 * bk + nr) x k (n + 1) := by
          obtain ⟨y1, y2, y3, y4, y5⟩ := hX
          refine ⟨by rw [r3 38 _ (by decide)]; exact y1, by rw [r3 40 _ (by decide)]; exact y2, ⟨r43, by omega⟩, by rw [r3 39 _ (by decide)]; exact y4, fun a b ha hb hab => ?_⟩
          by_cases ea : a = n
          · by_cases eb : b = n
            · omega
            · rw [ea, r37, o37 b (by omega)] at hab
              exact absurd hab.symm (hno b (by omega))
          · by_cases eb : b = n
            · rw [eb, r37, o37 a (by omega)] at hab
              exact absurd hab (hno a (by omega))
            · rw [o37 a (by omega), o37 b (by omega), er1] at hab
              exact y5 a b (by omega) (by omega) hab
        have hna3 : ∃ n l, n ≤ 8 ∧ wdR n na (σ3.2.2.2 35 (12 * bk + nr)) l := by rw [r4 35 _ (fun e => absurd e.1 (by decide))]; exact hna
        have h453 : σ3.2.2.1 45 (12 * bk + nr) = 0 := by rw [r3 45 _ (by decide)]; exact h45
        have hle3 := ht.le (i + 1 + 1) (by omega)
        have hK3 := ht.K39 (i := i + 1 + 1) (by omega)
        -- the class's way there
        have cls : ∀ {S0 S : cs_S} {R mc ms u v : Nat} {post : cs_S → Prop}, stR G cx bf z c bk nr ra nm na i cn x k n σ S0 S R → (∀ S26, stR G cx bf z c bk nr ra nm na (i + 1 + 1) cn x k (n + 1) σ3 S0 S26 R → cs_k S26 (cx 0) = 7 ∧ (¬ (cs_i S26 606 (cx 0)) = 8 → w_X5_readBy_4 (fun S84 => w_X5_readRule_76 post G mc ms S84 u v (cx 0) (some R)) G (d + 1) S26 (cx 0) (some R) 0 (nI (n + 1))) ∧ ((cs_i S26 606 (cx 0)) = 8 → w_X5_readBy_4 (fun S84 => w_X5_readRule_76 post G mc ms S84 u v (cx 0) (some R)) G (d + 1) S26 (cx 0) (some R) 1 (nI (n + 1)))) → w_X5_readBy_4 (fun S84 => w_X5_readRule_76 post G mc ms S84 u v (cx 0) (some R)) G (d + 2) S (cx 0) (some R) 1 (nI n) := by
          rintro S0 S R mc ms u v post ⟨ca, by0, wt, vi, vl, un, ce, be, hm, hj, v11⟩ hp
          refine ⟨fun q => absurd q (by decide), fun _ => ⟨fun q => absurd q n3, fun _ => ⟨hm.1.1.1.1, c_step ht hm.1 hi (fun S41 p41 f41 => ⟨p41.1.1.1, fun q => absurd (by rw [p41.2.2.2.2, e2]; rfl) q, fun _ => ?_⟩)⟩⟩⟩
          have h41 := hm.pe p41 f41
          obtain ⟨⟨a1, a2, a3, a4⟩, ⟨b1, b2, b3, b4, b5⟩, -, -, ⟨e1, e2'⟩, -⟩ := id p41.1
          have am := p41.am ht (by omega)
          have nbe : ∀ j, j < n → ¬ be j = (at_ bf z (i + 1)).2.2.1 := fun j hjn e => by
            obtain ⟨n4, l4, p4, p5⟩ := hj.2.2.2 j hjn
            refine hno j hjn ?_
            rw [er1]
            exact (wd_eq8 p5 hwd p4 n2).mp e
          refine ⟨R, rfl, h41.2.2.1.1.1, fun _ => ⟨a1, fun q => absurd (by rw [p41.2.2.2.2, e2]; rfl) q, fun _ r30 e30 => ⟨cx 1, e30.trans a2, b1, fun r33 e33 => ⟨cx 4, e33.trans b4, e1, ?_, R, rfl, h41.2.2.1.1.1, ?_⟩⟩⟩, fun q => ?_⟩
          · rw [p41.2.2.2.1, e2']; exact nI_in (by have := ht.2.2.1; omega) (by decide)
          · rw [am]
            refine (c_keyed h41.2.2.1 hj.1.2.2.2.2.1 (by omega)).1 nbe ⟨fun _ => ⟨a1, c_name ht p41 (fun _ S23 p23 f23 => ?_) (fun q => absurd e2 q)⟩, fun q => absurd rfl q⟩
            have h23 := h41.pe p23 f23
            refine ⟨R, rfl, h23.2.2.1.1.1, c_addb h23.2.2.1 hj.1.2.2.2.2.1 hn3 ?_⟩
            have hF : fX (fun _ _ a => rEx R ca by0 a) S23 (cs_ui (cs_ual S23 by0 n (at_ bf z (i + 1)).2.2.1) 809 R (nI (n + 1))) := (fX.rfl.ual (Or.inl (Or.inr (Or.inr rfl)))).ui (Or.inl (Or.inl rfl))
            have h26 := h23.wr hF h23.2.2.1.ual.ui
            have hq := hp (cs_ui (cs_ual S23 by0 n (at_ bf z (i + 1)).2.2.1) 809 R (nI (n + 1))) ⟨ca, by0, wt, _, vl, un, ce, _, h26, ?_, ?_⟩
            · refine ⟨hq.1, fun q => ?_, fun q => ?_⟩
              · show w_X5_readBy_4 _ G (d + 1) _ (cx 0) (some R) 0 (nI n + 1)
                rw [cx3]; exact hq.2.1 q
              · show w_X5_readBy_4 _ G (d + 1) _ (cx 0) (some R) 1 (nI n + 1)
                rw [cx3]; exact hq.2.2 q
            · obtain ⟨⟨j1, j2, j3, j4, j5, j6, j7, j8⟩, ⟨tr, ut, jc, ju, jn⟩, jf, jb⟩ := hj
              have hP := prS.gf h hc hG3
              have fr := f41.trans f23
              refine ⟨⟨?_, ?_, ?_, ?_, up_s, ?_, ?_, j8⟩, ⟨tr, ut, ?_, ?_, jn⟩, fun e => ?_, fun j hj => ?_⟩
              · rw [up_o (by decide)]; exact j1
              · rw [up_o (by decide)]; exact j2
              · rw [up_o (by decide)]; exact j3
              · rw [up_o (by decide)]; exact j4
              · rw [up_o (by decide)]; exact j6
              · rw [up_o (by decide), r3 39 _ (by decide)]; exact j7
              · exact ((jc.on (Nat.le_refl _) hP (fun c _ => r3 41 _ (by decide)) fr (pE.e3 hm.1.1.1.1))).on (Nat.le_refl _) prS.rfl' (fun _ _ => rfl) hF (rEx.e3 h23.2.2.1)
              · exact ((ju.on (Nat.le_refl _) hP (r3 42 _ (by decide)) fr (pE.e3 hm.1.1.1.1))).on (Nat.le_refl _) prS.rfl' rfl hF (rEx.e3 h23.2.2.1)
              · rw [r4 36 _ (fun e => absurd e.1 (by decide))]; exact jf e
              · by_cases ej : j = n
                · rw [ej, up_s, r37]; exact ⟨n', l', n2, hwd⟩
                · rw [up_o ej, r4 37 _ (fun e => by have := e.2; omega)]; exact jb j (by omega)
            · rw [up_o (by decide)]; exact v11
          · rw [h41.2.2.1.1.2.1, hj.1.2.2.2.2.1] at q
            exact absurd (nI_lt (b := 3) hn3 (by decide)) q
        have ref : ∀ {Q : Int32 → rf_S → Prop}, wp_X12_isSign (fun r9 σ9 => (¬ r9 = 0 → w_X12_readBy_0 (fun r27 σ27 => (¬ r27 = 0 → w_X12_rule_193 Q σ27 (nI (12 * bk + nr))) ∧ (r27 = 0 → Q 0 σ27)) d σ9 (nI (12 * bk + nr))) ∧ (r9 = 0 → (¬ (1 : Int32) = 0 → w_X12_rule_193 Q σ9 (nI (12 * bk + nr))) ∧ ((1 : Int32) = 0 → Q 0 σ9))) σ3 44 → w_X12_readBy_0 (fun r27 σ27 => (¬ r27 = 0 → w_X12_rule_193 Q σ27 (nI (12 * bk + nr))) ∧ (r27 = 0 → Q 0 σ27)) (d + 1) σ (nI (12 * bk + nr)) := fun {Q} hq => g3 _ (r_isn ht g2 (by omega) (fun _ => ⟨fun _ => ⟨i43, fun _ => ⟨n + 1, (r_by38 (by omega) x43 hn3).1 hno (h3 _ hq)⟩, fun q => absurd q nn3⟩, fun q => absurd q (by decide)⟩) (fun q => absurd e2 q))
        by_cases e8 : kt bf z (i + 1 + 1) = 8
        · have hlt3 := ht.lt (i := i + 1 + 1) (by omega) (by omega)
          refine OUTR.pre 0 0 (rec σ3 hn3 h2 hlt3 hX3 hna3 h453) hG3 (Nat.le_refl _) (by omega) (by omega) (by omega) (fun Q hQ => ref (r_iss (K := 8) ht h2 (by omega) (by decide) (by decide) (fun _ => ⟨fun _ => hQ, fun q => absurd q (by decide)⟩) (fun q => absurd e8 q))) ?_
          intro S0 S R post mc ms u v hs hu hv hp
          refine cls hs (fun S26 h26 => ?_)
          obtain ⟨ca, by0, wt, vi, vl, un, ce, be, hm, hj⟩ := id h26
          exact ⟨hm.1.1.1.1, fun q => absurd (by rw [hm.1.2.2.2.2, e8]; rfl) q, fun _ => hp S26 h26⟩
        · refine OUTR.pre 0 0 (T193 ht h2 (by omega) hnr hX3 hna3 h453) hG3 (Nat.le_refl _) (by omega) (by omega) (by omega) (fun Q hQ => ref (r_iss (K := 8) ht h2 (by omega) (by decide) (by decide) (fun q => absurd q e8) (fun _ => ⟨fun q => absurd rfl q, fun _ => ⟨fun _ => hQ, fun q => absurd q (by decide)⟩⟩))) ?_
          intro S0 S R post mc ms u v hs hu hv hp
          refine cls hs (fun S26 h26 => ?_)
          obtain ⟨ca, by0, wt, vi, vl, un, ce, be, hm, hj⟩ := id h26
          refine ⟨hm.1.1.1.1, fun _ => ⟨fun _ => hp S26 h26, fun q => absurd rfl q⟩, fun q => ?_⟩
          exact absurd ((nI_eq (b := 8) (by omega) (by decide)).mp (hm.1.2.2.2.2.symm.trans q)) e8
  · -- no name
    have pB : pF bk cn σ (rB σ1 (fk2 bf z (i + 1)) (fpl bf z (i + 1))) := p1.trans rB.f (Nat.le_refl _)
    refine ⟨0, rB σ1 (fk2 bf z (i + 1)) (fpl bf z (i + 1)), 0, 0, pB.gf, fun Q hQ => g3 _ (r_isn ht g2 (by omega) (fun q => absurd q e2) (fun _ => ⟨fun q => absurd rfl q, fun _ => r_cant ht g2 (by omega) ⟨rfl, fun q => absurd rfl q, fun _ => hQ⟩⟩)), Or.inr ⟨fk2 bf z (i + 1), fpl bf z (i + 1), rfl, rB.d fk2_0, by omega, by omega, ?_⟩⟩
    rintro S0 S R post ⟨ca, by0, wt, vi, vl, un, ce, be, hm, hj, v11⟩ hp mc ms u v hu hv
    refine ⟨fun q => absurd q (by decide), fun _ => ⟨fun q => absurd q n3, fun _ => ⟨hm.1.1.1.1, c_step ht hm.1 hi (fun S41 p41 f41 => ?_)⟩⟩⟩
    have h41 := hm.pe p41 f41
    have k2 : ¬ cs_i S41 606 (cx 0) = 2 := fun q => e2 ((nI_eq (b := 2) (by omega) (by decide)).mp (p41.2.2.2.2.symm.trans q))
    refine ⟨p41.1.1.1, fun _ => ⟨p41.1.1.1, fun _ => ⟨p41.1.1.1, c_name ht p41 (fun q => absurd q e2) (fun _ S23 p23 f23 => ?_)⟩, fun q => absurd q k2⟩, fun q => absurd q k2⟩
    have h23 := h41.dd p23 f23 hX.2.1.2.2.1 hj.1.2.2.2.1 hX.2.2.1.2 hj.1.2.2.2.2.1
    exact ⟨R, rfl, h23.k9, d_addb h23 (fun S26 h26 => ⟨h26.k7, fun _ => dead h26 (by omega) (by omega) hp, fun q => absurd q (h26.k0 (x := 8) (by decide) (by decide))⟩)⟩
theorem BYL (ht : tC bf z c) (hnr : nr < 12) : ∀ d n i σ, n + d = 3 → rA bf z bk nr nm i cn σ → i < c → rWx σ (12 * bk + nr) x k n → (∃ n l, n ≤ 8 ∧ wdR n na (σ.2.2.2 35 (12 * bk + nr)) l) → σ.2.2.1 45 (12 * bk + nr) = 0 → OUTR G cx bf z c bk nr ra nm na i cn σ (fun Q => w_X12_readBy_0 (fun r27 σ27 => (¬ r27 = 0 → w_X12_rule_193 Q σ27 (nI (12 * bk + nr))) ∧ (r27 = 0 → Q 0 σ27)) (d + 1) σ (nI (12 * bk + nr))) (stR G cx bf z c bk nr ra nm na i cn x k n σ) (fun post mc ms u v S R => w_X5_readBy_4 (fun S84 => w_X5_readRule_76 post G mc ms S84 u v (cx 0) (some R)) G (d + 2) S (cx 0) (some R) 1 (nI n)) := by
  intro d
  induction d with
  | zero => intro n i σ hd h hi hX hna h45; exact BY1 ht h hi hnr hd hX hna h45 (fun _ hn => by omega)
  | succ d ih => intro n i σ hd h hi hX hna h45; exact BY1 ht h hi hnr hd hX hna h45 (fun σ3 hn h3 hi3 hX3 hna3 h453 => ih (n + 1) (i + 1 + 1) σ3 (by omega) h3 hi3 hX3 hna3 h453)
end BY2
