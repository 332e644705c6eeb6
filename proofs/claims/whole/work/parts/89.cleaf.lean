/-! ===== a test of a condition: the class ===== -/
theorem sfx_cong {P P' T T' : Nat → Int32} {n : Nat} (hT : ∀ k, k < n → T k = T' k) : ∀ r i j, (∀ k, i ≤ k → k < i + r → P k = P' k) → (sfx P T n r i j ↔ sfx P' T' n r i j) := by
  intro r
  induction r with
  | zero => intro i j _; exact Iff.rfl
  | succ r ih =>
    intro i j h
    have e := h i (Nat.le_refl _) (by omega)
    have ih' : ∀ j', sfx P T n r (i + 1) j' ↔ sfx P' T' n r (i + 1) j' := fun j' => ih (i + 1) j' (fun k h1 h2 => h k (by omega) (by omega))
    by_cases c : P i = 42
    · rw [sfx_star c, sfx_star (e ▸ c)]
      exact ⟨fun ⟨s, a, b, d⟩ => ⟨s, a, b, (ih' s).mp d⟩, fun ⟨s, a, b, d⟩ => ⟨s, a, b, (ih' s).mpr d⟩⟩
    · rw [sfx_chr c, sfx_chr (e ▸ c), ih', e]
      constructor
      · rintro ⟨a, b, d⟩; rw [hT j a] at b; exact ⟨a, b, d⟩
      · rintro ⟨a, b, d⟩; rw [← hT j a] at b; exact ⟨a, b, d⟩
/-- the value of a test on both sides -/
def pvR (S : cs_S) (σ : rf_S) (pv n : Nat) : Prop := ∃ ty a, cvW S pv ty a ∧ cs_i S 1000 pv = σ.2.2.1 51 n ∧ cs_i S 1001 pv = σ.2.2.1 50 n ∧ (σ.2.2.1 51 n = 1 → ∃ fr, σ.2.2.1 48 n = nI fr ∧ fr + a ≤ 4240 ∧ ∀ k, k < a → σ.2.2.1 46 (fr + k) = cs_ai S ty k)
def opR (s o : Nat) : Prop := (s = 38 ∧ o = 6) ∨ (s = 39 ∧ o = 7) ∨ (s = 11 ∧ o = 8) ∨ (s = 12 ∧ o = 9) ∨ (s = 13 ∧ o = 10) ∨ (s = 14 ∧ o = 11) ∨ (s = 15 ∧ o = 12) ∨ (s = 16 ∧ o = 13)
/-- a test: the class's Cond, the reference's node -/
def lfR (S : cs_S) (σ : rf_S) (c n : Nat) : Prop := cs_k S c = 3 ∧ nW σ n ∧
  ((cs_i S 200 c = 35 ∧ σ.2.2.1 47 n = 3 ∧ ∃ k l, k ≤ 8 ∧ wdR k (cs_l S 201 c) (σ.2.2.2 52 n) l) ∨
   (cs_i S 200 c = 36 ∧ σ.2.2.1 47 n = 4 ∧ ∃ k l, k ≤ 8 ∧ wdR k (cs_l S 201 c) (σ.2.2.2 52 n) l) ∨
   (cs_i S 200 c = 37 ∧ σ.2.2.1 47 n = 5 ∧ cs_i S 202 c = σ.2.2.1 48 n) ∨
   (∃ s o, opR s o ∧ cs_i S 200 c = nI s ∧ σ.2.2.1 47 n = nI o ∧ (∃ k l, k ≤ 8 ∧ wdR k (cs_l S 201 c) (σ.2.2.2 52 n) l) ∧ ∃ pv, cs_r S 203 c = some pv ∧ pvR S σ pv n ∧ (o = 7 → cs_i S 202 c = σ.2.2.1 49 n ∧ ∃ b, b ≤ 32 ∧ σ.2.2.1 49 n = nI b)))
section CLF
variable {G : Nat → Nat} {S : cs_S} {σ : rf_S} {te q e m c n : Nat} {post : Int32 → cs_S → Prop}
theorem lT_k {o : Nat} (eo : σ.2.2.1 47 n = nI o) (ho : o ≤ 13) (h6 : 6 ≤ o) : lT σ n e ↔ ∃ k, fO σ e (σ.2.2.2 52 n) = some k ∧ σ.2.2.1 14 (8 * e + k) = σ.2.2.1 51 n ∧ tT σ n (8 * e + k) := by
  have hh : ∀ o', o' ≤ 13 → o ≠ o' → ¬ σ.2.2.1 47 n = nI o' := fun o' h1 h2 => op_ne eo (by omega) (by omega) h2
  constructor
  · intro z
    rcases z with ⟨z, -⟩ | ⟨z, -⟩ | ⟨z, -⟩ | z
    · exact absurd z (hh 3 (by omega) (by omega))
    · exact absurd z (hh 4 (by omega) (by omega))
    · exact absurd z (hh 5 (by omega) (by omega))
    · exact z
  · intro z; exact Or.inr (Or.inr (Or.inr z))
theorem tT_no {o : Nat} (eo : σ.2.2.1 47 n = nI o) (ho : o < 6) (f : Nat) : ¬ tT σ n f := by
  intro z
  have hh : ∀ o', o' ≤ 13 → 6 ≤ o' → ¬ σ.2.2.1 47 n = nI o' := fun o' h1 h2 => op_ne eo (by omega) (by omega) (by omega)
  rcases z with ⟨z, -⟩ | ⟨z, -⟩ | ⟨z, -⟩ | ⟨z, -⟩ | ⟨z, -⟩ | ⟨z, -⟩ | ⟨z, -⟩ | ⟨z, -⟩
  · exact hh 6 (by omega) (by omega) z
  · exact hh 7 (by omega) (by omega) z
  · exact hh 8 (by omega) (by omega) z
  · exact hh 9 (by omega) (by omega) z
  · exact hh 10 (by omega) (by omega) z
  · exact hh 11 (by omega) (by omega) z
  · exact hh 12 (by omega) (by omega) z
  · exact hh 13 (by omega) (by omega) z
theorem clf (hlf : lfR S σ c n) (hev : evR S σ te q e m) (he : e ≤ 4000) (hte : te ≤ 24000) (hmk : cs_i S 402 q = σ.2.2.1 10 e) (hy : lT σ n e → post 1 S) (hno : ¬ lT σ n e → post 0 S) : wp_X1_fits post G S c (some q) := by
  obtain ⟨k3, hnW, hsel⟩ := hlf
  have hk5 := hev.1
  refine ⟨k3, ?_⟩
  rcases hsel with ⟨s1, s2, k, l, hk8, hW⟩ | ⟨s1, s2, k, l, hk8, hW⟩ | ⟨s1, s2, s3⟩ | ⟨s, o, hso, s1, s2, ⟨k, l, hk8, hW⟩, pv, s3, s4, s5⟩
  · -- kind
    obtain ⟨n1, -, hWe⟩ := hev.2.1
    have heq := wd_eq hWe hW
    rw [wd_low hW hk8] at heq
    have hlT : lT σ n e ↔ σ.2.2.2 11 e = σ.2.2.2 52 n ∧ σ.2.2.2 12 e = 0 := by
      constructor
      · intro z
        rcases z with ⟨-, z⟩ | ⟨z, -⟩ | ⟨z, -⟩ | ⟨k, -, -, z⟩
        · exact z
        · exact absurd (s2.symm.trans z) (by decide)
        · exact absurd (s2.symm.trans z) (by decide)
        · exact absurd z (tT_no (o := 3) s2 (by decide) _)
      · intro z; exact Or.inl ⟨s2, z⟩
    refine ⟨fun hc => absurd s1 hc, fun _ => ⟨q, rfl, hk5, fun hc => ⟨rfl, hno (fun z => hc (lg_eq.mpr (heq.mpr (hlT.mp z))))⟩, fun hc => ⟨rfl, hy (hlT.mpr (heq.mp (lg_eq.mp hc)))⟩⟩⟩
  · -- has
    have hlT : lT σ n e ↔ ∃ k, fO σ e (σ.2.2.2 52 n) = some k := by
      constructor
      · intro z
        rcases z with ⟨z, -⟩ | ⟨-, z⟩ | ⟨z, -⟩ | ⟨k, -, -, z⟩
        · exact absurd (s2.symm.trans z) (by decide)
        · exact z
        · exact absurd (s2.symm.trans z) (by decide)
        · exact absurd z (tT_no (o := 4) s2 (by decide) _)
      · intro z; exact Or.inr (Or.inl ⟨s2, z⟩)
    rw [s1]
    refine ⟨fun _ => ⟨fun _ => ⟨q, rfl, hk5, cfi hev hW hk8 (fun hf => ?_) (fun j va vs hj hf hvs har hvl => ?_)⟩, fun hc => absurd hc (by decide)⟩, fun hc => absurd hc (by decide)⟩
    · refine ⟨fun _ => ⟨fun _ => ⟨rfl, hno (fun z => ?_)⟩, fun b e => by cases e⟩, fun b e => by cases e⟩
      obtain ⟨j, z⟩ := hlT.mp z
      rw [hf] at z; cases z
    · refine ⟨fun z => (nomatch z), fun b e => ?_⟩
      cases e
      rw [s1]
      exact ⟨k3, fun hc => absurd rfl hc, fun _ => ⟨fun z => (nomatch z), fun b e => ⟨rfl, hy (hlT.mpr ⟨j, hf⟩)⟩⟩⟩
  · -- alert
    have hlT : lT σ n e ↔ σ.2.2.1 10 e = σ.2.2.1 48 n := by
      constructor
      · intro z
        rcases z with ⟨z, -⟩ | ⟨z, -⟩ | ⟨-, z⟩ | ⟨k, -, -, z⟩
        · exact absurd (s2.symm.trans z) (by decide)
        · exact absurd (s2.symm.trans z) (by decide)
        · exact z
        · exact absurd z (tT_no (o := 5) s2 (by decide) _)
      · intro z; exact Or.inr (Or.inr (Or.inl ⟨s2, z⟩))
    rw [s1]
    refine ⟨fun _ => ⟨fun hc => absurd rfl hc, fun _ => ⟨q, rfl, hk5, ?_⟩⟩, fun hc => absurd hc (by decide)⟩
    rw [hmk, s3]
    exact ⟨fun hc => ⟨rfl, hno (fun z => hc (hlT.mp z))⟩, fun hc => ⟨rfl, hy (hlT.mpr hc)⟩⟩
  · -- a field
    have ho : 6 ≤ o ∧ o ≤ 13 ∧ s ≤ 39 ∧ s ≠ 35 ∧ s ≠ 37 ∧ s ≠ 36 := by
      rcases hso with h | h | h | h | h | h | h | h <;> omega
    have hlT := lT_k (e := e) s2 ho.2.1 ho.1
    have hsne : ∀ x, x ≤ 39 → s ≠ x → ¬ cs_i S 200 c = nI x := fun x h1 h2 => op_ne s1 (by omega) (by omega) h2
    have eI : (cs_i S 200 c).toInt = (s : Int) := by rw [s1]; exact nI_toInt (by omega)
    refine ⟨fun _ => ⟨fun _ => ⟨q, rfl, hk5, cfi hev hW hk8 (fun hf => ?_) (fun j va vs hj hf hvs har hvl => ?_)⟩, fun hc => absurd hc (hsne 37 (by omega) (by omega))⟩, fun hc => absurd hc (hsne 35 (by omega) (by omega))⟩
    · refine ⟨fun _ => ⟨fun _ => ⟨rfl, hno (fun z => ?_)⟩, fun b e => by cases e⟩, fun b e => by cases e⟩
      obtain ⟨j, z, -, -⟩ := hlT.mp z
      rw [hf] at z; cases z
    · refine ⟨fun z => (nomatch z), fun b e0 => ?_⟩
      cases e0
      have hlT2 : lT σ n e ↔ (σ.2.2.1 14 (8 * e + j) = σ.2.2.1 51 n ∧ tT σ n (8 * e + j)) := by
        rw [hlT]
        constructor
        · rintro ⟨j', z, z2⟩
          rw [hf] at z; cases z; exact z2
        · intro z; exact ⟨j, hf, z⟩
      obtain ⟨ty, a, hcv, p1, p2, p3⟩ := s4
      obtain ⟨tx, L, hcw, hby, htx⟩ := hvl.cv
      have v1 := hvl.2.1
      have v2 := hvl.2.2.1
      refine ⟨k3, fun _ r45 e45 => ⟨fun z => ?_, fun b46 e46 => ⟨hvl.1, fun r48 e48 => ⟨pv, e48.trans s3, hcv.1, ?_⟩⟩⟩, fun hc => absurd hc (hsne 36 (by omega) (by omega))⟩
      · rw [e45, s3] at z; cases z
      · rw [v1, p1, v2, eI]
        generalize hfj : 8 * e + j = f at *
        refine ⟨fun hs => ?_, fun hs => hno (fun z => hs (hlT2.mp z).1)⟩
        have hlT3 : lT σ n e ↔ tT σ n f := ⟨fun z => (hlT2.mp z).2, fun z => hlT2.mpr ⟨hs, z⟩⟩
        rw [hlT3] at hy hno
        -- what = and != look at
        have hE : cvE S va tx pv ty L ↔ (σ.2.2.1 15 f = σ.2.2.1 50 n ∧ (σ.2.2.1 14 f = 1 → ∀ j, j < nn (σ.2.2.1 15 f) → σ.2.2.1 18 (nn (σ.2.2.1 16 f) + j) = σ.2.2.1 46 (nn (σ.2.2.1 48 n) + j))) := by
          rw [cvE, v1, v2, p1, p2]
          constructor
          · rintro ⟨-, z2, z3⟩
            refine ⟨z2, fun h1 => ?_⟩
            obtain ⟨o1, q1, q2, q3⟩ := htx h1
            obtain ⟨fr, r1, r2, r3⟩ := p3 (hs.symm.trans h1)
            have hL : σ.2.2.1 15 f = nI L := by
              rcases hcw.2.2.2.2.2.2 with ⟨-, z⟩ | ⟨z, -⟩
              · rw [v2] at z; exact z
              · rw [v1] at z; exact absurd h1 z
            have ha : σ.2.2.1 50 n = nI a := by
              rcases hcv.2.2.2.2.2.2 with ⟨-, z⟩ | ⟨z, -⟩
              · rw [p2] at z; exact z
              · rw [p1] at z; exact absurd (hs.symm.trans h1) z
            have hLa : L = a := by
              rw [hL, ha] at z2
              exact (nI_eq (by have := hcw.2.2.2.2.1; omega) (by have := hcv.2.2.2.2.1; omega)).mp z2
            have hL24 := hcw.2.2.2.2.1
            intro j' hj'
            rw [hL, nn_nI (by omega)] at hj'
            rw [q1, r1, nn_nI (by omega), nn_nI (by omega), q3 j' hj', r3 j' (by omega)]
            exact z3 j' hj'
          · rintro ⟨z2, z3⟩
            refine ⟨hs, z2, fun j' hj' => ?_⟩
            rcases hcw.2.2.2.2.2.2 with ⟨h1, hL⟩ | ⟨-, hL⟩
            · rw [v1] at h1
              rw [v2] at hL
              obtain ⟨o1, q1, q2, q3⟩ := htx h1
              obtain ⟨fr, r1, r2, r3⟩ := p3 (hs.symm.trans h1)
              have hL24 := hcw.2.2.2.2.1
              have ha24 := hcv.2.2.2.2.1
              have ha : σ.2.2.1 50 n = nI a := by
                rcases hcv.2.2.2.2.2.2 with ⟨-, z⟩ | ⟨z, -⟩
                · rw [p2] at z; exact z
                · rw [p1] at z; exact absurd (hs.symm.trans h1) z
              have hLa : L = a := by
                rw [hL, ha] at z2
                exact (nI_eq (by omega) (by omega)).mp z2
              have z4 := z3 h1 j' (by rw [hL, nn_nI (by omega)]; exact hj')
              rw [q1, r1, nn_nI (by omega), nn_nI (by omega), q3 j' hj', r3 j' (by omega)] at z4
              exact z4
            · omega
        have bad : ∀ {x y : Nat} {P : Prop}, x ≠ y → (x : Int) = (y : Int) → P := fun h1 h2 => absurd (Int.ofNat_inj.mp h2) h1
        rcases hso with ⟨rfl, rfl⟩ | ⟨rfl, rfl⟩ | ⟨rfl, rfl⟩ | ⟨rfl, rfl⟩ | ⟨rfl, rfl⟩ | ⟨rfl, rfl⟩ | ⟨rfl, rfl⟩ | ⟨rfl, rfl⟩
        · -- like
          have h1 : σ.2.2.1 14 f = 1 := hs.trans (hnW.2.2.2 s2)
          obtain ⟨o1, q1, q2, q3⟩ := htx h1
          obtain ⟨fr, r1, r2, r3⟩ := p3 (hs.symm.trans h1)
          have hL24 := hcw.2.2.2.2.1
          have ha24 := hcv.2.2.2.2.1
          have hL : σ.2.2.1 15 f = nI L := by
            rcases hcw.2.2.2.2.2.2 with ⟨-, z⟩ | ⟨z, -⟩
            · rw [v2] at z; exact z
            · rw [v1] at z; exact absurd h1 z
          have ha : σ.2.2.1 50 n = nI a := by
            rcases hcv.2.2.2.2.2.2 with ⟨-, z⟩ | ⟨z, -⟩
            · rw [p2] at z; exact z
            · rw [p1] at z; exact absurd (hs.symm.trans h1) z
          have ew : sfx (cs_ai S ty) (cs_ai S tx) L a 0 0 ↔ tT σ n f := by
            rw [tT_6 s2, hL, ha, nn_nI (by omega), nn_nI (by omega)]
            refine sfx_cong (fun k hk => ?_) a 0 0 (fun k _ hk => ?_)
            · show _ = σ.2.2.1 18 (nn (σ.2.2.1 16 f) + k)
              rw [q1, nn_nI (by omega)]; exact (q3 k hk).symm
            · show _ = σ.2.2.1 46 (nn (σ.2.2.1 48 n) + k)
              rw [r1, nn_nI (by omega)]; exact (r3 k (by omega)).symm
          refine ⟨bad (by decide), bad (by decide), bad (by decide), bad (by decide), bad (by decide), fun _ r64 e64 => ?_, bad (by decide), fun z => absurd rfl z.2.2.2.2.2.1⟩
          rw [e64, s3]
          refine clk hcw hcv (fun k hk z => ?_) (fun z => ⟨rfl, hy (ew.mp z)⟩) (fun z => ⟨rfl, hno (fun z2 => z (ew.mpr z2))⟩)
          obtain ⟨b, b1, b2, b3⟩ := hby k hk
          rw [b3] at z
          have h0 : (0 : Int32) ≤ nI b := nI_pos' (by omega)
          rw [z] at h0
          exact absurd h0 (by decide)
        · -- in
          obtain ⟨t1, bb, t2, t3⟩ := s5 rfl
          refine ⟨bad (by decide), bad (by decide), bad (by decide), bad (by decide), bad (by decide), bad (by decide), fun _ r66 e66 => ⟨pv, e66.trans s3, hcv.1, ?_⟩, fun z => absurd rfl z.2.2.2.2.2.2⟩
          rw [p2, t1, t3]
          have h7 := tT_7 (σ := σ) (n := n) (f := f) s2
          rw [t3] at h7
          refine ⟨fun hc => ?_, fun hc => ?_⟩
          · have hb1 : 1 ≤ bb := Nat.one_le_iff_ne_zero.mpr (fun z => by rw [z] at hc; exact absurd hc (by decide))
            have hne : ¬ nI bb = 0 := nI_ne0 (by omega) (by omega)
            refine ⟨fun hz => ⟨rfl, hno (fun z => ?_)⟩, fun hz => ⟨rfl, hy (h7.mpr (Or.inr ((mk_eq _ bb t2 hb1).mp hz)))⟩⟩
            rcases h7.mp z with z | z
            · exact hne z
            · exact hz ((mk_eq _ bb t2 hb1).mpr z)
          · have hb0 : bb = 0 := by
              apply Classical.byContradiction
              intro z
              exact hc (nI_lt (a := 0) (by omega) (by omega))
            have ez : ((σ.2.2.1 15 f) ^^^ (σ.2.2.1 50 n)) &&& 0 = 0 := by
              apply Int32.toBitVec_inj.mp
              rw [Int32.toBitVec_and]
              exact BitVec.and_zero
            exact ⟨fun hz => absurd ez hz, fun _ => ⟨rfl, hy (h7.mpr (Or.inl (by rw [hb0]; rfl)))⟩⟩
        · -- =
          refine ⟨fun _ r51 e51 => ?_, bad (by decide), bad (by decide), bad (by decide), bad (by decide), bad (by decide), bad (by decide), fun z => absurd rfl z.1⟩
          rw [e51, s3]
          exact csm hcw hcv (fun z => ⟨rfl, hy ((tT_8 s2).mpr (hE.mp z))⟩) (fun z => ⟨rfl, hno (fun z2 => z (hE.mpr ((tT_8 s2).mp z2)))⟩)
        · -- !=
          refine ⟨bad (by decide), fun _ r53 e53 => ?_, bad (by decide), bad (by decide), bad (by decide), bad (by decide), bad (by decide), fun z => absurd rfl z.2.1⟩
          rw [e53, s3]
          exact csm hcw hcv (fun z => ⟨fun _ => ⟨rfl, hno (fun z2 => (tT_9 s2).mp z2 (hE.mp z))⟩, fun w => absurd w (by decide)⟩) (fun z => ⟨fun w => absurd rfl w, fun _ => ⟨rfl, hy ((tT_9 s2).mpr (fun z2 => z (hE.mpr z2)))⟩⟩)
        · -- <
          refine ⟨bad (by decide), bad (by decide), fun _ r55 e55 => ⟨pv, e55.trans s3, hcv.1, ?_⟩, bad (by decide), bad (by decide), bad (by decide), bad (by decide), fun z => absurd rfl z.2.2.1⟩
          rw [p2]
          exact ⟨fun hc => ⟨rfl, hno (fun z => Int32.not_le.mpr ((tT_10 s2).mp z) hc)⟩, fun hc => ⟨rfl, hy ((tT_10 s2).mpr (Int32.not_le.mp hc))⟩⟩
        · -- <=
          refine ⟨bad (by decide), bad (by decide), bad (by decide), fun _ r58 e58 => ⟨pv, e58.trans s3, hcv.1, ?_⟩, bad (by decide), bad (by decide), bad (by decide), fun z => absurd rfl z.2.2.2.1⟩
          rw [p2]
          exact ⟨fun hc => ⟨rfl, hno (fun z => Int32.not_lt.mpr ((tT_11 s2).mp z) hc)⟩, fun hc => ⟨rfl, hy ((tT_11 s2).mpr (Int32.not_lt.mp hc))⟩⟩
        · -- >
          refine ⟨bad (by decide), bad (by decide), bad (by decide), bad (by decide), fun _ r61 e61 => ⟨pv, e61.trans s3, hcv.1, ?_⟩, bad (by decide), bad (by decide), fun z => absurd rfl z.2.2.2.2.1⟩
          rw [p2]
          exact ⟨fun hc => ⟨rfl, hno (fun z => Int32.not_le.mpr ((tT_12 s2).mp z) hc)⟩, fun hc => ⟨rfl, hy ((tT_12 s2).mpr (Int32.not_le.mp hc))⟩⟩
        · -- >=
          refine ⟨bad (by decide), bad (by decide), bad (by decide), bad (by decide), bad (by decide), bad (by decide), bad (by decide), fun _ r70 e70 => ⟨pv, e70.trans s3, hcv.1, ?_⟩⟩
          rw [p2]
          exact ⟨fun hc => ⟨rfl, hno (fun z => Int32.not_lt.mpr ((tT_13 s2).mp z) hc)⟩, fun hc => ⟨rfl, hy ((tT_13 s2).mpr (Int32.not_lt.mp hc))⟩⟩
end CLF
