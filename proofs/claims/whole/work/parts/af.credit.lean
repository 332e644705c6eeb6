/-! ===== what may still be paid ===== -/
theorem sS_cmp {P P' : Nat → Prop} {v v' t : Nat → Int} {lo : Nat} : ∀ r, (∀ x, lo ≤ x → x < lo + r → (oneIf (P' x) : Int) * v' x ≤ (oneIf (P x) : Int) * v x + t x) → sS P' v' lo r ≤ sS P v lo r + sS (fun _ => True) t lo r := by
  intro r
  induction r with
  | zero => intro _; exact Int.le_refl _
  | succ r ih =>
    intro h
    have h1 := ih (fun x a b => h x a (by omega))
    have h2 := h (lo + r) (by omega) (by omega)
    rw [sS, sS, sS, one_y (P := True) trivial]
    simp only [Int.natCast_one, Int.one_mul]
    omega
theorem sS_sng {lo r0 : Nat} {d : Int} : ∀ r, sS (fun _ => True) (fun x => if x = r0 then d else 0) lo r = if lo ≤ r0 ∧ r0 < lo + r then d else 0 := by
  intro r
  induction r with
  | zero => rw [sS, if_neg (by omega)]
  | succ r ih =>
    rw [sS, ih, one_y (P := True) trivial]
    simp only [Int.natCast_one, Int.one_mul]
    by_cases c : lo + r = r0
    · rw [if_neg (by omega), if_pos c, if_pos (by omega)]; omega
    · rw [if_neg c]
      by_cases c2 : lo ≤ r0 ∧ r0 < lo + r
      · rw [if_pos c2, if_pos (by omega)]; omega
      · rw [if_neg c2, if_neg (by omega)]; omega
theorem sS_t0 {lo : Nat} : ∀ r, sS (fun _ => True) (fun _ => 0) lo r = 0 := by
  intro r
  induction r with
  | zero => rfl
  | succ r ih => rw [sS, ih]; simp
/-- the costs: of a pair of event and rule (p0 without fields, p1 with), of telling, of an event made, of a key without values -/
def pcB (p0 p1 : Nat) (σ : rf_S) (e : Nat) : Nat := if 0 < mN σ e then p1 else p0
def lcB (p0 p1 t mk : Nat) (σ : rf_S) (r e : Nat) : Nat := t + (if σ.2.2.1 10 e = -1 then mk + (pcB p0 p1 σ e + t) * (11 - r) else 0)
def scB (p0 p1 t : Nat) (σ : rf_S) (r e : Nat) : Nat := (pcB p0 p1 σ e + t) * (11 - r)
def alB (p0 p1 t mk : Nat) (σ : rf_S) (e r : Nat) : Nat := pcB p0 p1 σ e + lcB p0 p1 t mk σ r e
/-- the credit -/
noncomputable def CB (p0 p1 t mk kc : Nat) (gf : Nat → Nat) (σ : rf_S) (nr na ns ks nl : Nat) (n pr lr le : Nat → Nat) : Int :=
  (gf (min na 500) : Int) + sS (fun r => n r = 0 ∧ ∀ f, ¬ KfO σ r (pr r) f) (fun _ => (kc : Int)) 0 nr + sS (fun j => σ.2.2.1 71 j = 0) (fun j => (lcB p0 p1 t mk σ (lr j) (le j) : Int)) 0 nl + sS (fun k => σ.2.2.1 10 (σ.2.2.1 82 k).toNatClampNeg = -1) (fun k => (scB p0 p1 t σ (σ.2.2.1 81 k).toNatClampNeg (σ.2.2.1 82 k).toNatClampNeg : Int)) ks (ns - ks)
section CBS
variable {σ σ' : rf_S} {bk nr te nv ne na ns ks nl now na' ns' nl' r e p0 p1 t mk kc : Nat} {x k n w q L : Nat → Nat} {dp : Nat → Nat → Nat} {tr : (r c : Nat) → cT (dp r c)} {ud : Nat → Nat} {ut : (r : Nat) → Option (cT (ud r))} {pr lr le tm lr' le' : Nat → Nat} {gf gg Kc Mc : Nat → Nat} {L0 L1 : Nat}
theorem eV.pc (hE : eV σ σ') (e : Nat) : pcB p0 p1 σ' e = pcB p0 p1 σ e := by
  unfold pcB mN
  rw [hE.1 9 (by decide)]
theorem eV.lcb (hE : eV σ σ') (r e : Nat) : lcB p0 p1 t mk σ' r e = lcB p0 p1 t mk σ r e := by
  unfold lcB
  rw [hE.1 10 (by decide), hE.pc]
theorem eV.scb (hE : eV σ σ') (r e : Nat) : scB p0 p1 t σ' r e = scB p0 p1 t σ r e := by
  unfold scB
  rw [hE.pc]
/-- a look pays for itself: cost, and what is left -/
theorem bud (hS : RS0 σ bk nr x k n w q L dp tr ud ut) (hD : RD σ bk nr x n w te nv ne na ns nl now pr lr le tm) (hr : r < nr) (hp : pr r ≤ e) (hne : ne = e + 1) (hks : ks ≤ ns) (hl : lkD σ r (12 * bk + r) e (x r) (k r) (n r) (w r) (q r) nl na ns tm lr le w (dp r) (tr r) (ud r) (ut r) σ') (hg : gE σ σ') (hD' : RD σ' bk nr x n w te nv ne na' ns' nl' now (prU pr r (e + 1)) lr' le' tm)
    (hgg : ∀ i, i < 500 → gg i + gf (i + 1) ≤ gf i) (hK0 : Kc 0 ≤ kc) (hKL : ∀ i, i ≤ 3 → Kc i + L1 ≤ p1) (hL01 : L0 ≤ L1) (hL0 : L0 ≤ p0) (hM : ∀ i, i ≤ 3 → Mc i ≤ mk) :
    ∃ KK LL TT, (kH σ (12 * bk + r) (n r) e → σ'.2.2.1 63 (4000 * r + e) = nI e → Kc (n r) ≤ KK) ∧ (kH σ (12 * bk + r) (n r) e → L0 ≤ LL) ∧ (kH σ (12 * bk + r) (n r) e → x r = 1 → hI σ (12 * bk + r) e → L1 ≤ LL) ∧ (¬ σ'.1 78 = σ.1 78 → (if na < 500 then t + gg na else 0) + (if σ.2.2.1 10 e = -1 then Mc (n r) else 0) ≤ TT) ∧
      ((KK + LL + TT : Nat) : Int) + CB p0 p1 t mk kc gf σ' nr na' ns' ks nl' n (prU pr r (e + 1)) lr' le' ≤ CB p0 p1 t mk kc gf σ nr na ns ks nl n pr lr le + alB p0 p1 t mk σ e r := by
  obtain ⟨s1, s2, s3, s4, s5⟩ := id hS
  obtain ⟨bnl, bna, bns, bpr, blk⟩ := hD.bnd s4
  obtain ⟨bnl', bna', bns', bpr', blk'⟩ := hD'.bnd s4
  obtain ⟨⟨d1, d2, d3, d4, d5⟩, d6, d7, ⟨d8a, d8, d8b, d8c, d8d⟩, d9, d10, d11, d12, d13, d14⟩ := id hD
  have d10' := hD'.2.2.2.2.2.1
  have hE := hg.ev
  have he : e < 4000 := by omega
  have hn3 : n r ≤ 3 := (s5 r hr).1.2.2.2.1
  obtain ⟨jp, jK, j63, -⟩ := d10.1 r hr
  have hmn : ∃ m, m ≤ 8 ∧ σ.2.2.1 9 e = nI m := by
    obtain ⟨⟨m, g⟩, -⟩ := d6 e (by omega)
    exact ⟨m, g.2.1, g.2.2.1⟩
  obtain ⟨me, me8, me9⟩ := hmn
  have hmf : ∀ {c : Int64} {i : Nat}, fO σ e c = some i → 0 < mN σ e := fun hf => by
    have := fO_mN me9 me8 hf
    omega
  -- steps and lacks that were there
  have steps : ∀ (hh : ∀ kk, kk < ns → σ'.2.2.1 81 kk = σ.2.2.1 81 kk ∧ σ'.2.2.1 82 kk = σ.2.2.1 82 kk), sS (fun k => σ'.2.2.1 10 (σ'.2.2.1 82 k).toNatClampNeg = -1) (fun k => (scB p0 p1 t σ' (σ'.2.2.1 81 k).toNatClampNeg (σ'.2.2.1 82 k).toNatClampNeg : Int)) ks (ns - ks) = sS (fun k => σ.2.2.1 10 (σ.2.2.1 82 k).toNatClampNeg = -1) (fun k => (scB p0 p1 t σ (σ.2.2.1 81 k).toNatClampNeg (σ.2.2.1 82 k).toNatClampNeg : Int)) ks (ns - ks) := fun hh => sS_cong _ (fun y h1 h2 => by
    obtain ⟨g1, g2⟩ := hh y (by omega)
    refine ⟨by rw [g2, hE.1 10 (by decide)], fun _ => by rw [g1, g2, hE.scb]⟩)
  have lacks : ∀ (hnl : nl ≤ nl') (hh : ∀ j, j < nl → (σ'.2.2.1 71 j = 1 ∨ σ'.2.2.1 71 j = σ.2.2.1 71 j) ∧ lr' j = lr j ∧ le' j = le j), sS (fun j => σ'.2.2.1 71 j = 0) (fun j => (lcB p0 p1 t mk σ' (lr' j) (le' j) : Int)) 0 nl ≤ sS (fun j => σ.2.2.1 71 j = 0) (fun j => (lcB p0 p1 t mk σ (lr j) (le j) : Int)) 0 nl := fun _ hh => by
    have := sS_cmp (P := fun j => σ.2.2.1 71 j = 0) (P' := fun j => σ'.2.2.1 71 j = 0) (v := fun j => (lcB p0 p1 t mk σ (lr j) (le j) : Int)) (v' := fun j => (lcB p0 p1 t mk σ' (lr' j) (le' j) : Int)) (t := fun _ => 0) (lo := 0) nl (fun y _ hy => by
      obtain ⟨g1, g2, g3⟩ := hh y (by omega)
      rw [g2, g3, hE.lcb]
      rcases g1 with g1 | g1
      · rw [one_n (by rw [g1]; decide)]
        have : (0 : Int) ≤ (oneIf (σ.2.2.1 71 y = 0) : Int) * (lcB p0 p1 t mk σ (lr y) (le y) : Int) := Int.mul_nonneg (by omega) (by omega)
        simp only [Int.natCast_zero, Int.zero_mul]
        omega
      · rw [g1]; omega)
    rw [sS_t0] at this
    omega
  rcases hl.y with ⟨hnk, hσ⟩ | ⟨f0, B, σ1, res, hY⟩
  · -- no key
    have hi : σ'.1 = σ.1 := by rw [hσ]; rfl
    have hrow : ∀ kk jj, σ'.2.2.1 kk jj = σ.2.2.1 kk jj := fun kk jj => by
      rw [hσ, r3ua]
      by_cases c : kk = 63 ∧ jj = 4000 * r + e
      · rw [if_pos c, c.1, c.2]; exact (j63 e hp he).symm
      · rw [if_neg c]
    have ena : na' = na := by
      have h1 := d10'.2.2.1
      rw [hi, d10.2.2.1] at h1
      exact ((nI_eq (by omega) (by omega)).mp h1).symm
    have ens : ns' = ns := by
      have h1 := d10'.2.2.2.2.1
      rw [hi, d10.2.2.2.2.1] at h1
      exact ((nI_eq (by omega) (by omega)).mp h1).symm
    have enl : nl' = nl := by
      have h1 := d10'.2.1.1
      rw [hi, d10.2.1.1] at h1
      exact ((nI_eq (by omega) (by omega)).mp h1).symm
    have hold : ∀ j, j < nl → lr' j = lr j ∧ le' j = le j := fun j hj => hD.lk hD' s4 hj (by omega) (hrow 69 j) (hrow 70 j)
    refine ⟨0, 0, 0, fun z => absurd z hnk, fun z => absurd z hnk, fun z => absurd z hnk, fun z => absurd (by rw [hi]) z, ?_⟩
    have kcs : sS (fun r' => n r' = 0 ∧ ∀ f, ¬ KfO σ' r' (prU pr r (e + 1) r') f) (fun _ => (kc : Int)) 0 nr = sS (fun r' => n r' = 0 ∧ ∀ f, ¬ KfO σ r' (pr r') f) (fun _ => (kc : Int)) 0 nr := sS_cong _ (fun y _ hy => ⟨by
      have hk : KfO σ' y (prU pr r (e + 1) y) = KfO σ y (pr y) := by
        have h1 : ∀ p, KfO σ' y p = KfO σ y p := fun p => funext fun f => propext (by unfold KfO; rw [hrow])
        rw [h1]
        by_cases c : y = r
        · rw [c, prU_r]
          exact KfO_ext (by omega) (by omega) j63
        · rw [prU_o c]
      rw [hk], fun _ => rfl⟩)
    have st := steps (fun kk _ => ⟨hrow 81 kk, hrow 82 kk⟩)
    have lk := lacks (by omega) (fun j hj => ⟨Or.inr (hrow 71 j), hold j hj⟩)
    subst ena
    subst ens
    subst enl
    unfold CB
    rw [kcs, st]
    omega
  · obtain ⟨y1, y2, hU, yB, ybits, yb5, yres, yres4, y9⟩ := id hY
    obtain ⟨z63, z64, z65, z67, z71, z72⟩ := hY.rows
    have hf0 : f0 ≤ e := by rcases y2 with z | z <;> omega
    have e63e : σ'.2.2.1 63 (4000 * r + e) = nI f0 := by rw [z63]; exact hU.e63
    have hKf0 : KfO σ' r (e + 1) f0 := by
      refine ⟨by omega, ?_⟩
      rw [z63]
      rcases y2 with ⟨b1, b2, -⟩ | ⟨b1, -⟩
      · rw [hU.o63 (by omega)]; exact b2
      · rw [b1, hU.e63, b1]
    have h63o : ∀ r', r' ≠ r → ∀ f, f < 4000 → σ'.2.2.1 63 (4000 * r' + f) = σ.2.2.1 63 (4000 * r' + f) := fun r' hne' f hf => by
      rw [z63, hU.2.2.2.2.1, if_neg (by omega)]
    -- the key without values
    obtain ⟨D, hD0, hDp, kcs⟩ : ∃ D : Nat, (n r = 0 → f0 = e → D = kc) ∧ D ≤ kc ∧ sS (fun r' => n r' = 0 ∧ ∀ f, ¬ KfO σ' r' (prU pr r (e + 1) r') f) (fun _ => (kc : Int)) 0 nr + D ≤ sS (fun r' => n r' = 0 ∧ ∀ f, ¬ KfO σ r' (pr r') f) (fun _ => (kc : Int)) 0 nr := by
      have gen : ∀ D : Nat, (D = 0 ∨ (n r = 0 ∧ f0 = e ∧ D = kc)) → sS (fun r' => n r' = 0 ∧ ∀ f, ¬ KfO σ' r' (prU pr r (e + 1) r') f) (fun _ => (kc : Int)) 0 nr + D ≤ sS (fun r' => n r' = 0 ∧ ∀ f, ¬ KfO σ r' (pr r') f) (fun _ => (kc : Int)) 0 nr := fun D hDD => by
        have := sS_cmp (P := fun r' => n r' = 0 ∧ ∀ f, ¬ KfO σ r' (pr r') f) (P' := fun r' => n r' = 0 ∧ ∀ f, ¬ KfO σ' r' (prU pr r (e + 1) r') f) (v := fun _ => (kc : Int)) (v' := fun _ => (kc : Int)) (t := fun y => if y = r then -(D : Int) else 0) (lo := 0) nr (fun y _ hy => by
          by_cases c : y = r
          · subst c
            rw [if_pos rfl, one_n (fun z => z.2 f0 (by rw [prU_r]; exact hKf0))]
            simp only [Int.natCast_zero, Int.zero_mul]
            rcases hDD with z | ⟨z1, z2, z3⟩
            · have : (0 : Int) ≤ (oneIf (n y = 0 ∧ ∀ f, ¬ KfO σ y (pr y) f) : Int) * (kc : Int) := Int.mul_nonneg (by omega) (by omega)
              omega
            · have hPr : n y = 0 ∧ ∀ f, ¬ KfO σ y (pr y) f := ⟨z1, fun f hf => by
                rcases y2 with ⟨b1, -⟩ | ⟨-, b2⟩
                · omega
                · refine b2 f (by have := hf.1; omega) hf.2 (fun kk hkk => ?_)
                  rw [z1] at hkk
                  omega⟩
              rw [one_y hPr]
              simp only [Int.natCast_one, Int.one_mul]
              omega
          · rw [if_neg c]
            have hk : KfO σ' y (prU pr r (e + 1) y) = KfO σ y (pr y) := by
              rw [prU_o c]
              refine funext fun f => propext ⟨fun z => ⟨z.1, ?_⟩, fun z => ⟨z.1, ?_⟩⟩
              · rw [← h63o y c f (by have := z.1; have := bpr y (by omega); omega)]; exact z.2
              · rw [h63o y c f (by have := z.1; have := bpr y (by omega); omega)]; exact z.2
            rw [hk]
            omega)
        rw [sS_sng, if_pos (by omega)] at this
        omega
      by_cases c : n r = 0 ∧ f0 = e
      · exact ⟨kc, fun _ _ => rfl, Nat.le_refl _, gen kc (Or.inr ⟨c.1, c.2, rfl⟩)⟩
      · exact ⟨0, fun z1 z2 => absurd ⟨z1, z2⟩ c, by omega, gen 0 (Or.inl rfl)⟩
    -- key and look
    obtain ⟨KK, LL, hKK, hLL0, hLL1, hKLD⟩ : ∃ KK LL, (f0 = e → Kc (n r) ≤ KK) ∧ L0 ≤ LL ∧ (x r = 1 → hI σ (12 * bk + r) e → L1 ≤ LL) ∧ KK + LL ≤ pcB p0 p1 σ e + D := by
      have hx38 : σ.2.2.1 38 (12 * bk + r) = nI (x r) := (s5 r hr).1.1
      obtain ⟨LL, g1, g2, g3⟩ : ∃ LL, L0 ≤ LL ∧ (x r = 1 → hI σ (12 * bk + r) e → L1 ≤ LL) ∧ ((LL = L1 ∧ 0 < mN σ e) ∨ LL = L0) := by
        by_cases c : x r = 1 ∧ hI σ (12 * bk + r) e
        · refine ⟨L1, hL01, fun _ _ => Nat.le_refl _, Or.inl ⟨rfl, ?_⟩⟩
          rcases c.2 with ⟨z, -⟩ | ⟨i, z, -⟩
          · exact absurd (by rw [hx38, c.1]; rfl) z
          · exact hmf z
        · exact ⟨L0, Nat.le_refl _, fun z1 z2 => absurd ⟨z1, z2⟩ c, Or.inr rfl⟩
      obtain ⟨KK, g4, g5⟩ : ∃ KK, (f0 = e → Kc (n r) ≤ KK) ∧ ((KK = Kc (n r) ∧ f0 = e) ∨ KK = 0) := by
        by_cases c : f0 = e
        · exact ⟨Kc (n r), fun _ => Nat.le_refl _, Or.inl ⟨rfl, c⟩⟩
        · exact ⟨0, fun z => absurd z c, Or.inr rfl⟩
      refine ⟨KK, LL, g4, g1, g2, ?_⟩
      have hkl := hKL (n r) hn3
      unfold pcB
      by_cases cm : 0 < mN σ e
      · rw [if_pos cm]
        rcases g3 with ⟨z, -⟩ | z <;> rcases g5 with ⟨z', -⟩ | z' <;> omega
      · rw [if_neg cm]
        have hn0 : n r = 0 := by
          by_cases c : n r = 0
          · exact c
          · obtain ⟨i, hi⟩ := y1 0 (by omega)
            exact absurd (hmf hi) cm
        rcases g3 with ⟨-, z⟩ | z
        · exact absurd z cm
        · rcases g5 with ⟨z1, z2⟩ | z1
          · rw [hn0] at z1
            have := hD0 hn0 z2
            omega
          · omega
    have i1 : σ1.1 = σ.1 := hU.1
    have e1 : ∀ kk, kk ≠ 62 → kk ≠ 63 → kk ≠ 64 → σ1.2.2.1 kk = σ.2.2.1 kk := hU.2.2.2.1
    have same78 : σ'.1 78 = σ1.1 78 → na' = na := fun h9 => by
      have h1 := d10'.2.2.1
      rw [h9, i1, d10.2.2.1] at h1
      exact ((nI_eq (by omega) (by omega)).mp h1).symm
    have same83 : σ'.1 83 = σ1.1 83 → ns' = ns := fun h9 => by
      have h1 := d10'.2.2.2.2.1
      rw [h9, i1, d10.2.2.2.2.1] at h1
      exact ((nI_eq (by omega) (by omega)).mp h1).symm
    have same72 : σ'.1 72 = σ1.1 72 → nl' = nl := fun h9 => by
      have h1 := d10'.2.1.1
      rw [h9, i1, d10.2.1.1] at h1
      exact ((nI_eq (by omega) (by omega)).mp h1).symm
    have hlc : (lcB p0 p1 t mk σ r e : Int) = (alB p0 p1 t mk σ e r : Int) - pcB p0 p1 σ e := by unfold alB; omega
    -- where nothing is told
    have quiet : σ'.1 78 = σ1.1 78 → σ'.1 83 = σ1.1 83 → (∀ kk, kk = 81 ∨ kk = 82 → σ'.2.2.1 kk = σ1.2.2.1 kk) → (nl' = nl ∨ (nl' = nl + 1 ∧ lr' nl = r ∧ le' nl = e)) → ∃ KK LL TT, (kH σ (12 * bk + r) (n r) e → σ'.2.2.1 63 (4000 * r + e) = nI e → Kc (n r) ≤ KK) ∧ (kH σ (12 * bk + r) (n r) e → L0 ≤ LL) ∧ (kH σ (12 * bk + r) (n r) e → x r = 1 → hI σ (12 * bk + r) e → L1 ≤ LL) ∧ (¬ σ'.1 78 = σ.1 78 → (if na < 500 then t + gg na else 0) + (if σ.2.2.1 10 e = -1 then Mc (n r) else 0) ≤ TT) ∧ ((KK + LL + TT : Nat) : Int) + CB p0 p1 t mk kc gf σ' nr na' ns' ks nl' n (prU pr r (e + 1)) lr' le' ≤ CB p0 p1 t mk kc gf σ nr na ns ks nl n pr lr le + alB p0 p1 t mk σ e r := by
      intro h78 h83 h8 hnl
      have ena := same78 h78
      have ens := same83 h83
      have hnle : nl ≤ nl' := by rcases hnl with z | z <;> omega
      have hold : ∀ j, j < nl → lr' j = lr j ∧ le' j = le j := fun j hj => hD.lk hD' s4 hj (by omega) (z71 j hj).2.1 (z71 j hj).2.2
      have st := steps (fun kk _ => ⟨by rw [h8 81 (Or.inl rfl), e1 81 (by decide) (by decide) (by decide)], by rw [h8 82 (Or.inr rfl), e1 82 (by decide) (by decide) (by decide)]⟩)
      have lk := lacks hnle (fun j hj => ⟨(z71 j hj).1, hold j hj⟩)
      refine ⟨KK, LL, 0, fun _ z => hKK (by rw [e63e] at z; exact (nI_eq (by omega) (by omega)).mp z), fun _ => hLL0, fun _ => hLL1, fun z => absurd (h78.trans (by rw [i1])) z, ?_⟩
      have lk' : sS (fun j => σ'.2.2.1 71 j = 0) (fun j => (lcB p0 p1 t mk σ' (lr' j) (le' j) : Int)) 0 nl' ≤ sS (fun j => σ.2.2.1 71 j = 0) (fun j => (lcB p0 p1 t mk σ (lr j) (le j) : Int)) 0 nl + lcB p0 p1 t mk σ r e := by
        rcases hnl with z | ⟨z1, z2, z3⟩
        · rw [z]; omega
        · rw [z1, sS, Nat.zero_add, z2, z3, hE.lcb]
          by_cases c : σ'.2.2.1 71 nl = 0
          · rw [one_y c]; simp only [Int.natCast_one, Int.one_mul]; omega
          · rw [one_n c]; simp only [Int.natCast_zero, Int.zero_mul]; omega
      subst ena
      subst ens
      unfold CB
      rw [st]
      omega
    rcases y9 with ⟨x4, σ4, q1, q2, q3⟩ | ⟨x4, q1, q2⟩ | ⟨x4, s, hh, q1, q2, q3, q4⟩
    · obtain ⟨l1, l2, l3, l4⟩ := id q1
      rcases q3 with ⟨b0, z⟩ | ⟨b0, z⟩
      · obtain ⟨w1, w2, w3, w4, w5, w6⟩ := wtS_r (σ := σ4) (r := r) (e := e) (nl := nl)
        have hn1 : nl' = nl + 1 := by
          have h1 := d10'.2.1.1
          rw [z, w6] at h1
          exact ((nI_eq (by omega) (by omega)).mp h1).symm
        obtain ⟨c1, c2, c3, c4, -⟩ := d10'.2.1.2.2 nl (by omega)
        have hb9 := bpr' (lr' nl) c1
        rw [z, w2, if_pos rfl] at c3
        rw [z, w3, if_pos rfl] at c4
        refine quiet (by rw [z, w5 78 (by decide), l1]) (by rw [z, w5 83 (by decide), l1]) (fun kk hk => ?_) (Or.inr ⟨hn1, ((nI_eq (by omega) (by omega)).mp c3).symm, ((nI_eq (by omega) (by omega)).mp c4).symm⟩)
        rw [z, w1 kk (by omega) (by omega) (by omega), l3 kk (by omega)]
      · exact quiet (by rw [z, l1]) (by rw [z, l1]) (fun kk hk => by rw [z, l3 kk (by omega)]) (Or.inl (same72 (by rw [z, l1])))
    · exact quiet (by rw [q2]) (by rw [q2]) (fun kk _ => by rw [q2]) (Or.inl (same72 (by rw [q2])))
    · rcases q4 with ⟨-, m2⟩ | ⟨-, m2⟩
      · obtain ⟨f1, f2, f3, f4, f5⟩ := fnH_r (σ := σ1) (r := r) (kk := 4000 * r + f0) (h := hh)
        exact quiet (by rw [m2]; exact f4 78 (by decide)) (by rw [m2]; exact f4 83 (by decide)) (fun kk hk => by rw [m2]; exact f1 kk (by omega) (by omega)) (Or.inl (same72 (by rw [m2]; exact f4 72 (by decide))))
      · obtain ⟨f1, f2, f3, f4, f5, f6, f7, f8, f9, f10, f11⟩ := fnA_r (σ := σ1) (r := r) (e := e) (t := tm e) (s := s) (kk := 4000 * r + f0) (h := hh) (na := na) (ns := ns)
        have ena : na' = na + 1 := by
          have h1 := d10'.2.2.1
          rw [m2, f6] at h1
          exact ((nI_eq (by omega) (by omega)).mp h1).symm
        have ens : ns' = ns + 1 := by
          have h1 := d10'.2.2.2.2.1
          rw [m2, f7] at h1
          exact ((nI_eq (by omega) (by omega)).mp h1).symm
        have enl := same72 (by rw [m2]; exact f5 72 (by decide) (by decide))
        have hold : ∀ j, j < nl → lr' j = lr j ∧ le' j = le j := fun j hj => hD.lk hD' s4 hj (by omega) (z71 j hj).2.1 (z71 j hj).2.2
        have g81 : ∀ kk, σ'.2.2.1 81 kk = if kk = ns then nI r else σ.2.2.1 81 kk := fun kk => by rw [m2, f8, e1 81 (by decide) (by decide) (by decide)]
        have g82 : ∀ kk, σ'.2.2.1 82 kk = if kk = ns then nI e else σ.2.2.1 82 kk := fun kk => by rw [m2, f9, e1 82 (by decide) (by decide) (by decide)]
        have st := steps (fun kk hk => ⟨by rw [g81, if_neg (by omega)], by rw [g82, if_neg (by omega)]⟩)
        have lk := lacks (by omega) (fun j hj => ⟨(z71 j hj).1, hold j hj⟩)
        refine ⟨KK, LL, (if na < 500 then t + gg na else 0) + (if σ.2.2.1 10 e = -1 then Mc (n r) else 0), fun _ z => hKK (by rw [e63e] at z; exact (nI_eq (by omega) (by omega)).mp z), fun _ => hLL0, fun _ => hLL1, fun _ => Nat.le_refl _, ?_⟩
        have st' : sS (fun k => σ'.2.2.1 10 (σ'.2.2.1 82 k).toNatClampNeg = -1) (fun k => (scB p0 p1 t σ' (σ'.2.2.1 81 k).toNatClampNeg (σ'.2.2.1 82 k).toNatClampNeg : Int)) ks (ns + 1 - ks) ≤ sS (fun k => σ.2.2.1 10 (σ.2.2.1 82 k).toNatClampNeg = -1) (fun k => (scB p0 p1 t σ (σ.2.2.1 81 k).toNatClampNeg (σ.2.2.1 82 k).toNatClampNeg : Int)) ks (ns - ks) + (if σ.2.2.1 10 e = -1 then (scB p0 p1 t σ r e : Int) else 0) := by
          rw [show ns + 1 - ks = (ns - ks) + 1 from by omega, sS, st, show ks + (ns - ks) = ns from by omega, g82, g81, if_pos rfl, if_pos rfl, nI_clamp (by omega), nI_clamp (by omega), hE.1 10 (by decide), hE.scb]
          by_cases c : σ.2.2.1 10 e = -1
          · rw [one_y c, if_pos c]; simp only [Int.natCast_one, Int.one_mul]; omega
          · rw [one_n c, if_neg c]; simp only [Int.natCast_zero, Int.zero_mul]; omega
        have gr : (if na < 500 then t + gg na else 0) + gf (min (na + 1) 500) ≤ gf (min na 500) + t := by
          by_cases c : na < 500
          · rw [if_pos c, Nat.min_eq_left (by omega), Nat.min_eq_left (by omega)]
            have := hgg na c
            omega
          · rw [if_neg c, Nat.min_eq_right (by omega), Nat.min_eq_right (by omega)]
            omega
        have hM' := hM (n r) hn3
        have hlcv : lcB p0 p1 t mk σ r e = t + (if σ.2.2.1 10 e = -1 then mk + scB p0 p1 t σ r e else 0) := rfl
        subst ena
        subst ens
        subst enl
        unfold CB
        by_cases c : σ.2.2.1 10 e = -1
        · rw [if_pos c] at st' hlcv
          rw [if_pos c]
          omega
        · rw [if_neg c] at st' hlcv
          rw [if_neg c]
          omega
end CBS
