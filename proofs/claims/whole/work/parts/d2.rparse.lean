/-! ===== the reference's parser: where it stands ===== -/
/-- at token i, cn nodes made, nr rules read -/
def rA (bf : Nat → Nat) (z bk nr : Nat) (nm : Nat → Int64) (i cn : Nat) (σ : rf_S) : Prop :=
  tJ σ z bf ∧ rT σ z bf (qp bf z i) ∧ (σ.1 5 = 0 ∧ σ.1 32 = nI bk ∧ bk ≤ 1) ∧ (∀ j, σ.2.2.2 59 j = rf_i0.2.2.2 59 j) ∧ (σ.1 53 = nI (1100 * bk + cn) ∧ 2 * cn ≤ qp bf z i ∧ RN σ bk cn ∧ RT σ bk cn) ∧ (σ.1 34 = nI nr ∧ nr ≤ 12 ∧ ∀ r, r < nr → ∃ n l, n ≤ 8 ∧ wdR n (nm r) (σ.2.2.2 35 (12 * bk + r)) l) ∧ ∀ j, j < z → bf j < 128 → σ.2.2.1 46 (2120 * bk + j) = nI (bf j)
/-- behind a fault -/
def rD (fk fp : Int32) (σ : rf_S) : Prop := σ.1 5 = fk ∧ σ.1 6 = fp ∧ ¬ fk = 0
/-- what reading conditions changes: tokens, fault, the nodes from cn on -/
def pF (bk cn : Nat) (σ σ' : rf_S) : Prop :=
  (∀ k, k ≠ 4 → k ≠ 5 → k ≠ 6 → (k < 53 ∨ 57 < k) → k ≠ 60 → k ≠ 61 → σ'.1 k = σ.1 k) ∧ (∀ k, k ≠ 58 → σ'.2.1 k = σ.2.1 k) ∧
  (∀ k j, (47 ≤ k ∧ k ≤ 52 → j < 1100 * bk + cn ∨ 1100 * bk + 1100 ≤ j) → σ'.2.2.1 k j = σ.2.2.1 k j) ∧ ∀ k j, (k = 52 → j < 1100 * bk + cn ∨ 1100 * bk + 1100 ≤ j) → σ'.2.2.2 k j = σ.2.2.2 k j
section RPA
variable {bf : Nat → Nat} {z c bk nr i cn cn' : Nat} {nm : Nat → Int64} {σ σ1 σ2 : rf_S}
theorem pF.rfl : pF bk cn σ σ := ⟨fun _ _ _ _ _ _ _ => Eq.refl _, fun _ _ => Eq.refl _, fun _ _ _ => Eq.refl _, fun _ _ _ => Eq.refl _⟩
theorem pF.trans (h : pF bk cn σ σ1) (g : pF bk cn' σ1 σ2) (hc : cn ≤ cn') : pF bk cn σ σ2 := ⟨fun k a b c d e f => (g.1 k a b c d e f).trans (h.1 k a b c d e f), fun k a => (g.2.1 k a).trans (h.2.1 k a), fun k j a => (g.2.2.1 k j (fun q => by have := a q; omega)).trans (h.2.2.1 k j a), fun k j a => (g.2.2.2 k j (fun q => by have := a q; omega)).trans (h.2.2.2 k j a)⟩
theorem nxF.pf (h : nxF σ σ1) : pF bk cn σ σ1 := ⟨fun k a _ _ d _ _ => h.1 k a (by omega) (by omega) (by omega) (by omega), h.2.1, fun k j _ => by rw [h.2.2], fun k j _ => by rw [h.2.2]⟩
theorem pF.ui (h : pF bk cn σ σ1) {k : Nat} {x : Int32} (hk : k = 4 ∨ k = 5 ∨ k = 6 ∨ (53 ≤ k ∧ k ≤ 57) ∨ k = 60 ∨ k = 61) : pF bk cn σ (rf_ui σ1 k x) := ⟨fun k' a b c d e f => by rw [r1ui, if_neg (by omega)]; exact h.1 k' a b c d e f, h.2⟩
theorem pF.ua (h : pF bk cn σ σ1) {k j : Nat} {x : Int32} (hk : 47 ≤ k ∧ k ≤ 52) (h1 : 1100 * bk + cn ≤ j) (h2 : j < 1100 * bk + 1100) : pF bk cn σ (rf_ua σ1 k j x) := ⟨h.1, h.2.1, fun k' j' a => by rw [r3ua, if_neg (fun q => by have := a (by omega); omega)]; exact h.2.2.1 k' j' a, h.2.2.2⟩
theorem pF.ub (h : pF bk cn σ σ1) {j : Nat} {x : Int64} (h1 : 1100 * bk + cn ≤ j) (h2 : j < 1100 * bk + 1100) : pF bk cn σ (rf_ub σ1 52 j x) := ⟨h.1, h.2.1, h.2.2.1, fun k' j' a => by rw [r4ub, if_neg (fun q => by have := a q.1; omega)]; exact h.2.2.2 k' j' a⟩
/-- a change that leaves all of it alone but for the token -/
theorem rA.to (h : rA bf z bk nr nm i cn σ) {i' : Nat} (h1 : tJ σ1 z bf) (h2 : rT σ1 z bf (qp bf z i')) (hq : qp bf z i ≤ qp bf z i') (e5 : σ1.1 5 = σ.1 5) (e32 : σ1.1 32 = σ.1 32) (e34 : σ1.1 34 = σ.1 34) (e53 : σ1.1 53 = σ.1 53) (er : σ1.2.2 = σ.2.2) : rA bf z bk nr nm i' cn σ1 := by
  obtain ⟨a1, a2, ⟨a3, a4, a5⟩, a6, ⟨a7, a8, a9, a10⟩, ⟨a11, a12, a13⟩, a14⟩ := h
  refine ⟨h1, h2, ⟨e5.trans a3, e32.trans a4, a5⟩, by rw [er]; exact a6, ⟨e53.trans a7, by omega, ?_, ?_⟩, ⟨e34.trans a11, a12, by rw [er]; exact a13⟩, by rw [er]; exact a14⟩
  · unfold RN at a9 ⊢; rw [er]; exact a9
  · unfold RT at a10 ⊢; rw [er]; exact a10
/-- the next token -/
theorem r_nx (ht : tC bf z c) (h : rA bf z bk nr nm i cn σ) (hi : i < c) : ∃ σ', nxF σ σ' ∧ rA bf z bk nr nm (i + 1) cn σ' ∧ ∀ Q : rf_S → Prop, Q σ' → wp_X12_next Q σ := by
  obtain ⟨t1, t2, t3, t4, t5, t6, t7⟩ := ht.ti hi
  have hK := ht.2.2.2.2 i hi
  have h4 : σ.1 4 = nI (at_ bf z i).2.1 := (h.2.1.2.2 hK).1
  obtain ⟨σ', g1, g2, g3⟩ := r_next h.1 h4 (by omega)
  refine ⟨σ', g1, h.to (h.1.nx g1) g2 (by omega) ?_ ?_ ?_ ?_ g1.2.2, g3⟩
  · exact g1.1 5 (by decide) (by decide) (by decide) (by decide) (by decide)
  · exact g1.1 32 (by decide) (by decide) (by decide) (by decide) (by decide)
  · exact g1.1 34 (by decide) (by decide) (by decide) (by decide) (by decide)
  · exact g1.1 53 (by decide) (by decide) (by decide) (by decide) (by decide)
theorem rC_1 {K : Nat} (h : K ≤ 39) : rC K = 1 ↔ (K = 2 ∨ 20 ≤ K) := by
  unfold rC
  by_cases h0 : K = 0
  · rw [if_pos h0]; exact ⟨fun q => absurd q (by decide), fun q => by omega⟩
  rw [if_neg h0]
  by_cases h1 : K = 1
  · rw [if_pos h1]; exact ⟨fun q => absurd q (by decide), fun q => by omega⟩
  rw [if_neg h1]
  by_cases h2 : K = 2 ∨ 20 ≤ K
  · rw [if_pos h2]; exact ⟨fun _ => h2, fun _ => rfl⟩
  rw [if_neg h2]
  refine ⟨fun q => ?_, fun q => absurd q h2⟩
  split at q
  · exact absurd q (by decide)
  · split at q
    · exact absurd q (by decide)
    · split at q <;> exact absurd q (by decide)
theorem rC_c (K : Nat) : (rC K = 0 ↔ K = 1) ∧ (rC K = 6 ↔ K = 0) ∧ (rC K = 2 ↔ K = 3) ∧ (rC K = 3 ↔ K = 4) ∧ (rC K = 4 ↔ K = 5) ∧ (rC K = 5 ↔ (6 ≤ K ∧ K < 20)) := by
  unfold rC
  by_cases h0 : K = 0
  · rw [if_pos h0, h0]; decide
  rw [if_neg h0]
  by_cases h1 : K = 1
  · rw [if_pos h1, h1]; decide
  rw [if_neg h1]
  by_cases h2 : K = 2 ∨ 20 ≤ K
  · rw [if_pos h2]
    refine ⟨⟨fun q => absurd q (by decide), fun q => by omega⟩, ⟨fun q => absurd q (by decide), fun q => by omega⟩, ⟨fun q => absurd q (by decide), fun q => by omega⟩, ⟨fun q => absurd q (by decide), fun q => by omega⟩, ⟨fun q => absurd q (by decide), fun q => by omega⟩, ⟨fun q => absurd q (by decide), fun q => by omega⟩⟩
  rw [if_neg h2]
  by_cases h3 : K = 3
  · rw [if_pos h3, h3]; decide
  rw [if_neg h3]
  by_cases h4 : K = 4
  · rw [if_pos h4, h4]; decide
  rw [if_neg h4]
  by_cases h5 : K = 5
  · rw [if_pos h5, h5]; decide
  rw [if_neg h5]
  refine ⟨⟨fun q => absurd q (by decide), fun q => by omega⟩, ⟨fun q => absurd q (by decide), fun q => by omega⟩, ⟨fun q => absurd q (by decide), fun q => by omega⟩, ⟨fun q => absurd q (by decide), fun q => by omega⟩, ⟨fun q => absurd q (by decide), fun q => by omega⟩, ⟨fun _ => by omega, fun _ => rfl⟩⟩
/-- which word -/
theorem rA.wd (ht : tC bf z c) (h : rA bf z bk nr nm i cn σ) (hi : i ≤ c) (hk : kt bf z i = 2 ∨ 20 ≤ kt bf z i) : ∃ n l, 1 ≤ n ∧ n ≤ 8 ∧ wdR n (at_ bf z i).2.2.1 (σ.2.1 58) l := by
  have := (h.2.1.2.2 (by show 2 ≤ kt bf z i; omega)).2.1 hk
  exact this
theorem r_isw {post : Int32 → rf_S → Prop} (ht : tC bf z c) (h : rA bf z bk nr nm i cn σ) (hi : i ≤ c) {w : Nat} (hw : w < 20) (hy : kt bf z i = 20 + w → post 1 σ) (hn : ¬ kt bf z i = 20 + w → post 0 σ) : wp_X12_isWord post σ (nI w) := by
  have hK9 := ht.K39 hi
  have h54 : σ.1 54 = rC (kt bf z i) := h.2.1.1
  refine ⟨fun q => ⟨rfl, hn (fun e => q (by rw [h54]; exact (rC_1 hK9).mpr (by omega)))⟩, fun q => ⟨nI_in (N := 20) hw (by decide), ?_⟩⟩
  rw [h54] at q
  have hk := (rC_1 hK9).mp q
  have hlt := ht.lt hi (by omega)
  obtain ⟨n, l, n1, n2, hwd⟩ := h.wd ht hi hk
  obtain ⟨n', l', m1, m2, hwd'⟩ := wt_wd hw
  have e3 := (ht.ti hlt).2.2.1
  have hkw : kt bf z i = wkl (at_ bf z i).2.2.1 20 := by
    rw [e3]
    exact tk_w (by show (at_ bf z i).1 = 2 ∨ 20 ≤ (at_ bf z i).1; rw [← e3]; exact hk)
  have hiff : kt bf z i = 20 + w ↔ σ.2.1 58 = σ.2.2.2 59 w := by
    rw [hkw, (wkl_i 20 (Nat.le_refl _)).1 w hw, h.2.2.2.1 w]
    exact ⟨fun e => ((wd_eq8 hwd hwd' n2 m2).mp e.symm), fun e => ((wd_eq8 hwd hwd' n2 m2).mpr e).symm⟩
  rw [nI_clamp (by omega)]
  refine ⟨fun q2 => ⟨rfl, hn (fun e => q2 (lg_eq.mpr (hiff.mp e)))⟩, fun q2 => ⟨rfl, hy (hiff.mpr (lg_eq.mp q2))⟩⟩
/-- which sign -/
theorem sgN_i : ∀ K, K ≤ 16 → ∀ K', K' ≤ 16 → 6 ≤ K → 6 ≤ K' → (sgN K = sgN K' ↔ K = K') := by decide
theorem sgN_b : ∀ K, K ≤ 16 → sgN K < 400 := by decide
theorem r_iss {post : Int32 → rf_S → Prop} (ht : tC bf z c) (h : rA bf z bk nr nm i cn σ) (hi : i ≤ c) {K : Nat} (hK1 : 6 ≤ K) (hK2 : K ≤ 16) (hy : kt bf z i = K → post 1 σ) (hn : ¬ kt bf z i = K → post 0 σ) : wp_X12_isSign post σ (nI (sgN K)) := by
  have hK9 := ht.K39 hi
  have h54 : σ.1 54 = rC (kt bf z i) := h.2.1.1
  refine ⟨fun q => ⟨rfl, hn (fun e => q (by rw [h54]; exact (rC_c _).2.2.2.2.2.mpr (by omega)))⟩, fun q => ?_⟩
  rw [h54] at q
  have hk := (rC_c _).2.2.2.2.2.mp q
  have hlt := ht.lt hi (by omega)
  obtain ⟨-, t2, e3, -⟩ := ht.ti hlt
  have hk16 : kt bf z i ≤ 16 := by
    -- no kinds between 17 and 19
    have : (at_ bf z i).1 ≤ 16 ∨ 20 ≤ (at_ bf z i).1 := by
      by_cases h20 : 20 ≤ (at_ bf z i).1
      · exact Or.inr h20
      · left
        have hs := tk_kinds (bf := bf) (z := z) (s := qp bf z i)
        have : (tk bf z (qp bf z i)).1 = (at_ bf z i).1 := rfl
        omega
    omega
  have e56 : σ.1 56 = nI (sgN (kt bf z i)) := by
    rw [(h.2.1.2.2 (by show 2 ≤ kt bf z i; omega)).2.2.1 (by show 3 ≤ kt bf z i; omega) hk16]
    show (tk bf z (qp bf z i)).2.2.2 = _
    rw [e3]
    exact tk_s (by show 6 ≤ (at_ bf z i).1; omega) (by show (at_ bf z i).1 ≤ 16; omega)
  have b1 := sgN_b _ hk16
  have b2 := sgN_b K hK2
  have hiff : σ.1 56 = nI (sgN K) ↔ kt bf z i = K := by
    rw [e56, nI_eq (by omega) (by omega)]
    exact sgN_i _ hk16 K hK2 (by omega) hK1
  exact ⟨fun q2 => ⟨rfl, hn (fun e => q2 (hiff.mpr e))⟩, fun q2 => ⟨rfl, hy (hiff.mp q2)⟩⟩
/-- a name -/
theorem r_isn {post : Int32 → rf_S → Prop} (ht : tC bf z c) (h : rA bf z bk nr nm i cn σ) (hi : i ≤ c) (hy : kt bf z i = 2 → post 1 σ) (hn : ¬ kt bf z i = 2 → post 0 σ) : wp_X12_isName post σ := by
  have hK9 := ht.K39 hi
  have h54 : σ.1 54 = rC (kt bf z i) := h.2.1.1
  refine ⟨fun q => ?_, fun q => hn (fun e => q (by rw [h54]; exact (rC_1 hK9).mpr (by omega)))⟩
  rw [h54] at q
  have hk := (rC_1 hK9).mp q
  have hlt := ht.lt hi (by omega)
  obtain ⟨n, l, n1, n2, hwd⟩ := h.wd ht hi hk
  have e3 := (ht.ti hlt).2.2.1
  have hkw : kt bf z i = wkl (at_ bf z i).2.2.1 20 := by
    rw [e3]
    exact tk_w (by show (at_ bf z i).1 = 2 ∨ 20 ≤ (at_ bf z i).1; rw [← e3]; exact hk)
  have hiff : ∀ w, w < 20 → (kt bf z i = 20 + w ↔ σ.2.2.2 59 w = σ.2.1 58) := by
    intro w hw
    obtain ⟨n', l', m1, m2, hwd'⟩ := wt_wd hw
    rw [hkw, (wkl_i 20 (Nat.le_refl _)).1 w hw, h.2.2.2.1 w]
    exact ⟨fun e => ((wd_eq8 hwd hwd' n2 m2).mp e.symm).symm, fun e => ((wd_eq8 hwd hwd' n2 m2).mpr e.symm).symm⟩
  have loop : ∀ r k, k + r = 20 → (∀ j, j < k → ¬ kt bf z i = 20 + j) → w_X12_isName_12 post (r + 1) σ (nI k) := by
    intro r
    induction r with
    | zero =>
      intro k hk20 hno
      have : k = 20 := by omega
      subst this
      refine ⟨fun _ => hy ?_, fun q => absurd (nI_le (a := 20) (b := 20) (Nat.le_refl _) (by decide)) q⟩
      rcases hk with e | e
      · exact e
      · exact absurd (show kt bf z i = 20 + (kt bf z i - 20) by omega) (hno (kt bf z i - 20) (by omega))
    | succ r ih =>
      intro k hk20 hno
      refine ⟨fun q => absurd q (nI_ge (b := 20) (by omega) (by decide)), fun _ => ⟨nI_in (N := 20) (by omega) (by decide), ?_⟩⟩
      rw [nI_clamp (by omega)]
      refine ⟨fun q => ?_, fun q => hn (fun e => ?_)⟩
      · rw [nI_1]
        refine ih (k + 1) (by omega) (fun j hj e => ?_)
        by_cases e2 : j = k
        · rw [e2] at e; exact q (lg_eq.mpr ((hiff k (by omega)).mp e))
        · exact hno j (by omega) e
      · have := (hiff k (by omega)).mpr (lg_eq.mp q)
        omega
  exact ⟨_, loop 20 0 rfl (fun j hj => absurd hj (Nat.not_lt_zero _))⟩
/-- what can't come -/
def rB (σ : rf_S) (fk fp : Int32) : rf_S := rf_ui (rf_ui σ 5 fk) 6 fp
theorem rB.d {fk fp : Int32} (h : ¬ fk = 0) : rD fk fp (rB σ fk fp) := ⟨by unfold rB; rw [r1ui, if_neg (by decide), r1ui, if_pos rfl], by unfold rB; rw [r1ui, if_pos rfl], h⟩
theorem rB.f {fk fp : Int32} : pF bk cn σ (rB σ fk fp) := (pF.rfl.ui (by omega)).ui (by omega)
def fk2 (bf : Nat → Nat) (z i : Nat) : Int32 := if kt bf z i = 0 then 1 else 2
theorem fk2_0 : ¬ fk2 bf z i = 0 := by
  unfold fk2
  split <;> decide
def fpl (bf : Nat → Nat) (z i : Nat) : Int32 := nI (min (qp bf z i) 2000)
theorem rA.pl (ht : tC bf z c) (h : rA bf z bk nr nm i cn σ) (hi : i ≤ c) (hk : ¬ kt bf z i = 0) : σ.1 55 = fpl bf z i := by
  have h55 : σ.1 55 = nI (qp bf z i) := h.2.1.2.1
  rw [h55]
  unfold fpl
  congr 1
  have := ht.le i hi
  unfold kt tK at hk
  split at hk
  · exact absurd rfl hk
  · omega
theorem r_cant {post : Int32 → rf_S → Prop} (ht : tC bf z c) (h : rA bf z bk nr nm i cn σ) (hi : i ≤ c) (hp : post 0 (rB σ (fk2 bf z i) (fpl bf z i))) : wp_X12_cant post σ := by
  have h54 : σ.1 54 = rC (kt bf z i) := h.2.1.1
  have h55 : σ.1 55 = nI (qp bf z i) := h.2.1.2.1
  have hz := ht.1
  have hq := ht.le i hi
  refine ⟨fun q => ?_, fun q => ?_⟩
  · have hk : ¬ kt bf z i = 0 := fun e => q (by rw [h54]; exact (rC_c _).2.1.mpr e)
    have e2 : fk2 bf z i = 2 := if_neg hk
    rw [e2, ← h.pl ht hi hk] at hp
    exact ⟨fun _ => ⟨rfl, hp⟩, fun q2 => absurd q2 q⟩
  · have hk : kt bf z i = 0 := (rC_c _).2.1.mp (by rw [← h54]; exact q)
    have e2 : fk2 bf z i = 1 := if_pos hk
    rw [e2] at hp
    refine ⟨fun q2 => absurd q q2, fun _ => ⟨fun q2 => ⟨rfl, ?_⟩, fun q2 => ⟨rfl, ?_⟩⟩⟩
    · rw [h55] at q2
      have q2 := (nI_leI (b := 2000) (by omega) (by decide)).mp q2
      have e3 : fpl bf z i = σ.1 55 := by rw [h55]; unfold fpl; congr 1; omega
      rw [e3] at hp; exact hp
    · rw [h55] at q2
      have q2 : ¬ qp bf z i ≤ 2000 := fun w => q2 (nI_le (b := 2000) w (by decide))
      have e3 : fpl bf z i = 2000 := by unfold fpl; rw [show min (qp bf z i) 2000 = 2000 from by omega]; rfl
      rw [e3] at hp; exact hp
theorem r_wrong {post : Int32 → rf_S → Prop} (ht : tC bf z c) (h : rA bf z bk nr nm i cn σ) (hi : i ≤ c) (hk : ¬ kt bf z i = 0) {x : Int32} (hp : post 0 (rB σ x (fpl bf z i))) : wp_X12_wrong post σ x (σ.1 55) := by
  rw [h.pl ht hi hk]; exact hp
/-- what must come -/
theorem r_must (ht : tC bf z c) (h : rA bf z bk nr nm i cn σ) (hi : i ≤ c) {w : Nat} (hw : w < 20) : (kt bf z i = 20 + w → ∃ σ', nxF σ σ' ∧ rA bf z bk nr nm (i + 1) cn σ' ∧ ∀ Q : Int32 → rf_S → Prop, Q 1 σ' → wp_X12_must Q σ (nI w)) ∧ (¬ kt bf z i = 20 + w → ∀ Q : Int32 → rf_S → Prop, Q 0 (rB σ (fk2 bf z i) (fpl bf z i)) → wp_X12_must Q σ (nI w)) := by
  refine ⟨fun e => ?_, fun e Q hQ => ?_⟩
  · obtain ⟨σ', g1, g2, g3⟩ := r_nx ht h (ht.lt hi (by omega))
    exact ⟨σ', g1, g2, fun Q hQ => r_isw ht h hi hw (fun _ => ⟨fun _ => g3 _ hQ, fun q => absurd q (by decide)⟩) (fun q => absurd e q)⟩
  · exact r_isw ht h hi hw (fun q => absurd q e) (fun _ => ⟨fun q => absurd rfl q, fun _ => r_cant ht h hi ⟨rfl, hQ⟩⟩)
theorem r_musts (ht : tC bf z c) (h : rA bf z bk nr nm i cn σ) (hi : i ≤ c) {K : Nat} (hK1 : 6 ≤ K) (hK2 : K ≤ 16) : (kt bf z i = K → ∃ σ', nxF σ σ' ∧ rA bf z bk nr nm (i + 1) cn σ' ∧ ∀ Q : Int32 → rf_S → Prop, Q 1 σ' → wp_X12_mustSign Q σ (nI (sgN K))) ∧ (¬ kt bf z i = K → ∀ Q : Int32 → rf_S → Prop, Q 0 (rB σ (fk2 bf z i) (fpl bf z i)) → wp_X12_mustSign Q σ (nI (sgN K))) := by
  refine ⟨fun e => ?_, fun e Q hQ => ?_⟩
  · obtain ⟨σ', g1, g2, g3⟩ := r_nx ht h (ht.lt hi (by omega))
    exact ⟨σ', g1, g2, fun Q hQ => r_iss ht h hi hK1 hK2 (fun _ => ⟨fun _ => g3 _ hQ, fun q => absurd q (by decide)⟩) (fun q => absurd e q)⟩
  · exact r_iss ht h hi hK1 hK2 (fun q => absurd q e) (fun _ => ⟨fun q => absurd rfl q, fun _ => r_cant ht h hi ⟨rfl, hQ⟩⟩)
theorem rA.n56 (ht : tC bf z c) (h : rA bf z bk nr nm i cn σ) (hi : i ≤ c) (h1 : 3 ≤ kt bf z i) (h2 : kt bf z i ≤ 16) : σ.1 56 = (at_ bf z i).2.2.2 := (h.2.1.2.2 (by show 2 ≤ kt bf z i; omega)).2.2.1 h1 h2
/-- a number: 60 holds it -/
theorem r_mustn (ht : tC bf z c) (h : rA bf z bk nr nm i cn σ) (hi : i ≤ c) {x y : Int32} : (kt bf z i = 3 → ¬ (at_ bf z i).2.2.2 < x → (at_ bf z i).2.2.2 ≤ y → ∃ σ', pF bk cn σ σ' ∧ σ'.2.2 = σ.2.2 ∧ rA bf z bk nr nm (i + 1) cn σ' ∧ σ'.1 60 = (at_ bf z i).2.2.2 ∧ ∀ Q : Int32 → rf_S → Prop, Q 1 σ' → wp_X12_mustNumber Q σ x y) ∧ (∀ k : Int32, (¬ kt bf z i = 3 ∧ k = fk2 bf z i) ∨ (kt bf z i = 3 ∧ ((at_ bf z i).2.2.2 < x ∨ ¬ (at_ bf z i).2.2.2 ≤ y) ∧ k = 3) → ∀ Q : Int32 → rf_S → Prop, Q 0 (rB σ k (fpl bf z i)) → wp_X12_mustNumber Q σ x y) := by
  have hK9 := ht.K39 hi
  have h54 : σ.1 54 = rC (kt bf z i) := h.2.1.1
  refine ⟨fun e q1 q2 => ?_, fun k hk Q hQ => ?_⟩
  · have e56 : σ.1 56 = (at_ bf z i).2.2.2 := h.n56 ht hi (by omega) (by omega)
    have h60 : rA bf z bk nr nm i cn (rf_ui σ 60 (σ.1 56)) := by
      refine h.to (i' := i) ⟨h.1.1, h.1.2⟩ ?_ (Nat.le_refl _) rfl rfl rfl rfl rfl
      exact h.2.1
    obtain ⟨σ', g1, g2, g3⟩ := r_nx ht h60 (ht.lt hi (by omega))
    refine ⟨σ', (pF.rfl.ui (by omega)).trans g1.pf (Nat.le_refl _), g1.2.2, g2, ?_, fun Q hQ => ⟨fun _ => ⟨fun w => ?_, fun _ => ⟨fun _ => g3 _ hQ, fun w => ?_⟩⟩, fun w => absurd (by rw [h54]; exact (rC_c _).2.2.1.mpr e) w⟩⟩
    · rw [g1.1 60 (by decide) (by decide) (by decide) (by decide) (by decide), r1ui, if_pos rfl, e56]
    · rw [e56] at w; exact absurd w q1
    · rw [e56] at w; exact absurd q2 w
  · rcases hk with ⟨k1, k2⟩ | ⟨k1, k2, k3⟩
    · rw [k2] at hQ
      exact ⟨fun w => absurd ((rC_c _).2.2.1.mp (by rw [← h54]; exact w)) k1, fun _ => r_cant ht h hi ⟨rfl, hQ⟩⟩
    · rw [k3] at hQ
      have e56 : σ.1 56 = (at_ bf z i).2.2.2 := h.n56 ht hi (by omega) (by omega)
      have w29 : w_X12_mustNumber_29 Q σ := r_wrong ht h hi (by omega) ⟨rfl, hQ⟩
      refine ⟨fun _ => ⟨fun _ => w29, fun w1 => ⟨fun w2 => ?_, fun _ => w29⟩⟩, fun w => absurd (by rw [h54]; exact (rC_c _).2.2.1.mpr k1) w⟩
      rw [e56] at w1 w2
      rcases k2 with q | q
      · exact absurd q w1
      · exact absurd w2 q
end RPA
