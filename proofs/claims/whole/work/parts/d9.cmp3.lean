/-! ===== comparisons, whole ===== -/
section CM3
variable {G cx : Nat → Nat} {bf : Nat → Nat} {z c bk nr i cn dp : Nat} {ra : Nat → Nat} {nm : Nat → Int64} {σ : rf_S} {S : cs_S}
theorem opk_b {K1 : Nat} (hop : (11 ≤ K1 ∧ K1 ≤ 16) ∨ K1 = 38 ∨ K1 = 39) : 6 ≤ opk K1 ∧ opk K1 ≤ 13 := by
  unfold opk
  split
  · omega
  · split <;> omega
/-- what the two sides hold of a comparison -/
theorem lf_cmp {σ1 : rf_S} {S1 S2 : cs_S} {N v ty L q K1 j : Nat} {A fw : Int64} {bt : Int32} (ht : tC bf z c) (hj : j < c) (hN : N < 2200) (hop : (11 ≤ K1 ∧ K1 ≤ 16) ∨ K1 = 38 ∨ K1 = 39) (hg : gdV K1 (kt bf z j)) (b47 : σ1.2.2.1 47 N = nI (opk K1)) (b52 : σ1.2.2.2 52 N = fw) (hwd : ∃ n l, 1 ≤ n ∧ n ≤ 8 ∧ wdR n A fw l) (b51 : σ1.2.2.1 51 N = vso (kt bf z j)) (b50 : σ1.2.2.1 50 N = (at_ bf z j).2.2.2) (b48 : kt bf z j = 4 → σ1.2.2.1 48 N = nI (2120 * bk + (qp bf z j + 1))) (hbk : bk ≤ 1) (h46 : ∀ j, j < z → bf j < 128 → σ1.2.2.1 46 (2120 * bk + j) = nI (bf j)) (hv : cvW S1 v ty L) (v1 : cs_i S1 1000 v = vso (kt bf z j)) (v2 : cs_i S1 1001 v = (at_ bf z j).2.2.2) (v3 : kt bf z j = 4 → (at_ bf z j).2.2.2 = nI L ∧ ∀ k, k < L → cs_ai S1 ty k = nI (bf (qp bf z j + 1 + k))) (hq : cs_k S1 q = 0) (h49 : K1 = 39 → bt = σ1.2.2.1 49 N ∧ ∃ b, b ≤ 32 ∧ σ1.2.2.1 49 N = nI b) : lfR (nC S1 q (nI K1) A bt (some v)) σ1 q N ∧ nW σ1 N := by
  obtain ⟨t1, t2, t3, -⟩ := ht.ti hj
  have hz := ht.1
  have ho : 6 ≤ opk K1 ∧ opk K1 ≤ 13 := opk_b hop
  have o6 : opk K1 = 6 → K1 = 38 := fun e => by
    unfold opk at e
    split at e
    · assumption
    · split at e <;> omega
  have k4 : vso (kt bf z j) = 1 → kt bf z j = 4 := fun e => by
    unfold vso at e
    by_cases h4 : kt bf z j = 4
    · exact h4
    · rw [if_neg h4] at e
      split at e <;> exact absurd e (by decide)
  have hnW : nW σ1 N := by
    refine ⟨hN, ⟨opk K1, by omega, by omega, b47⟩, fun _ _ _ q => ?_, fun q => ?_⟩
    · rw [b51] at q
      have h4 := k4 q
      obtain ⟨M, m1, m2, m3, m4, m5⟩ := tk_q (bf := bf) t2 (show (at_ bf z j).1 = 4 by omega)
      exact ⟨2120 * bk + (qp bf z j + 1), M, b48 h4, by rw [b50]; exact m2, m3, by omega⟩
    · rw [b47] at q
      have h38 := o6 ((nI_eq (b := 6) (by omega) (by decide)).mp q)
      have h4 := hg.2.2.2.1 h38
      rw [b51, h4]; rfl
  obtain ⟨hv', i', a'⟩ := hv.fx (E := fun _ _ _ => False) (nC.fx (a := nI K1) (b := A) (d := bt) (e := some v) hq) (fun _ _ _ q => q.elim)
  refine ⟨⟨nC.k, hnW, Or.inr (Or.inr (Or.inr ⟨K1, opk K1, opk_R hop, nC.i0, b47, ?_, v, nC.r3, ⟨ty, L, hv', by rw [i', v1, b51], by rw [i', v2, b50], fun q => ?_⟩, fun e => ?_⟩))⟩, hnW⟩
  · obtain ⟨n, l, -, n2, n3⟩ := hwd
    exact ⟨n, l, n2, by rw [nC.l1, b52]; exact n3⟩
  · rw [b51] at q
    have h4 := k4 q
    obtain ⟨M, m1, m2, m3, m4, m5⟩ := tk_q (bf := bf) t2 (show (at_ bf z j).1 = 4 by omega)
    obtain ⟨l1, l2⟩ := v3 h4
    have m2 : (at_ bf z j).2.2.2 = nI M := m2
    have hL5 := hv.2.2.2.2.1
    have eLM : L = M := (nI_eq (by omega) (by omega)).mp (l1.symm.trans m2)
    refine ⟨2120 * bk + (qp bf z j + 1), b48 h4, by omega, fun k hk => ?_⟩
    rw [a', l2 k hk]
    have := m5 k (by omega)
    have h9 := h46 (qp bf z j + 1 + k) (by omega) (by omega)
    rw [show 2120 * bk + (qp bf z j + 1) + k = 2120 * bk + (qp bf z j + 1 + k) from by omega]
    exact h9
  · have h39 : K1 = 39 := by
      unfold opk at e
      split at e
      · omega
      · split at e <;> omega
    rw [nC.i2]
    exact h49 h39
theorem L_cmp (ht : tC bf z c) (h : rA bf z bk nr nm i cn σ) (h61 : σ.1 61 = nI dp) (hi : i ≤ c) (hk : kt bf z i = 2) (d : Nat) : OUTC G cx bf z c bk nr ra nm d 2 14 8 100 i cn dp σ (fun Q => ∀ rc0 rc1 rc2, wpb_X12_one rc0 rc1 rc2 Q σ) (fun post m n S => ∀ rc0 rc1 p1, wpb_X5_readOne post G m n rc0 rc1 S (cx 0) p1) := by
  have hlt := ht.lt hi (by omega)
  have hbk := h.2.2.1.2.2
  have hcn := h.2.2.2.2.1.2.1
  have hqz := ht.le i hi
  have hz := ht.1
  have h1b := ht.one hlt
  have hqz1 := ht.le (i + 1) (by omega)
  have d1 := ht.2.2.1
  have hK91 := ht.K39 (i := i + 1) hlt
  obtain ⟨σa, a1, a2, a3⟩ := r_nx ht h hlt
  have hwd := h.wd ht hi (Or.inl hk)
  -- where the reference goes
  have rgo : ∀ Q : Int32 → rf_S → Prop, (((11 ≤ kt bf z (i + 1) ∧ kt bf z (i + 1) ≤ 16) ∨ 38 ≤ kt bf z (i + 1)) → w_X12_compared_125 Q σa (σ.2.1 58) (nI (opk (kt bf z (i + 1))))) → (¬ ((11 ≤ kt bf z (i + 1) ∧ kt bf z (i + 1) ≤ 16) ∨ 38 ≤ kt bf z (i + 1)) → w_X12_compared_125 Q σa (σ.2.1 58) (-1)) → ∀ rc0 rc1 rc2, wpb_X12_one rc0 rc1 rc2 Q σ := by
    intro Q g1 g2 rc0 rc1 rc2
    exact r_one ht h hi (fun q => by omega) (fun q => by omega) (fun q => by omega) (fun q => by omega) (fun _ => a3 _ (r_op ht a2 hlt g1 g2)) (fun _ _ _ _ _ q => absurd hk q)
  -- where the class goes
  have cgo : ∀ (S : cs_S) (post : Option Nat → cs_S → Prop), pA G cx bf z c nr ra nm i S → wp_X5_readFieldTest post G 3 35 S (cx 0) → ∀ rc0 rc1 p1, wpb_X5_readOne post G 3 35 rc0 rc1 S (cx 0) p1 := by
    intro S post hA g rc0 rc1 p1
    exact c_one ht hA (fun _ => g) (fun q => by omega) (fun q => by omega) (fun q => by omega) (fun q => absurd hk q)
  by_cases hop : (11 ≤ kt bf z (i + 1) ∧ kt bf z (i + 1) ≤ 16) ∨ 38 ≤ kt bf z (i + 1)
  · have hlt1 := ht.lt (i := i + 1) hlt (by omega)
    have h1c := ht.one hlt1
    have hqz2 := ht.le (i + 1 + 1) (by omega)
    obtain ⟨σb, b1, b2, b3⟩ := r_nx ht a2 hlt1
    have hK92 := ht.K39 (i := i + 1 + 1) hlt1
    have ho : 6 ≤ opk (kt bf z (i + 1)) ∧ opk (kt bf z (i + 1)) ≤ 13 := by unfold opk; split <;> (try split) <;> omega
    by_cases hg : gdV (kt bf z (i + 1)) (kt bf z (i + 1 + 1))
    · have hlt2 := ht.lt (i := i + 1 + 1) hlt1 (by have := hg.1; omega)
      have h1d := ht.one hlt2
      have hqz3 := ht.le (i + 1 + 1 + 1) (by omega)
      obtain ⟨σ1, e1, e2, e3, e47, e52, e51, e50, e48, e9⟩ := r_cnode ht b2 hlt2 (by omega) hg.1 hg.2.1 ho.1 ho.2 (σ.2.1 58)
      have e61 : σ1.1 61 = nI dp := by rw [e3, b1.1 61 (by decide) (by decide) (by decide) (by decide) (by decide), a1.1 61 (by decide) (by decide) (by decide) (by decide) (by decide)]; exact h61
      have h46 := e2.2.2.2.2.2.2
      have pf1 : pF bk cn σ σ1 := (a1.pf.trans b1.pf (Nat.le_refl _)).trans e1 (Nat.le_refl _)
      by_cases h39 : kt bf z (i + 1) = 39
      · -- in: the bits
        have o7 : opk (kt bf z (i + 1)) = 7 := by rw [h39]; rfl
        have k5 : kt bf z (i + 1 + 1) = 5 := hg.2.2.2.2 h39
        have w39 : (39 : Int32) = nI 39 := rfl
        -- the class up to the bits
        have cpre : ∀ (S : cs_S) (post : Option Nat → cs_S → Prop), pA G cx bf z c nr ra nm i S → (∀ S1 v ty L, pA G cx bf z c nr ra nm (i + 1 + 1 + 1) S1 → fX (pE (cx 0)) S S1 → cvW S1 v ty L → cs_i S1 1000 v = vso (kt bf z (i + 1 + 1)) → cs_i S1 1001 v = (at_ bf z (i + 1 + 1)).2.2.2 → wp_X5_skip (fun S109 => cs_k S109 (cx 0) = 7 ∧ wp_X5_readNumber (fun r111 S111 => w_X5_readFieldTest_227 post G 3 35 S111 (0 + 2) (0 + 28) (at_ bf z i).2.2.1 (nI 39) r111 (some v)) G S109 (cx 0) 0 32) G S1 (cx 0) 10) → wp_X5_readFieldTest post G 3 35 S (cx 0) := by
          intro S post hA g
          refine c_field ht hA hk (fun q => by omega) (fun q => by omega) (fun q => by omega) (fun q => by omega) (fun _ S60 h60 f60 => c_step ht h60 hlt1 (fun S64 h64 f64 => ⟨h64.1.1.1, 2, 28, by omega, by omega, c_value (w := 5) ht h64 (by decide) (by omega) (by omega) (fun q1 q2 q3 S1 v ty L g1 g2 g3 g4 g5 g6 g7 => ⟨g1.1.1.1, ?_⟩) (fun q => absurd ⟨k5, by decide, by decide⟩ q)⟩))
          rw [h60.2.2.2.2, h39]
          rw [← k5] at g5
          exact g S1 v ty L g1 ((f60.trans f64).trans g2) g4 g5 g6
        by_cases hs : kt bf z (i + 1 + 1 + 1) = 10
        · have hlt3 := ht.lt (i := i + 1 + 1 + 1) hlt2 (by omega)
          have h1e := ht.one hlt3
          have hqz4 := ht.le (i + 1 + 1 + 1 + 1) (by omega)
          obtain ⟨σd, f1, f2, f3⟩ := (r_musts ht e2 hlt2 (K := 10) (by decide) (by decide)).1 hs
          by_cases hn : okN bf z (i + 1 + 1 + 1 + 1) 0 32
          · have hlt4 := ht.lt (i := i + 1 + 1 + 1 + 1) hlt3 (by have := hn.1; omega)
            have h1f := ht.one hlt4
            have hqz5 := ht.le (i + 1 + 1 + 1 + 1 + 1) (by omega)
            obtain ⟨σe, g1, g2, g3, g4, g5, g6⟩ := (r_num2 ht f2 hlt3 (x := 0) (y := 32)).1 hn
            obtain ⟨b, hb32, hbe⟩ := nI_of2 (n := 32) (by decide) hn.2.1 hn.2.2
            have re : σe.2.2 = σ1.2.2 := g2.trans f1.2.2
            have r47 : σe.2.2.1 47 (1100 * bk + cn) = nI 7 := by rw [re, e47, o7]
            have eC : (nI (1100 * bk + cn)).toNatClampNeg = 1100 * bk + cn := nI_clamp (by omega)
            have hf : rA bf z bk nr nm (i + 1 + 1 + 1 + 1 + 1) (cn + 1) (rf_ua σe 49 (1100 * bk + cn) (σe.1 60)) := g3.u49 (by rw [r47]; exact ⟨by decide, by decide⟩)
            have pe : pF bk cn σ (rf_ua σe 49 (1100 * bk + cn) (σe.1 60)) := ((pf1.trans f1.pf (Nat.le_refl _)).trans g1 (Nat.le_succ _)).ua (by omega) (by omega) (by omega)
            have q0 : ∀ k, k ≠ 49 → (rf_ua σe 49 (1100 * bk + cn) (σe.1 60)).2.2.1 k = σ1.2.2.1 k := fun k hk => funext fun j => by rw [r3ua, if_neg (fun q => hk q.1), re]
            refine ⟨nI (1100 * bk + cn), rf_ua σe 49 (1100 * bk + cn) (σe.1 60), 3, 35, pe, fun Q hQ => rgo Q (fun _ => r_125 ht b2 hlt1 b3 hop hK91 (fun _ => e9 Q (fun _ => f3 _ ⟨fun q => absurd q (by decide), fun _ => g6 _ ⟨fun _ => ⟨nI_in (N := 2200) (by omega) (by decide), by rw [eC]; exact hQ⟩, fun q => absurd q (by decide)⟩⟩) (fun q => absurd o7 q)) (fun q => absurd hg q)) (fun q => absurd hop q), Or.inl ⟨i + 1 + 1 + 1 + 1 + 1, cn + 1, 1100 * bk + cn, rfl, by omega, hlt4, by omega, hf, ?_, ⟨by omega, by omega⟩, by omega, by omega, fun S post hA hp => cgo S post hA (cpre S post hA (fun S1 v ty L p1 p2 p3 p4 p5 => c_skip (x := 10) ht p1 (by decide) (by decide) (fun _ S2 s1 s2 => ⟨s1.1.1.1, c_num2 ht s1 (fun _ S3 u1 u2 => ⟨by omega, by omega, by omega, by omega, fun q hq => c_cond ?_⟩) (fun q => absurd hn q)⟩) (fun q => absurd hs q)))⟩⟩
            · show σe.1 61 = nI dp
              rw [g5, f1.1 61 (by decide) (by decide) (by decide) (by decide) (by decide)]; exact e61
            · obtain ⟨v1', i1', -⟩ := p3.fx s2 (pE.nv p1.1.1.1)
              obtain ⟨v2', i2', -⟩ := v1'.fx u2 (pE.nv s1.1.1.1)
              obtain ⟨hlf, hnW⟩ := lf_cmp (S2 := S3) (σ1 := rf_ua σe 49 (1100 * bk + cn) (σe.1 60)) (N := 1100 * bk + cn) (bt := (at_ bf z (i + 1 + 1 + 1 + 1)).2.2.2) ht hlt2 (by omega) (by omega : (11 ≤ 39 ∧ 39 ≤ 16) ∨ 39 = 38 ∨ 39 = 39) (by rw [← h39]; exact hg) (by rw [q0 47 (by decide), e47, o7]; rfl) (by rw [r4ua, re]; exact e52) hwd (by rw [q0 51 (by decide)]; exact e51) (by rw [q0 50 (by decide)]; exact e50) (fun q => by omega) hbk (fun j hj hb => by rw [q0 46 (by decide)]; exact h46 j hj hb) v2' (by rw [i2', i1']; exact p4) (by rw [i2', i1']; exact p5) (fun q => by omega) hq (fun _ => ⟨by rw [r3ua, if_pos ⟨rfl, rfl⟩, g4], b, hb32, by rw [r3ua, if_pos ⟨rfl, rfl⟩, g4, hbe]⟩)
              exact hp _ q (tL d (q, 1100 * bk + cn)) (u1.nc hq) (((p2.trans s2).trans u2).trans (nC.fx hq)) (((p2.trans s2).trans u2).dead hq) nC.k (nC.r (by decide)) (tL.n (x := (q, 1100 * bk + cn)) d) (tL.r (x := (q, 1100 * bk + cn)) d) (tL.l (x := (q, 1100 * bk + cn)) hlf d) (tL.v (x := (q, 1100 * bk + cn)) hnW d)
          · refine ⟨-1, rB σd (bdN bf z (i + 1 + 1 + 1 + 1)) (fpl bf z (i + 1 + 1 + 1 + 1)), 3, 35, (pf1.trans f1.pf (Nat.le_refl _)).trans rB.f (Nat.le_refl _), fun Q hQ => rgo Q (fun _ => r_125 ht b2 hlt1 b3 hop hK91 (fun _ => e9 Q (fun _ => f3 _ ⟨fun q => absurd q (by decide), fun _ => (r_num2 ht f2 hlt3 (x := 0) (y := 32)).2 hn _ ⟨fun q => absurd rfl q, fun _ => hQ⟩⟩) (fun q => absurd o7 q)) (fun q => absurd hg q)) (fun q => absurd hop q), Or.inr ⟨_, _, rfl, rB.d bdN_0, by omega, by omega, fun S post hA hp => cgo S post hA (cpre S post hA (fun S1 v ty L p1 p2 p3 p4 p5 => c_skip (x := 10) ht p1 (by decide) (by decide) (fun _ S2 s1 s2 => ⟨s1.1.1.1, c_num2 ht s1 (fun q => absurd q hn) (fun _ S3 u1 u2 => ⟨by omega, by omega, by omega, by omega, fun q hq => c_cond (hp _ (some q) (u1.nc hq) (((p2.trans s2).trans u2).trans (nC.fx hq)) (fun b eb => by cases eb; exact nC.k))⟩)⟩) (fun q => absurd hs q)))⟩⟩
        · refine ⟨-1, rB σ1 (fk2 bf z (i + 1 + 1 + 1)) (fpl bf z (i + 1 + 1 + 1)), 3, 35, pf1.trans rB.f (Nat.le_refl _), fun Q hQ => rgo Q (fun _ => r_125 ht b2 hlt1 b3 hop hK91 (fun _ => e9 Q (fun _ => (r_musts ht e2 hlt2 (K := 10) (by decide) (by decide)).2 hs _ ⟨fun _ => hQ, fun q => absurd rfl q⟩) (fun q => absurd o7 q)) (fun q => absurd hg q)) (fun q => absurd hop q), Or.inr ⟨_, _, rfl, rB.d fk2_0, by omega, by omega, fun S post hA hp => cgo S post hA (cpre S post hA (fun S1 v ty L p1 p2 p3 p4 p5 => c_skip (x := 10) ht p1 (by decide) (by decide) (fun q => absurd q hs) (fun _ S2 s1 s2 => ⟨s1.1.1.1, d_number s1 ⟨by omega, by omega, by omega, by omega, fun q hq => c_cond (hp _ (some q) (s1.nc hq) ((p2.trans s2).trans (nC.fx hq)) (fun b eb => by cases eb; exact nC.k))⟩⟩)))⟩⟩
      · -- all others
        have n7 : ¬ opk (kt bf z (i + 1)) = 7 := by
          unfold opk
          split
          · decide
          · omega
        refine ⟨nI (1100 * bk + cn), σ1, 3, 35, pf1, fun Q hQ => rgo Q (fun _ => r_125 ht b2 hlt1 b3 hop hK91 (fun _ => e9 Q (fun q => absurd q n7) (fun _ => hQ)) (fun q => absurd hg q)) (fun q => absurd hop q), Or.inl ⟨i + 1 + 1 + 1, cn + 1, 1100 * bk + cn, rfl, by omega, hlt2, by omega, e2, e61, ⟨by omega, by omega⟩, by omega, by omega, fun S post hA hp => cgo S post hA ?_⟩⟩
        have fin : ∀ S60, pA G cx bf z c nr ra nm (i + 1) S60 → fX (pE (cx 0)) S S60 → ∀ S1 v ty L q, pA G cx bf z c nr ra nm (i + 1 + 1 + 1) S1 → fX (pE (cx 0)) S60 S1 → cvW S1 v ty L → cs_i S1 1000 v = vso (kt bf z (i + 1 + 1)) → cs_i S1 1001 v = (at_ bf z (i + 1 + 1)).2.2.2 → (kt bf z (i + 1 + 1) = 4 → (at_ bf z (i + 1 + 1)).2.2.2 = nI L ∧ ∀ k, k < L → cs_ai S1 ty k = nI (bf (qp bf z (i + 1 + 1) + 1 + k))) → cs_k S1 q = 0 → post (some q) (nC S1 q (cs_i S60 606 (cx 0)) (at_ bf z i).2.2.1 0 (some v)) := by
          intro S60 h60 f60 S1 v ty L q g1 g2 g3 g4 g5 g6 hq
          rw [h60.2.2.2.2]
          obtain ⟨hlf, hnW⟩ := lf_cmp (S2 := S1) (bt := 0) ht hlt2 (by omega) (by omega : (11 ≤ kt bf z (i + 1) ∧ kt bf z (i + 1) ≤ 16) ∨ kt bf z (i + 1) = 38 ∨ kt bf z (i + 1) = 39) hg e47 e52 hwd e51 e50 e48 hbk h46 g3 g4 g5 g6 hq (fun q => absurd q h39)
          exact hp _ q (tL d (q, 1100 * bk + cn)) (g1.nc hq) ((f60.trans g2).trans (nC.fx hq)) ((f60.trans g2).dead hq) nC.k (nC.r (by decide)) (tL.n (x := (q, 1100 * bk + cn)) d) (tL.r (x := (q, 1100 * bk + cn)) d) (tL.l (x := (q, 1100 * bk + cn)) hlf d) (tL.v (x := (q, 1100 * bk + cn)) hnW d)
        refine c_field ht hA hk (fun q => by omega) (fun q S60 h60 f60 => c_cv (w := fun x => x) ht h60 (by omega) (fun K2 hK2 => ⟨K2, hK2, rfl, ⟨fun w => ⟨w.2.1, w.2.2, fun e => by omega, fun e => by omega, fun e => by omega⟩, fun w => ⟨rfl, w.1, w.2.1⟩⟩⟩) (fun _ => fin S60 h60 f60) (fun q => absurd hg q)) (fun q S60 h60 f60 => c_cv (w := fun _ => 3) ht h60 (by omega) (fun K2 hK2 => ⟨3, by decide, rfl, ⟨fun w => ⟨by omega, by omega, fun e => by omega, fun e => by omega, fun e => by omega⟩, fun w => ⟨w.2.2.1 (by omega), by decide, by decide⟩⟩⟩) (fun _ => fin S60 h60 f60) (fun q => absurd hg q)) (fun q S60 h60 f60 => c_cv (w := fun _ => 4) ht h60 (by omega) (fun K2 hK2 => ⟨4, by decide, rfl, ⟨fun w => ⟨by omega, by omega, fun e => by omega, fun e => by omega, fun e => by omega⟩, fun w => ⟨w.2.2.2.1 (by omega), by decide, by decide⟩⟩⟩) (fun _ => fin S60 h60 f60) (fun q => absurd hg q)) (fun q => absurd q h39)
    · -- the value doesn't fit
      refine ⟨-1, rB σb (fk2 bf z (i + 1 + 1)) (fpl bf z (i + 1 + 1)), 3, 35, (a1.pf.trans b1.pf (Nat.le_refl _)).trans rB.f (Nat.le_refl _), fun Q hQ => rgo Q (fun _ => r_125 ht b2 hlt1 b3 hop hK91 (fun q => absurd q hg) (fun _ => hQ)) (fun q => absurd hop q), Or.inr ⟨_, _, rfl, rB.d fk2_0, by omega, by omega, fun S post hA hp => cgo S post hA ?_⟩⟩
      have fin : ∀ S60, pA G cx bf z c nr ra nm (i + 1) S60 → fX (pE (cx 0)) S S60 → ∀ S1 q, pQ G cx bf z c nr ra nm (fk2 bf z (i + 1 + 1)) (fpl bf z (i + 1 + 1)) S1 → fX (pE (cx 0)) S60 S1 → cs_k S1 q = 0 → post (some q) (nC S1 q (cs_i S60 606 (cx 0)) (at_ bf z i).2.2.1 0 none) := fun S60 h60 f60 S1 q g1 g2 hq => hp _ (some q) (g1.nc hq) ((f60.trans g2).trans (nC.fx hq)) (fun b eb => by cases eb; exact nC.k)
      refine c_field ht hA hk (fun q => by omega) (fun q S60 h60 f60 => c_cv (w := fun x => x) ht h60 (by omega) (fun K2 hK2 => ⟨K2, hK2, rfl, ⟨fun w => ⟨w.2.1, w.2.2, fun e => by omega, fun e => by omega, fun e => by omega⟩, fun w => ⟨rfl, w.1, w.2.1⟩⟩⟩) (fun q => absurd q hg) (fun _ => fin S60 h60 f60)) (fun q S60 h60 f60 => c_cv (w := fun _ => 3) ht h60 (by omega) (fun K2 hK2 => ⟨3, by decide, rfl, ⟨fun w => ⟨by omega, by omega, fun e => by omega, fun e => by omega, fun e => by omega⟩, fun w => ⟨w.2.2.1 (by omega), by decide, by decide⟩⟩⟩) (fun q => absurd q hg) (fun _ => fin S60 h60 f60)) (fun q S60 h60 f60 => c_cv (w := fun _ => 4) ht h60 (by omega) (fun K2 hK2 => ⟨4, by decide, rfl, ⟨fun w => ⟨by omega, by omega, fun e => by omega, fun e => by omega, fun e => by omega⟩, fun w => ⟨w.2.2.2.1 (by omega), by decide, by decide⟩⟩⟩) (fun q => absurd q hg) (fun _ => fin S60 h60 f60)) (fun q S60 h60 f60 => c_step ht h60 hlt1 (fun S64 h64 f64 => ⟨h64.1.1.1, 2, 28, by omega, by omega, c_value (w := 5) ht h64 (by decide) (by omega) (by omega) (fun q1 _ _ => absurd ⟨by omega, by omega, fun e => by omega, fun e => by omega, fun _ => q1⟩ hg) (fun _ S1 g1 g2 => ⟨g1.1.1.1, d_skip (x := 10) g1 (by decide) (by decide) ⟨g1.1.1.1, d_number g1 ⟨by omega, by omega, by omega, by omega, fun q hq => c_cond (hp _ (some q) (pQ.nc g1 hq) (((f60.trans f64).trans g2).trans (nC.fx hq)) (fun b eb => by cases eb; exact nC.k))⟩⟩⟩)⟩))
  · -- no comparison
    refine ⟨-1, rB σa (fk2 bf z (i + 1)) (fpl bf z (i + 1)), 3, 35, a1.pf.trans rB.f (Nat.le_refl _), fun Q hQ => rgo Q (fun q => absurd q hop) (fun _ => ⟨fun q => absurd q (by decide), fun _ => r_cant ht a2 hlt ⟨fun _ => hQ, fun q => absurd rfl q⟩⟩), Or.inr ⟨_, _, rfl, rB.d fk2_0, by omega, by omega, fun S post hA hp => cgo S post hA (c_field ht hA hk (fun _ S60 h60 f60 => c_fail ht h60 (by decide) (fun S1 g1 g2 => ⟨by omega, by omega, by omega, by omega, fun q hq => c_cond (hp _ (some q) (pQ.nc g1 hq) ((f60.trans g2).trans (nC.fx hq)) (fun b eb => by cases eb; exact nC.k))⟩)) (fun q => by omega) (fun q => by omega) (fun q => by omega) (fun q => by omega))⟩⟩
end CM3
