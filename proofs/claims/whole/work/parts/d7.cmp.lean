/-! ===== comparisons in a text of rules ===== -/
section CMP
variable {G cx : Nat → Nat} {bf : Nat → Nat} {z c bk nr i cn : Nat} {ra : Nat → Nat} {nm : Nat → Int64} {σ : rf_S} {S : cs_S} {post : Option Nat → cs_S → Prop} {mc ms : Nat}
/-- where readFieldTest goes -/
theorem c_field (ht : tC bf z c) (h : pA G cx bf z c nr ra nm i S) (hk : kt bf z i = 2)
    (hno : (kt bf z (i + 1) < 11 ∨ (16 < kt bf z (i + 1) ∧ kt bf z (i + 1) < 38)) → ∀ S60, pA G cx bf z c nr ra nm (i + 1) S60 → fX (pE (cx 0)) S S60 → wp_X5_fail (fun S63 => w_X5_readFieldTest_227 post G mc ms S63 0 0 (at_ bf z i).2.2.1 (cs_i S60 606 (cx 0)) 0 none) G S60 (cx 0) 2)
    (h1 : (kt bf z (i + 1) = 11 ∨ kt bf z (i + 1) = 12) → ∀ S60, pA G cx bf z c nr ra nm (i + 1) S60 → fX (pE (cx 0)) S S60 → wp_X5_step (fun S64 => cs_k S64 (cx 0) = 7 ∧ ∃ m66 n66, 0 + m66 ≤ mc ∧ 0 + n66 ≤ ms ∧ wp_X5_readValue (fun r66 S66 => w_X5_readFieldTest_227 post G mc ms S66 (0 + m66) (0 + n66) (at_ bf z i).2.2.1 (cs_i S60 606 (cx 0)) 0 r66) G m66 n66 S64 (cx 0) (cs_i S64 606 (cx 0))) G S60 (cx 0))
    (h2 : (13 ≤ kt bf z (i + 1) ∧ kt bf z (i + 1) ≤ 16) → ∀ S60, pA G cx bf z c nr ra nm (i + 1) S60 → fX (pE (cx 0)) S S60 → wp_X5_step (fun S64 => cs_k S64 (cx 0) = 7 ∧ ∃ m66 n66, 0 + m66 ≤ mc ∧ 0 + n66 ≤ ms ∧ wp_X5_readValue (fun r66 S66 => w_X5_readFieldTest_227 post G mc ms S66 (0 + m66) (0 + n66) (at_ bf z i).2.2.1 (cs_i S60 606 (cx 0)) 0 r66) G m66 n66 S64 (cx 0) 3) G S60 (cx 0))
    (h3 : kt bf z (i + 1) = 38 → ∀ S60, pA G cx bf z c nr ra nm (i + 1) S60 → fX (pE (cx 0)) S S60 → wp_X5_step (fun S64 => cs_k S64 (cx 0) = 7 ∧ ∃ m66 n66, 0 + m66 ≤ mc ∧ 0 + n66 ≤ ms ∧ wp_X5_readValue (fun r66 S66 => w_X5_readFieldTest_227 post G mc ms S66 (0 + m66) (0 + n66) (at_ bf z i).2.2.1 (cs_i S60 606 (cx 0)) 0 r66) G m66 n66 S64 (cx 0) 4) G S60 (cx 0))
    (h4 : kt bf z (i + 1) = 39 → ∀ S60, pA G cx bf z c nr ra nm (i + 1) S60 → fX (pE (cx 0)) S S60 → wp_X5_step (fun S106 => cs_k S106 (cx 0) = 7 ∧ ∃ m107 n107, 0 + m107 ≤ mc ∧ 0 + n107 ≤ ms ∧ wp_X5_readValue (fun r107 S107 => cs_k S107 (cx 0) = 7 ∧ wp_X5_skip (fun S109 => cs_k S109 (cx 0) = 7 ∧ wp_X5_readNumber (fun r111 S111 => w_X5_readFieldTest_227 post G mc ms S111 (0 + m107) (0 + n107) (at_ bf z i).2.2.1 (cs_i S60 606 (cx 0)) r111 r107) G S109 (cx 0) 0 32) G S107 (cx 0) 10) G m107 n107 S106 (cx 0) 5) G S60 (cx 0)) : wp_X5_readFieldTest post G mc ms S (cx 0) := by
  refine ⟨h.1.1.1, c_name ht h (fun _ S60 h60 f60 => ?_) (fun q => absurd hk q)⟩
  have hK9 := ht.K39 h60.2.1
  have eI : (cs_i S60 606 (cx 0)).toInt = (kt bf z (i + 1) : Int) := by rw [h60.2.2.2.2]; exact nI_toInt (by omega)
  exact ⟨h60.1.1.1, fun q => hno (by omega) S60 h60 f60, fun q => h1 (by omega) S60 h60 f60, fun q => h1 (by omega) S60 h60 f60, fun q => h2 (by omega) S60 h60 f60, fun q => h2 (by omega) S60 h60 f60, fun q => h2 (by omega) S60 h60 f60, fun q => h2 (by omega) S60 h60 f60, fun q => hno (by omega) S60 h60 f60, fun q => hno (by omega) S60 h60 f60, fun q => hno (by omega) S60 h60 f60, fun q => hno (by omega) S60 h60 f60, fun q => hno (by omega) S60 h60 f60, fun q => hno (by omega) S60 h60 f60, fun q => hno (by omega) S60 h60 f60, fun q => hno (by omega) S60 h60 f60, fun q => hno (by omega) S60 h60 f60, fun q => hno (by omega) S60 h60 f60, fun q => hno (by omega) S60 h60 f60, fun q => hno (by omega) S60 h60 f60, fun q => hno (by omega) S60 h60 f60, fun q => hno (by omega) S60 h60 f60, fun q => hno (by omega) S60 h60 f60, fun q => hno (by omega) S60 h60 f60, fun q => hno (by omega) S60 h60 f60, fun q => hno (by omega) S60 h60 f60, fun q => hno (by omega) S60 h60 f60, fun q => hno (by omega) S60 h60 f60, fun q => hno (by omega) S60 h60 f60, fun q => h3 (by omega) S60 h60 f60, fun q => h4 (by omega) S60 h60 f60⟩
/-- which comparison -/
def opk (K : Nat) : Nat := if K = 38 then 6 else if K = 39 then 7 else K - 3
theorem r_op (ht : tC bf z c) (h : rA bf z bk nr nm i cn σ) (hi : i ≤ c) {Q : Int32 → rf_S → Prop} {f : Int64} (hy : ((11 ≤ kt bf z i ∧ kt bf z i ≤ 16) ∨ 38 ≤ kt bf z i) → w_X12_compared_125 Q σ f (nI (opk (kt bf z i)))) (hn : ¬ ((11 ≤ kt bf z i ∧ kt bf z i ≤ 16) ∨ 38 ≤ kt bf z i) → w_X12_compared_125 Q σ f (-1)) : wp_X12_isWord (fun r29 σ29 => (r29 = 0 → wp_X12_isWord (fun r30 σ30 => (r30 = 0 → wp_X12_isSign (fun r31 σ31 => (r31 = 0 → wp_X12_isSign (fun r32 σ32 => (r32 = 0 → wp_X12_isSign (fun r33 σ33 => (r33 = 0 → wp_X12_isSign (fun r34 σ34 => (r34 = 0 → wp_X12_isSign (fun r35 σ35 => (r35 = 0 → wp_X12_isSign (fun r36 σ36 => (r36 = 0 → w_X12_compared_125 Q σ36 f ((-1))) ∧ (¬ r36 = 0 → w_X12_compared_125 Q σ36 f 13)) σ35 318) ∧ (¬ r35 = 0 → w_X12_compared_125 Q σ35 f 12)) σ34 62) ∧ (¬ r34 = 0 → w_X12_compared_125 Q σ34 f 11)) σ33 316) ∧ (¬ r33 = 0 → w_X12_compared_125 Q σ33 f 10)) σ32 60) ∧ (¬ r32 = 0 → w_X12_compared_125 Q σ32 f 9)) σ31 289) ∧ (¬ r31 = 0 → w_X12_compared_125 Q σ31 f 8)) σ30 61) ∧ (¬ r30 = 0 → w_X12_compared_125 Q σ30 f 7)) σ29 19) ∧ (¬ r29 = 0 → w_X12_compared_125 Q σ29 f 6)) σ 18 := by
  have hK9 := ht.K39 hi
  have go : ∀ K o : Nat, kt bf z i = K → opk K = o → ((11 ≤ K ∧ K ≤ 16) ∨ 38 ≤ K) → w_X12_compared_125 Q σ f (nI o) := by
    intro K o e1 e2 e3
    have := hy (by rw [e1]; exact e3)
    rw [e1, e2] at this
    exact this
  refine r_isw (w := 18) ht h hi (by decide) (fun e => ⟨fun q => absurd q (by decide), fun _ => go 38 6 e rfl (by omega)⟩) (fun n1 => ⟨fun _ => ?_, fun q => absurd rfl q⟩)
  refine r_isw (w := 19) ht h hi (by decide) (fun e => ⟨fun q => absurd q (by decide), fun _ => go 39 7 e rfl (by omega)⟩) (fun n2 => ⟨fun _ => ?_, fun q => absurd rfl q⟩)
  refine r_iss (K := 11) ht h hi (by decide) (by decide) (fun e => ⟨fun q => absurd q (by decide), fun _ => go 11 8 e rfl (by omega)⟩) (fun n11 => ⟨fun _ => ?_, fun q => absurd rfl q⟩)
  refine r_iss (K := 12) ht h hi (by decide) (by decide) (fun e => ⟨fun q => absurd q (by decide), fun _ => go 12 9 e rfl (by omega)⟩) (fun n12 => ⟨fun _ => ?_, fun q => absurd rfl q⟩)
  refine r_iss (K := 13) ht h hi (by decide) (by decide) (fun e => ⟨fun q => absurd q (by decide), fun _ => go 13 10 e rfl (by omega)⟩) (fun n13 => ⟨fun _ => ?_, fun q => absurd rfl q⟩)
  refine r_iss (K := 14) ht h hi (by decide) (by decide) (fun e => ⟨fun q => absurd q (by decide), fun _ => go 14 11 e rfl (by omega)⟩) (fun n14 => ⟨fun _ => ?_, fun q => absurd rfl q⟩)
  refine r_iss (K := 15) ht h hi (by decide) (by decide) (fun e => ⟨fun q => absurd q (by decide), fun _ => go 15 12 e rfl (by omega)⟩) (fun n15 => ⟨fun _ => ?_, fun q => absurd rfl q⟩)
  refine r_iss (K := 16) ht h hi (by decide) (by decide) (fun e => ⟨fun q => absurd q (by decide), fun _ => go 16 13 e rfl (by omega)⟩) (fun n16 => ⟨fun _ => ?_, fun q => absurd rfl q⟩)
  exact hn (by omega)
/-- the node of a comparison -/
theorem r_cnode (ht : tC bf z c) (h : rA bf z bk nr nm i cn σ) (hi : i < c) (hq : 2 * (cn + 1) ≤ qp bf z i) (k1 : 3 ≤ kt bf z i) (k2 : kt bf z i ≤ 5) {o : Nat} (ho1 : 6 ≤ o) (ho2 : o ≤ 13) (f : Int64) : ∃ σ1, pF bk cn σ σ1 ∧ rA bf z bk nr nm (i + 1) (cn + 1) σ1 ∧ σ1.1 61 = σ.1 61 ∧ σ1.2.2.1 47 (1100 * bk + cn) = nI o ∧ σ1.2.2.2 52 (1100 * bk + cn) = f ∧ σ1.2.2.1 51 (1100 * bk + cn) = vso (kt bf z i) ∧ σ1.2.2.1 50 (1100 * bk + cn) = (at_ bf z i).2.2.2 ∧ (kt bf z i = 4 → σ1.2.2.1 48 (1100 * bk + cn) = nI (2120 * bk + (qp bf z i + 1))) ∧ ∀ Q : Int32 → rf_S → Prop, (o = 7 → wp_X12_mustSign (fun r20 σ20 => (r20 = 0 → w_X12_compared_362 Q σ20) ∧ (¬ r20 = 0 → wp_X12_mustNumber (fun r21 σ21 => (¬ r21 = 0 → vp_in (nI (1100 * bk + cn)) (rf_n 49) ∧ Q (nI (1100 * bk + cn)) (rf_ua σ21 49 (nI (1100 * bk + cn)).toNatClampNeg (σ21.1 60))) ∧ (r21 = 0 → w_X12_compared_362 Q σ21)) σ20 0 32)) σ1 47) → (¬ o = 7 → Q (nI (1100 * bk + cn)) σ1) → w_X12_compared_222 Q σ f (nI o) 1 := by
  have hz := ht.1
  have hqz := ht.le i (by omega)
  have hbk := h.2.2.1.2.2
  obtain ⟨t1, t2, t3, -⟩ := ht.ti hi
  have e56 : σ.1 56 = (at_ bf z i).2.2.2 := h.n56 ht (by omega) (by omega) (by omega)
  have h54 : σ.1 54 = rC (kt bf z i) := h.2.1.1
  have h32 : σ.1 32 = nI bk := h.2.2.1.2.1
  have e57 : kt bf z i = 4 → σ.1 57 = nI (qp bf z i + 1) := fun e => (h.2.1.2.2 (by show 2 ≤ kt bf z i; omega)).2.2.2 e
  generalize hN0 : 1100 * bk + cn = N
  generalize hlf : (if kt bf z i = 4 then nI (2120 * bk + (qp bf z i + 1)) else -1) = lf
  have hA : rA bf z bk nr nm i (cn + 1) (rf_ua (rf_ua (rf_ua (rf_ub (nD σ N (nI o) (-1) (-1)) 52 N f) 51 N (vso (kt bf z i))) 50 N (σ.1 56)) 48 N lf) := by
    have r47 : (rf_ua (rf_ua (rf_ua (rf_ub (nD σ N (nI o) (-1) (-1)) 52 N f) 51 N (vso (kt bf z i))) 50 N (σ.1 56)) 48 N lf).2.2.1 47 N = nI o := by
      rw [r3ua, if_neg (fun q => absurd q.1 (by decide)), r3ua, if_neg (fun q => absurd q.1 (by decide)), r3ua, if_neg (fun q => absurd q.1 (by decide)), r3ub]
      exact nD47
    refine h.nd hq (fun k hk => nDi (σ := σ) (N := N) (o := nI o) (a := -1) (b := -1) hk) ?_ rfl (fun k j hkj => ?_) (fun k j hkj => ?_) ⟨fun q => ?_, fun q => ?_⟩ (fun _ q => ?_)
    · have := nDi53 (σ := σ) (N := N) (o := nI o) (a := -1) (b := -1)
      rw [show 1100 * bk + (cn + 1) = N + 1 from by omega]
      exact this
    · rw [hN0] at hkj
      rw [r3ua, if_neg (by omega), r3ua, if_neg (by omega), r3ua, if_neg (by omega), r3ub]
      exact nDr (by omega)
    · rw [hN0] at hkj
      rw [r4ua, r4ua, r4ua, r4ub, if_neg hkj]
      rfl
    · rw [hN0, r47] at q
      rcases q with q | q
      · exact absurd ((nI_eq (b := 0) (by omega) (by decide)).mp q) (by omega)
      · exact absurd ((nI_eq (b := 1) (by omega) (by decide)).mp q) (by omega)
    · rw [hN0, r47] at q
      exact absurd ((nI_eq (b := 2) (by omega) (by decide)).mp q) (by omega)
    · rw [hN0] at q ⊢
      rw [r3ua, if_neg (fun q => absurd q.1 (by decide)), r3ua, if_neg (fun q => absurd q.1 (by decide)), r3ua, if_pos ⟨rfl, rfl⟩] at q
      have k4 : kt bf z i = 4 := by
        unfold vso at q
        by_cases e : kt bf z i = 4
        · exact e
        · rw [if_neg e] at q
          split at q <;> exact absurd q (by decide)
      obtain ⟨L, l1, l2, l3, l4, l5⟩ := tk_q (bf := bf) t2 (show (at_ bf z i).1 = 4 by omega)
      refine ⟨2120 * bk + (qp bf z i + 1), L, ?_, ?_, by omega, by omega⟩
      · rw [r3ua, if_pos ⟨rfl, rfl⟩, ← hlf, if_pos k4]
      · rw [r3ua, if_neg (fun q => absurd q.1 (by decide)), r3ua, if_pos ⟨rfl, rfl⟩, e56]
        exact l2
  obtain ⟨σ1, g1, g2, g3⟩ := r_nx ht hA hi
  have hin : vp_in (nI N) 2200 := nI_in (by omega) (by decide)
  have pf : pF bk cn σ (rf_ua (rf_ua (rf_ua (rf_ub (nD σ N (nI o) (-1) (-1)) 52 N f) 51 N (vso (kt bf z i))) 50 N (σ.1 56)) 48 N lf) := by
    rw [← hN0]
    exact ((((nD.pf (by omega)).ub (by omega) (by omega)).ua (by omega) (by omega) (by omega)).ua (by omega) (by omega) (by omega)).ua (by omega) (by omega) (by omega)
  refine ⟨σ1, pf.trans g1.pf (Nat.le_refl _), g2, ?_, ?_, ?_, ?_, ?_, fun k4 => ?_, fun Q h7 hn7 => ⟨fun _ => r_node h (by omega) ?_, fun q => absurd q (by decide)⟩⟩
  · rw [g1.1 61 (by decide) (by decide) (by decide) (by decide) (by decide)]
    exact nDi (σ := σ) (N := N) (o := nI o) (a := -1) (b := -1) (k := 61) (by decide)
  · rw [g1.2.2, r3ua, if_neg (fun q => absurd q.1 (by decide)), r3ua, if_neg (fun q => absurd q.1 (by decide)), r3ua, if_neg (fun q => absurd q.1 (by decide)), r3ub]
    exact nD47
  · rw [g1.2.2, r4ua, r4ua, r4ua, r4ub, if_pos ⟨rfl, rfl⟩]
  · rw [g1.2.2, r3ua, if_neg (fun q => absurd q.1 (by decide)), r3ua, if_neg (fun q => absurd q.1 (by decide)), r3ua, if_pos ⟨rfl, rfl⟩]
  · rw [g1.2.2, r3ua, if_neg (fun q => absurd q.1 (by decide)), r3ua, if_pos ⟨rfl, rfl⟩, e56]
  · rw [g1.2.2, r3ua, if_pos ⟨rfl, rfl⟩, ← hlf, if_pos k4]
  · rw [hN0]
    have i54 : (nD σ N (nI o) (-1) (-1)).1 54 = rC (kt bf z i) := (nDi (by decide)).trans h54
    have i56 : ∀ y, (rf_ub (nD σ N (nI o) (-1) (-1)) 52 N y).1 56 = σ.1 56 := fun y => nDi (σ := σ) (N := N) (o := nI o) (a := -1) (b := -1) (k := 56) (by decide)
    have eC : (nI N).toNatClampNeg = N := nI_clamp (by omega)
    have fin : w_X12_compared_329 Q (rf_ua (rf_ua (rf_ub (nD σ N (nI o) (-1) (-1)) 52 N f) 51 N (vso (kt bf z i))) 50 N (σ.1 56)) (nI o) (nI N) (nI N) lf := by
      refine ⟨hin, ?_⟩
      rw [eC]
      refine g3 _ ⟨fun q => ?_, fun q => hn7 (fun e => q (by rw [e]; rfl))⟩
      have := h7 ((nI_eq (b := 7) (by omega) (by decide)).mp q)
      rw [eC] at this
      exact this
    have w286 : ∀ y, y = vso (kt bf z i) → w_X12_compared_286 Q (rf_ub (nD σ N (nI o) (-1) (-1)) 52 N f) (nI o) (nI N) (nI N) y := by
      intro y hy
      refine ⟨hin, hin, fun q => ?_, fun q => ?_⟩
      · rw [eC, i56, hy]
        have n4 : ¬ kt bf z i = 4 := fun e => q (by
          show (nD σ N (nI o) (-1) (-1)).1 54 = 3
          rw [i54]; exact (rC_c _).2.2.2.1.mpr e)
        rw [if_neg n4] at hlf
        rw [← hlf] at fin; exact fin
      · rw [eC, i56, hy]
        have k4 : kt bf z i = 4 := (rC_c _).2.2.2.1.mp (by rw [← i54]; exact q)
        have e1 : (2120 * (rf_ub (nD σ N (nI o) (-1) (-1)) 52 N f).1 32) + (rf_ub (nD σ N (nI o) (-1) (-1)) 52 N f).1 57 = lf := by
          have a32 : (rf_ub (nD σ N (nI o) (-1) (-1)) 52 N f).1 32 = nI bk := (nDi (σ := σ) (N := N) (o := nI o) (a := -1) (b := -1) (k := 32) (by decide)).trans h32
          have a57 : (rf_ub (nD σ N (nI o) (-1) (-1)) 52 N f).1 57 = nI (qp bf z i + 1) := (nDi (σ := σ) (N := N) (o := nI o) (a := -1) (b := -1) (k := 57) (by decide)).trans (e57 k4)
          rw [a32, a57, ← hlf, if_pos k4, show (2120 : Int32) = nI 2120 from rfl, nI_mul, nI_add]
        rw [e1]; exact fin
    refine ⟨hin, fun q => ⟨fun q2 => ?_, fun q2 => ?_⟩, fun q => ?_⟩
    · rw [eC]
      refine w286 2 ?_
      rw [i54] at q q2
      unfold vso
      rw [if_neg (fun e => q2 ((rC_c _).2.2.2.1.mpr e)), if_neg (fun e => q ((rC_c _).2.2.1.mpr e))]
    · rw [eC]
      refine w286 1 ?_
      rw [i54] at q2
      unfold vso
      rw [if_pos ((rC_c _).2.2.2.1.mp q2)]
    · rw [eC]
      refine w286 0 ?_
      rw [i54] at q
      have := (rC_c _).2.2.1.mp q
      unfold vso
      rw [if_neg (by omega), if_pos this]
/-- how the bits of in are noted -/
theorem rA.u49 (h : rA bf z bk nr nm i cn σ) {N : Nat} {x : Int32} (h47 : ¬ σ.2.2.1 47 N = 0 ∧ ¬ σ.2.2.1 47 N = 1) : rA bf z bk nr nm i cn (rf_ua σ 49 N x) := by
  obtain ⟨a1, a2, a3, a6, ⟨a7, a8, a9, a10⟩, a11, a14⟩ := h
  refine ⟨⟨a1.1, a1.2.1, a1.2.2.1, fun j hj => by rw [r3ua, if_neg (fun q => absurd q.1 (by decide))]; exact a1.2.2.2 j hj⟩, a2, a3, a6, ⟨a7, a8, fun n hn => ?_, fun n hn => ?_⟩, a11, fun j hj hb => by rw [r3ua, if_neg (fun q => absurd q.1 (by decide))]; exact a14 j hj hb⟩
  · rw [r3ua, if_neg (fun q => absurd q.1 (by decide)), r3ua, if_neg (fun q => absurd q.1 (by decide)), r3ua]
    obtain ⟨g1, g2⟩ := a9 n hn
    refine ⟨fun q => ?_, g2⟩
    rw [if_neg (fun e => by
      rw [e.2] at q
      rcases q with q | q
      · exact h47.1 q
      · exact h47.2 q)]
    exact g1 q
  · rw [r3ua, if_neg (fun q => absurd q.1 (by decide)), r3ua, if_neg (fun q => absurd q.1 (by decide)), r3ua, if_neg (fun q => absurd q.1 (by decide)), r3ua, if_neg (fun q => absurd q.1 (by decide))]
    exact a10 n hn
end CMP
