/-! ===== conditions read on both sides: kind, has, alert ===== -/
def nO (S S1 : cs_S) (a x : Nat) : Prop := cs_k S x = 0 ∧ cs_k S1 x ≠ 0 ∧ x ≠ a
/-- how a part of a text is read on both sides: the reference first, what it costs, then the class -/
def OUTC (G cx : Nat → Nat) (bf : Nat → Nat) (z c bk nr : Nat) (ra : Nat → Nat) (nm : Nat → Int64) (d kc ks bc bs i cn dp : Nat) (σ : rf_S) (RW : (Int32 → rf_S → Prop) → Prop) (CWp : (Option Nat → cs_S → Prop) → Nat → Nat → cs_S → Prop) : Prop :=
  ∃ (r : Int32) (σ1 : rf_S) (m n : Nat), pF bk cn σ σ1 ∧ (∀ Q : Int32 → rf_S → Prop, Q r σ1 → RW Q) ∧
    ((∃ i1 cn1 nd, r = nI nd ∧ i < i1 ∧ i1 ≤ c ∧ (cn ≤ cn1 ∧ 2 * cn1 + qp bf z i ≤ 2 * cn + qp bf z i1) ∧ rA bf z bk nr nm i1 cn1 σ1 ∧ σ1.1 61 = nI dp ∧ inB bk cn1 nd ∧ m + kc + 4 * qp bf z i ≤ 4 * qp bf z i1 ∧ n + ks + 40 * qp bf z i ≤ 40 * qp bf z i1 ∧
        ∀ (S : cs_S) (post : Option Nat → cs_S → Prop), pA G cx bf z c nr ra nm i S → (∀ (S1 : cs_S) (a : Nat) (t : cT d), pA G cx bf z c nr ra nm i1 S1 → fX (pE (cx 0)) S S1 → cs_k S a = 0 → cs_k S1 a = 3 → cs_r S1 206 a = none → cN S1 (nO S S1 a) d a t → rR σ1 d nd t → cLv S1 σ1 d t → rLv σ1 d t → post (some a) S1) → CWp post m n S) ∨
      ∃ fk fp, r = -1 ∧ rD fk fp σ1 ∧ m + 4 * qp bf z i ≤ 4 * z + bc ∧ n + 40 * qp bf z i ≤ 40 * z + bs ∧
        ∀ (S : cs_S) (post : Option Nat → cs_S → Prop), pA G cx bf z c nr ra nm i S → (∀ (S1 : cs_S) (o : Option Nat), pQ G cx bf z c nr ra nm fk fp S1 → fX (pE (cx 0)) S S1 → (∀ b, o = some b → cs_k S1 b = 3) → post o S1) → CWp post m n S)
section WTS
variable {G cx : Nat → Nat} {bf : Nat → Nat} {z c bk nr i cn dp : Nat} {ra : Nat → Nat} {nm : Nat → Int64} {σ : rf_S} {S : cs_S}
/-- where one() goes -/
theorem r_one (ht : tC bf z c) (h : rA bf z bk nr nm i cn σ) (hi : i ≤ c) {rc0 rc1 rc2 : (Int32 → rf_S → Prop) → rf_S → Prop} {Q : Int32 → rf_S → Prop} (h1 : kt bf z i = 34 ∨ kt bf z i = 6 → w_X12_one_18 Q rc0 rc1 rc2 σ)
    (h2 : kt bf z i = 35 → wp_X12_next (fun σ55 => wp_X12_mustSign (fun r56 σ56 => (¬ r56 = 0 → ((σ56.1 54) = 1 → wp_X12_node (fun r57 σ57 => vp_in r57 (rf_n 52) ∧ wp_X12_next (fun σ58 => Q r57 σ58) (rf_ub σ57 52 r57.toNatClampNeg (σ57.2.1 58))) σ56 3 ((-1)) ((-1))) ∧ (¬ (σ56.1 54) = 1 → wp_X12_cant (fun r59 σ59 => wp_X12_bad (fun r60 σ60 => Q r60 σ60) σ59 r59) σ56)) ∧ (r56 = 0 → Q ((-1)) σ56)) σ55 61) σ)
    (h3 : kt bf z i = 36 → wp_X12_next (fun σ49 => wp_X12_isName (fun r50 σ50 => (¬ r50 = 0 → wp_X12_node (fun r51 σ51 => vp_in r51 (rf_n 52) ∧ wp_X12_next (fun σ52 => Q r51 σ52) (rf_ub σ51 52 r51.toNatClampNeg (σ51.2.1 58))) σ50 4 ((-1)) ((-1))) ∧ (r50 = 0 → wp_X12_cant (fun r53 σ53 => wp_X12_bad (fun r54 σ54 => Q r54 σ54) σ53 r53) σ50)) σ49) σ)
    (h4 : kt bf z i = 37 → wp_X12_alerted (fun r48 σ48 => Q r48 σ48) σ) (h5 : kt bf z i = 2 → wp_X12_compared (fun r45 σ45 => Q r45 σ45) σ) (h6 : ¬ kt bf z i = 34 → ¬ kt bf z i = 6 → ¬ kt bf z i = 35 → ¬ kt bf z i = 36 → ¬ kt bf z i = 37 → ¬ kt bf z i = 2 → Q (-1) (rB σ (fk2 bf z i) (fpl bf z i))) : wpb_X12_one rc0 rc1 rc2 Q σ := by
  refine r_isw (w := 14) ht h hi (by decide) (fun e => ⟨fun _ => h1 (Or.inl e), fun q => absurd q (by decide)⟩) (fun n34 => ⟨fun q => absurd rfl q, fun _ => ?_⟩)
  refine r_iss (K := 6) ht h hi (by decide) (by decide) (fun e => ⟨fun q => absurd q (by decide), fun _ => h1 (Or.inr e)⟩) (fun n6 => ⟨fun _ => ?_, fun q => absurd rfl q⟩)
  refine r_isw (w := 15) ht h hi (by decide) (fun e => ⟨fun q => absurd q (by decide), fun _ => h2 e⟩) (fun n35 => ⟨fun _ => ?_, fun q => absurd rfl q⟩)
  refine r_isw (w := 16) ht h hi (by decide) (fun e => ⟨fun q => absurd q (by decide), fun _ => h3 e⟩) (fun n36 => ⟨fun _ => ?_, fun q => absurd rfl q⟩)
  refine r_isw (w := 17) ht h hi (by decide) (fun e => ⟨fun q => absurd q (by decide), fun _ => h4 e⟩) (fun n37 => ⟨fun _ => ?_, fun q => absurd rfl q⟩)
  exact r_isn ht h hi (fun e => ⟨fun _ => h5 e, fun q => absurd q (by decide)⟩) (fun n2 => ⟨fun q => absurd rfl q, fun _ => r_cant ht h hi ⟨fun _ => h6 n34 n6 n35 n36 n37 n2, fun q => absurd rfl q⟩⟩)
/-- where readOne goes -/
theorem c_one (ht : tC bf z c) (h : pA G cx bf z c nr ra nm i S) {rc0 rc1 : (Option Nat → cs_S → Prop) → Nat → Nat → cs_S → Nat → Int32 → Prop} {post : Option Nat → cs_S → Prop} {m n : Nat} {p1 : Int32} (h2 : kt bf z i = 2 → wp_X5_readFieldTest (fun r S => post r S) G m n S (cx 0))
    (h6 : kt bf z i = 6 → (p1 ≤ 12 → wp_X5_step (fun S37 => cs_k S37 (cx 0) = 7 ∧ ∃ m38 n38, 0 + m38 ≤ m ∧ 0 + n38 ≤ n ∧ rc0 (fun r38 S38 => cs_k S38 (cx 0) = 7 ∧ wp_X5_skip (fun S40 => post r38 S40) G S38 (cx 0) 7) m38 n38 S37 (cx 0) (p1 + 1)) G S (cx 0)) ∧ (¬ p1 ≤ 12 → wp_X5_fail (fun S50 => post none S50) G S (cx 0) 4))
    (h34 : kt bf z i = 34 → (p1 ≤ 12 → wp_X5_step (fun S56 => 0 + 1 ≤ m ∧ 0 + 7 ≤ n ∧ ∀ q57, cs_k S56 q57 = 0 → ∀ S58, S58 = cs_new S56 q57 2 → wp_X1_init (fun S59 => cs_k S59 (cx 0) = 7 ∧ ∃ m60 n60, 0 + 1 + m60 ≤ m ∧ 0 + 7 + n60 ≤ n ∧ rc1 (fun r60 S60 => cs_k S60 q57 = 3 ∧ wp_X1_append (fun S62 => post (some q57) S62) G S60 q57 r60) m60 n60 S59 (cx 0) (p1 + 1)) G S58 q57 34 0 0 none) G S (cx 0)) ∧ (¬ p1 ≤ 12 → wp_X5_fail (fun S64 => post none S64) G S (cx 0) 4))
    (h3 : kt bf z i = 35 ∨ kt bf z i = 36 ∨ kt bf z i = 37 → wp_X5_readWordTest (fun r S => post r S) G m n S (cx 0)) (hno : ¬ kt bf z i = 2 → ¬ kt bf z i = 6 → ¬ kt bf z i = 34 → ¬ kt bf z i = 35 → ¬ kt bf z i = 36 → ¬ kt bf z i = 37 → wp_X5_fail (fun S68 => post none S68) G S (cx 0) 2) : wpb_X5_readOne post G m n rc0 rc1 S (cx 0) p1 := by
  have hK9 := ht.K39 h.2.1
  have e6 := h.2.2.2.2
  have eI : (cs_i S 606 (cx 0)).toInt = (kt bf z i : Int) := by rw [e6]; exact nI_toInt (by omega)
  have n34 : ∀ {K : Nat}, kt bf z i = K → K < 40 → K ≠ 34 → ¬ cs_i S 606 (cx 0) = 34 := fun {K} hk hK hne q => by
    have := (nI_eq (b := 34) (by omega) (by decide)).mp (e6.symm.trans q)
    omega
  refine ⟨h.1.1.1, fun q => ⟨m, n, by omega, by omega, h2 (by omega)⟩, fun q => ?_, fun q => ?_, fun q => ⟨m, n, by omega, by omega, h3 (by omega)⟩, fun q => ⟨m, n, by omega, by omega, h3 (by omega)⟩, fun q => ⟨m, n, by omega, by omega, h3 (by omega)⟩, fun q => hno (by omega) (by omega) (by omega) (by omega) (by omega) (by omega)⟩
  · have hk : kt bf z i = 6 := by omega
    have hn := n34 hk (by decide) (by decide)
    exact ⟨fun w => ⟨fun _ => (h6 hk).1 w, fun q => absurd q hn⟩, (h6 hk).2⟩
  · have hk : kt bf z i = 34 := by omega
    exact ⟨fun w => ⟨fun q => absurd (by rw [e6, hk]; rfl) q, fun _ => (h34 hk).1 w⟩, (h34 hk).2⟩
/-- a test of one word in the reference -/
theorem r_wleaf (ht : tC bf z c) (h : rA bf z bk nr nm i cn σ) (hi : i < c) (hq : 2 * (cn + 1) ≤ qp bf z i) {o : Int32} (ho : o = 3 ∨ o = 4) : ∃ σ1, pF bk cn σ σ1 ∧ rA bf z bk nr nm (i + 1) (cn + 1) σ1 ∧ σ1.1 61 = σ.1 61 ∧ σ1.2.2.1 47 (1100 * bk + cn) = o ∧ σ1.2.2.2 52 (1100 * bk + cn) = σ.2.1 58 ∧ ∀ Q : Int32 → rf_S → Prop, Q (nI (1100 * bk + cn)) σ1 → wp_X12_node (fun r57 σ57 => vp_in r57 (rf_n 52) ∧ wp_X12_next (fun σ58 => Q r57 σ58) (rf_ub σ57 52 r57.toNatClampNeg (σ57.2.1 58))) σ o ((-1)) ((-1)) := by
  have hz := ht.1
  have hqz := ht.le i (by omega)
  have hbk := h.2.2.1.2.2
  have hN : rA bf z bk nr nm i (cn + 1) (rf_ub (nD σ (1100 * bk + cn) o (-1) (-1)) 52 (1100 * bk + cn) (σ.2.1 58)) := by
    refine h.nd hq (fun k hk => nDi (σ := σ) (o := o) (a := -1) (b := -1) hk) (nDi53 (σ := σ) (o := o) (a := -1) (b := -1)) rfl (fun k j hkj => nDr (by omega)) (fun k j hkj => by rw [r4ub, if_neg hkj]; rfl) ⟨fun q => ?_, fun q => ?_⟩ (fun q => ?_)
    · have e : (rf_ub (nD σ (1100 * bk + cn) o (-1) (-1)) 52 (1100 * bk + cn) (σ.2.1 58)).2.2.1 47 (1100 * bk + cn) = o := nD47 (σ := σ) (a := -1) (b := -1)
      rw [e] at q
      rcases ho with rfl | rfl <;> (rcases q with q | q <;> exact absurd q (by decide))
    · have e : (rf_ub (nD σ (1100 * bk + cn) o (-1) (-1)) 52 (1100 * bk + cn) (σ.2.1 58)).2.2.1 47 (1100 * bk + cn) = o := nD47 (σ := σ) (a := -1) (b := -1)
      rw [e] at q
      rcases ho with rfl | rfl <;> exact absurd q (by decide)
    · have e : (rf_ub (nD σ (1100 * bk + cn) o (-1) (-1)) 52 (1100 * bk + cn) (σ.2.1 58)).2.2.1 47 (1100 * bk + cn) = o := nD47 (σ := σ) (a := -1) (b := -1)
      rw [e] at q
      obtain ⟨o', o1, o2, o3⟩ := q
      rcases ho with rfl | rfl
      · exact absurd ((nI_eq (a := 3) (by decide) (by omega)).mp o3) (by omega)
      · exact absurd ((nI_eq (a := 4) (by decide) (by omega)).mp o3) (by omega)
  obtain ⟨σ1, g1, g2, g3⟩ := r_nx ht hN hi
  refine ⟨σ1, (((nD.pf (by omega)).ub (by omega) (by omega)).trans g1.pf (Nat.le_refl _)), g2, ?_, ?_, ?_, fun Q hQ => r_node h (by omega) ⟨nI_in (N := 2200) (by omega) (by decide), ?_⟩⟩
  · rw [g1.1 61 (by decide) (by decide) (by decide) (by decide) (by decide)]; exact nDi (σ := σ) (N := 1100 * bk + cn) (o := o) (a := -1) (b := -1) (k := 61) (by decide)
  · rw [g1.2.2]; exact nD47 (σ := σ) (a := -1) (b := -1)
  · rw [g1.2.2, r4ub, if_pos ⟨rfl, rfl⟩]
  · rw [nI_clamp (by omega)]; exact g3 _ hQ
theorem tC.kp (h : tC bf z c) (hi : i ≤ c) (hk : 2 ≤ kt bf z i) : i + 1 ≤ c := h.lt hi hk
theorem nW_w {o : Int32} (ho : o = 3 ∨ o = 4 ∨ o = 5) {N : Nat} (hN : N < 2200) (h : σ.2.2.1 47 N = o) : nW σ N := by
  refine ⟨hN, ?_, fun q3 q4 q5 => ?_, fun q => ?_⟩
  · rcases ho with rfl | rfl | rfl
    · exact ⟨3, by omega, by omega, h⟩
    · exact ⟨4, by omega, by omega, h⟩
    · exact ⟨5, by omega, by omega, h⟩
  · rcases ho with rfl | rfl | rfl
    · exact absurd h q3
    · exact absurd h q4
    · exact absurd h q5
  · rw [h] at q
    rcases ho with rfl | rfl | rfl <;> exact absurd q (by decide)
/-- the class's last step of a test of one word: a name, or a fault -/
theorem c_w101 (ht : tC bf z c) (h : pA G cx bf z c nr ra nm i S) {post : Option Nat → cs_S → Prop} {mc ms u v : Nat} {x1 x4 : Int32} {x2 : Int64} (hu : u + 1 ≤ mc) (hv : v + 7 ≤ ms) (hp : kt bf z i = 2 → ∀ S1 q, pA G cx bf z c nr ra nm (i + 1) S1 → fX (pE (cx 0)) S S1 → cs_k S1 q = 0 → post (some q) (nC S1 q x1 x2 x4 none)) (hb : ¬ kt bf z i = 2 → ∀ S1 q, pQ G cx bf z c nr ra nm (fk2 bf z i) (fpl bf z i) S1 → fX (pE (cx 0)) S S1 → cs_k S1 q = 0 → post (some q) (nC S1 q x1 x2 x4 none)) : w_X5_readWordTest_101 post G mc ms S u v (cx 0) x1 x2 x4 :=
  ⟨by omega, by omega, h.1.1.1, c_name ht h (fun e S1 h1 f1 => ⟨hu, hv, fun q25 hq => c_cond (hp e S1 q25 h1 f1 hq)⟩) (fun e S1 h1 f1 => ⟨hu, hv, fun q25 hq => c_cond (hb e S1 q25 h1 f1 hq)⟩)⟩
theorem d_w101 {fk fp : Int32} (h : pQ G cx bf z c nr ra nm fk fp S) {post : Option Nat → cs_S → Prop} {mc ms u v : Nat} {x1 x4 : Int32} {x2 : Int64} (hu : u + 1 ≤ mc) (hv : v + 7 ≤ ms) (hp : ∀ q, cs_k S q = 0 → post (some q) (nC S q x1 x2 x4 none)) : w_X5_readWordTest_101 post G mc ms S u v (cx 0) x1 x2 x4 :=
  ⟨by omega, by omega, h.1.1.1, d_name h ⟨hu, hv, fun q25 hq => c_cond (hp q25 hq)⟩⟩
/-- what a new Cond makes of the parser -/
theorem pA.nc {q : Nat} {a d : Int32} {b : Int64} {e : Option Nat} (h : pA G cx bf z c nr ra nm i S) (hq : cs_k S q = 0) : pA G cx bf z c nr ra nm i (nC S q a b d e) := h.fx (E := fun _ _ _ => False) (nC.fx hq) (fun _ _ _ q => q.elim)
theorem pQ.nc {q : Nat} {a d fk fp : Int32} {b : Int64} {e : Option Nat} (h : pQ G cx bf z c nr ra nm fk fp S) (hq : cs_k S q = 0) : pQ G cx bf z c nr ra nm fk fp (nC S q a b d e) := h.fx (E := fun _ _ _ => False) (nC.fx hq) (fun _ _ _ q => q.elim)
/-- the amount of the token at which the class stands -/
theorem pA.am (ht : tC bf z c) (h : pA G cx bf z c nr ra nm i S) (hk : 2 ≤ kt bf z i) : cs_al S (cx 4) (cs_i S 605 (cx 0)).toNatClampNeg = (at_ bf z i).2.2.1 := by
  rw [h.2.2.2.1, nI_clamp (by have := h.2.1; have := ht.2.2.1; omega)]
  exact (h.1.2.2.2.2.2.2.2.1 i (by have := h.2.1; omega)).2.2 hk
theorem pS.at_ {i : Nat} (ht : tC bf z c) (h : pS G cx bf z c nr ra nm S) (hi : i ≤ c) (h5 : cs_i S 605 (cx 0) = nI i) : vp_in (cs_i S 605 (cx 0)) (cs_n S (cx 4)) ∧ vp_in (cs_i S 605 (cx 0)) (cs_n S (cx 3)) := by
  have hc := ht.2.2.1
  rw [h5, h.2.2.2.2.1.2, h.2.2.2.1.2]
  exact ⟨nI_in (by omega) (by decide), nI_in (by omega) (by decide)⟩
/-- w_21 with the word at which it stands -/
theorem c_w21 {post : Option Nat → cs_S → Prop} {mc ms : Nat} {x1 : Int32} (ht : tC bf z c) (h : pS G cx bf z c nr ra nm S) {i : Nat} (hi : i ≤ c) (h5 : cs_i S 605 (cx 0) = nI i) (hp : ∀ A, A = cs_al S (cx 4) (cs_i S 605 (cx 0)).toNatClampNeg → (¬ x1 = 35 → w_X5_readWordTest_69 post G mc ms S 0 0 (cx 0) x1 A (-1)) ∧ (x1 = 35 → ((cs_i S 606 (cx 0)) < 20 → w_X5_readWordTest_69 post G mc ms S 0 0 (cx 0) x1 A (-1)) ∧ (¬ (cs_i S 606 (cx 0)) < 20 → wp_X5_step (fun S39 => 0 + 1 ≤ mc ∧ 0 + 7 ≤ ms ∧ ∀ q40, cs_k S39 q40 = 0 → ∀ S41, S41 = cs_new S39 q40 2 → wp_X1_init (fun S42 => post (some q40) S42) G S41 q40 x1 A (-1) none) G S (cx 0)))) : w_X5_readWordTest_21 post G mc ms S 0 0 (cx 0) x1 := by
  refine ⟨Nat.zero_le _, Nat.zero_le _, h.1.1, fun r33 e33 => ⟨cx 1, e33.trans h.1.2.1, h.2.1.1, fun r36 e36 => ⟨cx 4, e36.trans h.2.1.2.2.2.1, h.2.2.2.2.1.1, (h.at_ ht hi h5).1, ?_⟩⟩⟩
  obtain ⟨h1, h2⟩ := hp _ rfl
  exact ⟨h1, fun q => h2 q⟩
end WTS
