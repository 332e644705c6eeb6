/-! ===== comparisons read on both sides ===== -/
def okN (bf : Nat → Nat) (z j : Nat) (x y : Int32) : Prop := kt bf z j = 3 ∧ ¬ (at_ bf z j).2.2.2 < x ∧ (at_ bf z j).2.2.2 ≤ y
def bdN (bf : Nat → Nat) (z j : Nat) : Int32 := if kt bf z j = 3 then 3 else fk2 bf z j
section NU2
variable {G cx : Nat → Nat} {bf : Nat → Nat} {z c bk nr i cn dp : Nat} {ra : Nat → Nat} {nm : Nat → Int64} {σ : rf_S} {S : cs_S}
theorem bdN_0 : ¬ bdN bf z i = 0 := by
  unfold bdN
  split
  · decide
  · exact fk2_0
theorem at_32 (ht : tC bf z c) (hi : i < c) (h1 : 3 ≤ kt bf z i) (h2 : kt bf z i ≤ 5) : (at_ bf z i).2.2.1.toInt32 = (at_ bf z i).2.2.2 := by
  have e := (ht.ti hi).2.2.1
  exact tk_32 (by show 3 ≤ (at_ bf z i).1; omega) (by show (at_ bf z i).1 ≤ 5; omega)
theorem c_num2 {post : Int32 → cs_S → Prop} (ht : tC bf z c) (h : pA G cx bf z c nr ra nm i S) {x y : Int32} (hp : okN bf z i x y → ∀ S1, pA G cx bf z c nr ra nm (i + 1) S1 → fX (pE (cx 0)) S S1 → post (at_ bf z i).2.2.2 S1) (hb : ¬ okN bf z i x y → ∀ S1, pQ G cx bf z c nr ra nm (bdN bf z i) (fpl bf z i) S1 → fX (pE (cx 0)) S S1 → post 0 S1) : wp_X5_readNumber post G S (cx 0) x y := by
  refine c_number ht h (fun e q1 q2 => ?_) (fun k hk => ?_)
  · have e32 := at_32 ht (ht.lt h.2.1 (by omega)) (show 3 ≤ kt bf z i by omega) (by omega)
    rw [e32] at q1 q2 ⊢
    exact hp ⟨e, q1, q2⟩
  · rcases hk with ⟨k1, k2⟩ | ⟨k1, k2, k3⟩
    · have := hb (fun q => k1 q.1)
      unfold bdN at this
      rw [if_neg k1] at this
      rw [k2]; exact this
    · have e32 := at_32 ht (ht.lt h.2.1 (by omega)) (show 3 ≤ kt bf z i by omega) (by omega)
      rw [e32] at k2
      have := hb (fun q => by
        rcases k2 with w | w
        · exact q.2.1 w
        · exact w q.2.2)
      unfold bdN at this
      rw [if_pos k1] at this
      rw [k3]; exact this
theorem r_num2 (ht : tC bf z c) (h : rA bf z bk nr nm i cn σ) (hi : i ≤ c) {x y : Int32} : (okN bf z i x y → ∃ σ', pF bk cn σ σ' ∧ σ'.2.2 = σ.2.2 ∧ rA bf z bk nr nm (i + 1) cn σ' ∧ σ'.1 60 = (at_ bf z i).2.2.2 ∧ σ'.1 61 = σ.1 61 ∧ ∀ Q : Int32 → rf_S → Prop, Q 1 σ' → wp_X12_mustNumber Q σ x y) ∧ (¬ okN bf z i x y → ∀ Q : Int32 → rf_S → Prop, Q 0 (rB σ (bdN bf z i) (fpl bf z i)) → wp_X12_mustNumber Q σ x y) := by
  have hK9 := ht.K39 hi
  have h54 : σ.1 54 = rC (kt bf z i) := h.2.1.1
  refine ⟨fun e => ?_, fun e Q hQ => ?_⟩
  · have e56 : σ.1 56 = (at_ bf z i).2.2.2 := h.n56 ht hi (by have := e.1; omega) (by have := e.1; omega)
    have h60 : rA bf z bk nr nm i cn (rf_ui σ 60 (σ.1 56)) := h.to (i' := i) ⟨h.1.1, h.1.2⟩ h.2.1 (Nat.le_refl _) rfl rfl rfl rfl rfl
    obtain ⟨σ', g1, g2, g3⟩ := r_nx ht h60 (ht.lt hi (by have := e.1; omega))
    refine ⟨σ', (pF.rfl.ui (by omega)).trans g1.pf (Nat.le_refl _), g1.2.2, g2, ?_, ?_, fun Q hQ => ⟨fun _ => ⟨fun w => ?_, fun _ => ⟨fun _ => g3 _ hQ, fun w => ?_⟩⟩, fun w => absurd (by rw [h54]; exact (rC_c _).2.2.1.mpr e.1) w⟩⟩
    · rw [g1.1 60 (by decide) (by decide) (by decide) (by decide) (by decide), r1ui, if_pos rfl, e56]
    · rw [g1.1 61 (by decide) (by decide) (by decide) (by decide) (by decide), r1ui, if_neg (by decide)]
    · rw [e56] at w; exact absurd w e.2.1
    · rw [e56] at w; exact absurd e.2.2 w
  · refine (r_mustn ht h hi).2 (bdN bf z i) ?_ Q hQ
    unfold bdN
    by_cases k3 : kt bf z i = 3
    · rw [if_pos k3]
      refine Or.inr ⟨k3, ?_, rfl⟩
      by_cases w : (at_ bf z i).2.2.2 < x
      · exact Or.inl w
      · exact Or.inr (fun w2 => e ⟨k3, w, w2⟩)
    · rw [if_neg k3]
      exact Or.inl ⟨k3, rfl⟩
theorem cvW.fx {S S' : cs_S} {E : Nat → Nat → Nat → Prop} {v ty L : Nat} (h : cvW S v ty L) (hF : fX E S S') (hE : ∀ s f a, E s f a → cs_k S a ≠ 11 ∧ cs_k S a ≠ 20) : cvW S' v ty L ∧ (∀ f, cs_i S' f v = cs_i S f v) ∧ cs_ai S' ty = cs_ai S ty := by
  obtain ⟨v1, v2, v3, v4, v5, v6, v7⟩ := h
  obtain ⟨vk, -, vi, -, vr, -⟩ := hF v (by rw [v1]; decide)
  obtain ⟨yk, yn, -, -, -, yi, -⟩ := hF ty (by rw [v3]; decide)
  have vi' : ∀ f, cs_i S' f v = cs_i S f v := fun f => vi f (fun q => (hE _ _ _ q).1 v1)
  have eai : cs_ai S' ty = cs_ai S ty := funext (fun j => yi j (fun q => (hE _ _ _ q).2 v3))
  exact ⟨⟨vk.trans v1, (vr 1002 (fun q => (hE _ _ _ q).1 v1)).trans v2, yk.trans v3, yn.trans v4, v5, by rw [vi', vi', vi', eai]; exact v6, by rw [vi', vi']; exact v7⟩, vi', eai⟩
theorem pE.nv (h : cs_k S (cx 0) = 7) : ∀ s f a, pE (cx 0) s f a → cs_k S a ≠ 11 ∧ cs_k S a ≠ 20 := fun s f a q => by
  rw [q.2.1, h]; exact ⟨by decide, by decide⟩
/-- the value that is asked for fits -/
def gdV (K1 K2 : Nat) : Prop := 3 ≤ K2 ∧ K2 ≤ 5 ∧ ((13 ≤ K1 ∧ K1 ≤ 16) → K2 = 3) ∧ (K1 = 38 → K2 = 4) ∧ (K1 = 39 → K2 = 5)
theorem r_125 (ht : tC bf z c) {σa σb : rf_S} (hb : rA bf z bk nr nm (i + 1) cn σb) (hi : i + 1 ≤ c) (g3 : ∀ Q : rf_S → Prop, Q σb → wp_X12_next Q σa) (hop : (11 ≤ kt bf z i ∧ kt bf z i ≤ 16) ∨ 38 ≤ kt bf z i) (h39 : kt bf z i ≤ 39) {f : Int64} {Q : Int32 → rf_S → Prop} (hy : gdV (kt bf z i) (kt bf z (i + 1)) → w_X12_compared_222 Q σb f (nI (opk (kt bf z i))) 1) (hn : ¬ gdV (kt bf z i) (kt bf z (i + 1)) → Q (-1) (rB σb (fk2 bf z (i + 1)) (fpl bf z (i + 1)))) : w_X12_compared_125 Q σa f (nI (opk (kt bf z i))) := by
  have h54 : σb.1 54 = rC (kt bf z (i + 1)) := hb.2.1.1
  have hK9 := ht.K39 hi
  have bad : ¬ gdV (kt bf z i) (kt bf z (i + 1)) → w_X12_compared_222 Q σb f (nI (opk (kt bf z i))) 0 := fun q => ⟨fun w => absurd rfl w, fun _ => r_cant ht hb hi ⟨fun _ => hn q, fun w => absurd rfl w⟩⟩
  have hob : opk (kt bf z i) ≤ 13 := by unfold opk; split <;> (try split) <;> omega
  have oe : ∀ o : Nat, o ≤ 13 → (nI (opk (kt bf z i)) = nI o ↔ opk (kt bf z i) = o) := fun o ho => nI_eq (by omega) (by omega)
  have o6 : opk (kt bf z i) = 6 ↔ kt bf z i = 38 := by
    unfold opk
    constructor
    · intro q
      split at q
      · assumption
      · split at q <;> omega
    · intro q; rw [if_pos q]
  have o7 : opk (kt bf z i) = 7 ↔ kt bf z i = 39 := by
    unfold opk
    constructor
    · intro q
      split at q
      · omega
      · split at q
        · assumption
        · omega
    · intro q; rw [if_neg (by omega), if_pos q]
  refine ⟨fun _ => g3 _ ⟨fun n6 => ⟨fun n7 => ⟨fun q => ?_, fun n2 => ⟨fun q => ?_, fun q9 => ⟨fun q => ?_, fun n3 => ⟨fun n4 => ?_, fun q => ?_⟩⟩⟩⟩, fun q7 => ⟨fun q => ?_, fun q => ?_⟩⟩, fun q6 => ⟨fun q => ?_, fun q => ?_⟩⟩, fun q => absurd (nI_pos' (by omega)) q⟩
  · have k3 := (rC_c _).2.2.1.mp (h54.symm.trans q)
    have n6 : ¬ kt bf z i = 38 := fun e => n6 ((oe 6 (by decide)).mpr (o6.mpr e))
    have n7 : ¬ kt bf z i = 39 := fun e => n7 ((oe 7 (by decide)).mpr (o7.mpr e))
    exact hy ⟨by omega, by omega, fun _ => k3, fun e => absurd e n6, fun e => absurd e n7⟩
  · have n6 : ¬ kt bf z i = 38 := fun e => n6 ((oe 6 (by decide)).mpr (o6.mpr e))
    have n7 : ¬ kt bf z i = 39 := fun e => n7 ((oe 7 (by decide)).mpr (o7.mpr e))
    have n3 : ¬ kt bf z (i + 1) = 3 := fun e => n2 (by rw [h54]; exact (rC_c _).2.2.1.mpr e)
    have q := (nI_ltI (a := 9) (by decide) (by omega)).mp q
    have e : opk (kt bf z i) = kt bf z i - 3 := by unfold opk; rw [if_neg n6, if_neg n7]
    exact bad (fun w => n3 (w.2.2.1 (by omega)))
  · have n6 : ¬ kt bf z i = 38 := fun e => n6 ((oe 6 (by decide)).mpr (o6.mpr e))
    have n7 : ¬ kt bf z i = 39 := fun e => n7 ((oe 7 (by decide)).mpr (o7.mpr e))
    have k4 := (rC_c _).2.2.2.1.mp (h54.symm.trans q)
    have e : opk (kt bf z i) = kt bf z i - 3 := by unfold opk; rw [if_neg n6, if_neg n7]
    have q9 : ¬ 9 < opk (kt bf z i) := fun w => q9 (nI_lt (a := 9) w (by omega))
    exact hy ⟨by omega, by omega, fun w => by omega, fun e => absurd e n6, fun e => absurd e n7⟩
  · have n3' : ¬ kt bf z (i + 1) = 3 := fun e => n2 (by rw [h54]; exact (rC_c _).2.2.1.mpr e)
    have n4' : ¬ kt bf z (i + 1) = 4 := fun e => n3 (by rw [h54]; exact (rC_c _).2.2.2.1.mpr e)
    have n5' : ¬ kt bf z (i + 1) = 5 := fun e => n4 (by rw [h54]; exact (rC_c _).2.2.2.2.1.mpr e)
    exact bad (fun w => by have := w.1; have := w.2.1; omega)
  · have n6 : ¬ kt bf z i = 38 := fun e => n6 ((oe 6 (by decide)).mpr (o6.mpr e))
    have n7 : ¬ kt bf z i = 39 := fun e => n7 ((oe 7 (by decide)).mpr (o7.mpr e))
    have k5 := (rC_c _).2.2.2.2.1.mp (h54.symm.trans q)
    have e : opk (kt bf z i) = kt bf z i - 3 := by unfold opk; rw [if_neg n6, if_neg n7]
    have q9 : ¬ 9 < opk (kt bf z i) := fun w => q9 (nI_lt (a := 9) w (by omega))
    exact hy ⟨by omega, by omega, fun w => by omega, fun e => absurd e n6, fun e => absurd e n7⟩
  · have k39 := o7.mp ((oe 7 (by decide)).mp q7)
    exact bad (fun w => q (by rw [h54]; exact (rC_c _).2.2.2.2.1.mpr (w.2.2.2.2 k39)))
  · have k39 := o7.mp ((oe 7 (by decide)).mp q7)
    have k5 := (rC_c _).2.2.2.2.1.mp (h54.symm.trans q)
    exact hy ⟨by omega, by omega, fun w => by omega, fun e => by omega, fun _ => k5⟩
  · have k38 := o6.mp ((oe 6 (by decide)).mp q6)
    exact bad (fun w => q (by rw [h54]; exact (rC_c _).2.2.2.1.mpr (w.2.2.2.1 k38)))
  · have k38 := o6.mp ((oe 6 (by decide)).mp q6)
    have k4 := (rC_c _).2.2.2.1.mp (h54.symm.trans q)
    exact hy ⟨by omega, by omega, fun w => by omega, fun _ => k4, fun e => by omega⟩
theorem opk_R {K : Nat} (h : (11 ≤ K ∧ K ≤ 16) ∨ K = 38 ∨ K = 39) : opR K (opk K) := by
  unfold opR opk
  split
  · omega
  · split <;> omega
/-- the class's value of a comparison that is not in -/
theorem c_cv (ht : tC bf z c) (h : pA G cx bf z c nr ra nm (i + 1) S) {post : Option Nat → cs_S → Prop} (hop : (11 ≤ kt bf z (i + 1) ∧ kt bf z (i + 1) ≤ 16) ∨ kt bf z (i + 1) = 38) {w : Int32 → Int32} (hw : ∀ K2 : Nat, K2 ≤ 39 → ∃ W, W ≤ 39 ∧ w (nI K2) = nI W ∧ ((K2 = W ∧ 3 ≤ W ∧ W ≤ 5) ↔ gdV (kt bf z (i + 1)) K2)) {A : Int64} {x : Int32}
    (hp : gdV (kt bf z (i + 1)) (kt bf z (i + 1 + 1)) → ∀ S1 v ty L q, pA G cx bf z c nr ra nm (i + 1 + 1 + 1) S1 → fX (pE (cx 0)) S S1 → cvW S1 v ty L → cs_i S1 1000 v = vso (kt bf z (i + 1 + 1)) → cs_i S1 1001 v = (at_ bf z (i + 1 + 1)).2.2.2 → (kt bf z (i + 1 + 1) = 4 → (at_ bf z (i + 1 + 1)).2.2.2 = nI L ∧ ∀ k, k < L → cs_ai S1 ty k = nI (bf (qp bf z (i + 1 + 1) + 1 + k))) → cs_k S1 q = 0 → post (some q) (nC S1 q x A 0 (some v)))
    (hb : ¬ gdV (kt bf z (i + 1)) (kt bf z (i + 1 + 1)) → ∀ S1 q, pQ G cx bf z c nr ra nm (fk2 bf z (i + 1 + 1)) (fpl bf z (i + 1 + 1)) S1 → fX (pE (cx 0)) S S1 → cs_k S1 q = 0 → post (some q) (nC S1 q x A 0 none)) : wp_X5_step (fun S64 => cs_k S64 (cx 0) = 7 ∧ ∃ m66 n66, 0 + m66 ≤ 3 ∧ 0 + n66 ≤ 35 ∧ wp_X5_readValue (fun r66 S66 => w_X5_readFieldTest_227 post G 3 35 S66 (0 + m66) (0 + n66) A x 0 r66) G m66 n66 S64 (cx 0) (w (cs_i S64 606 (cx 0)))) G S (cx 0) := by
  have hlt := ht.lt h.2.1 (by omega)
  refine c_step ht h hlt (fun S64 h64 f64 => ⟨h64.1.1.1, 2, 28, by omega, by omega, ?_⟩)
  have hK9 := ht.K39 h64.2.1
  obtain ⟨W, w1, w2, w3⟩ := hw (kt bf z (i + 1 + 1)) hK9
  rw [h64.2.2.2.2, w2]
  refine c_value ht h64 w1 (by omega) (by omega) (fun e e1 e2 S1 v ty L g1 g2 g3 g4 g5 g6 g7 => ⟨by omega, by omega, by omega, by omega, fun q hq => c_cond ?_⟩) (fun e S1 g1 g2 => ⟨by omega, by omega, by omega, by omega, fun q hq => c_cond (hb (fun q => e (w3.mpr q)) S1 q g1 (f64.trans g2) hq)⟩)
  have hg := w3.mp ⟨e, e1, e2⟩
  rw [← e] at g5 g7
  exact hp hg S1 v ty L q g1 (f64.trans g2) g4 g5 g6 g7 hq
end NU2
