/-! ===== conditions read on both sides: or, and ===== -/
def ONEp (G cx : Nat → Nat) (bf : Nat → Nat) (z c bk nr : Nat) (ra : Nat → Nat) (nm : Nat → Int64) (D : Nat) : Prop := ∀ (i cn : Nat) (σ : rf_S), rA bf z bk nr nm i cn σ → σ.1 61 = nI (13 - D) → i ≤ c → OUTC G cx bf z c bk nr ra nm D 2 14 8 100 i cn (13 - D) σ (fun Q => ∀ d, 3 * D + 1 ≤ d → wg_X12_one d 0 Q σ) (fun post m n S => ∀ d, 2 * D + 1 ≤ d → wg_X5_readCond d 1 post G m n S (cx 0) (nI (13 - D)))
/-- what becomes of a group's node -/
def KP (pend : Option Nat) (da fo : Nat) (Q : Int32 → rf_S → Prop) : Int32 → rf_S → Prop := match pend with
  | none => fun r σ => ∃ n9, w_X12_anyOf_5 Q (wg_X12_one (da + 1) 0) (wg_X12_one (da + 1) 1) (wg_X12_one (da + 1) 2) n9 σ r
  | some no => fun r8 σ8 => (0 ≤ r8 → wp_X12_node (fun r9 σ9 => w_X12_anyOf_42 Q (wg_X12_one (da + 1) 0) (wg_X12_one (da + 1) 1) (wg_X12_one (da + 1) 2) (w_X12_anyOf_5 Q (wg_X12_one (da + 1) 0) (wg_X12_one (da + 1) 1) (wg_X12_one (da + 1) 2) fo) σ9 r9) σ8 0 (nI no) r8) ∧ (¬ 0 ≤ r8 → w_X12_anyOf_42 Q (wg_X12_one (da + 1) 0) (wg_X12_one (da + 1) 1) (wg_X12_one (da + 1) 2) (w_X12_anyOf_5 Q (wg_X12_one (da + 1) 0) (wg_X12_one (da + 1) 1) (wg_X12_one (da + 1) 2) fo) σ8 r8)
theorem KP.bad {pend : Option Nat} {da fo : Nat} {Q : Int32 → rf_S → Prop} {σ : rf_S} (hf : 1 ≤ fo) (hQ : Q (-1) σ) : KP pend da fo Q (-1) σ := by
  obtain ⟨f, rfl⟩ : ∃ f, fo = f + 1 := ⟨fo - 1, by omega⟩
  have w : w_X12_anyOf_5 Q (wg_X12_one (da + 1) 0) (wg_X12_one (da + 1) 1) (wg_X12_one (da + 1) 2) (f + 1) σ (-1) := ⟨fun _ => hQ, fun q => absurd (by decide) q⟩
  cases pend with
  | none => exact ⟨_, w⟩
  | some no => exact ⟨fun q => absurd q (by decide), fun _ => w⟩
theorem al_bad {P : Int32 → rf_S → Prop} {a b d : (Int32 → rf_S → Prop) → rf_S → Prop} {f : Nat} {σ : rf_S} (h : P (-1) σ) : w_X12_allOf_5 P a b d (f + 1) σ (-1) := ⟨fun _ => h, fun q => absurd (by decide) q⟩
section RUN
variable {G cx : Nat → Nat} {bf : Nat → Nat} {z c bk nr D : Nat} {ra : Nat → Nat} {nm : Nat → Int64}
/-- the class's loop behind a fault -/
theorem w43d {post : Option Nat → cs_S → Prop} {mc ms u v f x4 E b : Nat} {p1 fk fp : Int32} {S : cs_S} {rc0 rc1 : (Option Nat → cs_S → Prop) → Nat → Nat → cs_S → Nat → Int32 → Prop} (h : pQ G cx bf z c nr ra nm fk fp S) (hu : u ≤ mc) (hv : v ≤ ms) (hp : post (some E) S) : w_X5_readCond_43 post G mc ms rc0 rc1 (f + 1) S u v (cx 0) p1 (some E) (some b) (nI x4) := by
  have w115 : w_X5_readCond_115 post G mc ms rc0 rc1 S u v (some E) := ⟨hu, hv, hp⟩
  refine ⟨hu, hv, fun _ => w115, fun _ => ⟨h.1.1.1, fun q => ?_, fun _ => ⟨fun _ => w115, fun q => ?_⟩⟩⟩
  · rw [h.2.2.2.2.2] at q; exact absurd q (by decide)
  · rw [h.2.2.2.2.2] at q; exact absurd q (by decide)
theorem LI.bad {i1 na E b : Nat} {pend : Option Nat} {σ : rf_S} {S Sx Sx' : cs_S} {ls : List (List (cT D))} {ts : List (cT D)} {tl : cT D} {fk fp : Int32} {o : Option Nat} (h : LI G cx bf z c nr ra nm D i1 σ na pend S Sx E b ls ts tl) (f : fX (pE (cx 0)) Sx Sx') (hq : pQ G cx bf z c nr ra nm fk fp Sx') {post : cs_S → Prop} (hp : ∀ S', pQ G cx bf z c nr ra nm fk fp S' → fX (pE (cx 0)) S S' → cs_k S' E = 3 → post S') : cs_k Sx' b = 3 ∧ wp_X1_append post G Sx' b o := by
  obtain ⟨cc, Fz, pa, pf, ⟨e1, e2, e3, e4, e5⟩, ⟨b1, b2, b3, b4, b5, b6⟩, ⟨c1, c2, c3, c4, c5, c6⟩, -⟩ := h
  obtain ⟨kb, -, rb⟩ := pEl f (a := b) (by rw [b2]; decide)
  obtain ⟨kc, -, rc⟩ := pEl f (a := cc) (by rw [c2]; decide)
  obtain ⟨kE, -, rE⟩ := pEl f (a := E) (by rw [e2]; decide)
  refine ⟨kb.trans b2, fun _ => hp Sx' hq (pf.trans f) (kE.trans e2), fun b12 e12 => ⟨kb.trans b2, fun r14 e14 => ⟨fun q => ?_, fun b15 e15 r16 e16 => ⟨cc, by rw [e16, rb, b6], kc.trans c2, fun S19 e19 => ⟨by rw [e19]; exact kb.trans b2, fun S11 e11 => hp S11 ?_ ?_ ?_⟩⟩⟩⟩⟩
  · rw [e14, rb, b6] at q; exact nomatch q
  · have hf3 : fX (fun s f y => s = 2 ∧ (y = cc ∨ y = b)) Sx' S11 := by
      rw [e11, e19]
      exact (fX.rfl.ur (Or.inl ⟨rfl, Or.inl rfl⟩)).ur (Or.inl ⟨rfl, Or.inr rfl⟩)
    refine hq.c3 hf3 (fun s f a q => ?_)
    rcases q.2 with w | w
    · rw [w]; exact kc.trans c2
    · rw [w]; exact kb.trans b2
  · rw [e11, e19]
    exact ((pf.trans f).ur (Or.inr c1)).ur (Or.inr b1)
  · rw [e11, e19]
    exact kE.trans e2
theorem LJ.bad {i1 E q : Nat} {pend : Option Nat} {σ : rf_S} {S Sx Sx' : cs_S} {L : List (List (cT D))} {fk fp : Int32} {o : Option Nat} (h : LJ G cx bf z c nr ra nm D i1 σ pend S Sx E q L) (f : fX (pE (cx 0)) Sx Sx') (hq : pQ G cx bf z c nr ra nm fk fp Sx') {post : cs_S → Prop} (hp : ∀ S', pQ G cx bf z c nr ra nm fk fp S' → fX (pE (cx 0)) S S' → cs_k S' E = 3 → post S') : cs_k Sx' q = 3 ∧ wp_X1_append post G Sx' q o := by
  obtain ⟨pa, pf, ⟨e1, e2, e3, e4, e5⟩, ⟨b1, b2, b3, b4, b5, b6⟩, -⟩ := h
  obtain ⟨kb, -, rb⟩ := pEl f (a := q) (by rw [b2]; decide)
  obtain ⟨kE, -, rE⟩ := pEl f (a := E) (by rw [e2]; decide)
  refine ⟨kb.trans b2, fun _ => hp Sx' hq (pf.trans f) (kE.trans e2), fun b12 e12 => ⟨kb.trans b2, fun r14 e14 => ⟨fun _ S20 e20 => ⟨by rw [e20]; exact kb.trans b2, fun S11 e11 => hp S11 ?_ ?_ ?_⟩, fun b15 e15 => ?_⟩⟩⟩
  · have hf3 : fX (fun s f y => y = q) Sx' S11 := by
      rw [e11, e20]
      exact (fX.rfl.ur (Or.inl rfl)).ur (Or.inl rfl)
    exact hq.c3 hf3 (fun s f a w => by rw [w]; exact kb.trans b2)
  · rw [e11, e20]
    exact ((pf.trans f).ur (Or.inr b1)).ur (Or.inr b1)
  · rw [e11, e20]
    exact kE.trans e2
  · rw [e14, rb, b6] at e15; exact nomatch e15
def pd (pend : Option Nat) : Nat := match pend with
  | none => 0
  | some _ => 1
end RUN
def RUNp (G cx : Nat → Nat) (bf : Nat → Nat) (z c bk nr : Nat) (ra : Nat → Nat) (nm : Nat → Int64) (D i1 cn1 : Nat) (σ : rf_S) (na : Nat) (pend : Option Nat) : Prop :=
    ∃ (r : Int32) (σ1 : rf_S) (m n : Nat), pF bk cn1 σ σ1 ∧ (∀ da fa fo (Q : Int32 → rf_S → Prop), 3 * D + 1 ≤ da → c - i1 < fa → c - i1 < fo → Q r σ1 → w_X12_allOf_5 (KP pend da fo Q) (wg_X12_one da 0) (wg_X12_one da 1) (wg_X12_one da 2) fa σ (nI na)) ∧
    ((∃ i2 cn2 nd, r = nI nd ∧ i1 ≤ i2 ∧ i2 ≤ c ∧ (cn1 ≤ cn2 ∧ 2 * cn2 + qp bf z i1 ≤ 2 * cn1 + qp bf z i2 + 2 * pd pend) ∧ rA bf z bk nr nm i2 cn2 σ1 ∧ σ1.1 61 = nI (13 - D) ∧ inB bk cn2 nd ∧ m + 4 * qp bf z i1 ≤ 4 * qp bf z i2 ∧ n + 40 * qp bf z i1 ≤ 40 * qp bf z i2 ∧
        ∀ (dc : Nat) (S Sx : cs_S) (E b : Nat) (ls : List (List (cT D))) (ts : List (cT D)) (tl : cT D) (post : Option Nat → cs_S → Prop) (mc ms u v x4 : Nat), 2 * D + 1 ≤ dc → LI G cx bf z c nr ra nm D i1 σ na pend S Sx E b ls ts tl → u + m ≤ mc → v + n ≤ ms → x4 ≤ i1 → (∀ (S1 : cs_S) (t : cT (D + 1)), pA G cx bf z c nr ra nm i2 S1 → fX (pE (cx 0)) S S1 → cs_k S E = 0 → cs_k S1 E = 3 → cs_r S1 206 E = none → cN S1 (nO S S1 E) (D + 1) E t → rR σ1 (D + 1) nd t → cLv S1 σ1 (D + 1) t → rLv σ1 (D + 1) t → post (some E) S1) → w_X5_readCond_43 post G mc ms (fun post mc ms S o a0 => wg_X5_readCond dc 0 post G mc ms S o a0) (fun post mc ms S o a0 => wg_X5_readCond dc 1 post G mc ms S o a0) (2001 - x4) Sx u v (cx 0) (nI (13 - D)) (some E) (some b) (nI x4)) ∨
      ∃ fk fp, r = -1 ∧ rD fk fp σ1 ∧ m + 4 * qp bf z i1 ≤ 4 * z + 8 ∧ n + 40 * qp bf z i1 ≤ 40 * z + 100 ∧
        ∀ (dc : Nat) (S Sx : cs_S) (E b : Nat) (ls : List (List (cT D))) (ts : List (cT D)) (tl : cT D) (post : Option Nat → cs_S → Prop) (mc ms u v x4 : Nat), 2 * D + 1 ≤ dc → LI G cx bf z c nr ra nm D i1 σ na pend S Sx E b ls ts tl → u + m ≤ mc → v + n ≤ ms → x4 ≤ i1 → (∀ (S1 : cs_S), pQ G cx bf z c nr ra nm fk fp S1 → fX (pE (cx 0)) S S1 → cs_k S1 E = 3 → post (some E) S1) → w_X5_readCond_43 post G mc ms (fun post mc ms S o a0 => wg_X5_readCond dc 0 post G mc ms S o a0) (fun post mc ms S o a0 => wg_X5_readCond dc 1 post G mc ms S o a0) (2001 - x4) Sx u v (cx 0) (nI (13 - D)) (some E) (some b) (nI x4))
section RU2
variable {G cx : Nat → Nat} {bf : Nat → Nat} {z c bk nr D i1 cn1 na : Nat} {ra : Nat → Nat} {nm : Nat → Int64} {σ : rf_S} {pend : Option Nat}
theorem wd24 (f : Nat) (x : Nat) (h : x ≤ 2000) : 2001 - x = (2000 - x) + 1 := by omega
/-- the groups ahead and this one: what the reference has of them together -/
theorem LI.sum {S Sx : cs_S} {E b : Nat} {ls : List (List (cT D))} {ts : List (cT D)} {tl : cT D} (h : rA bf z bk nr nm i1 cn1 σ) (hna : inB bk cn1 na) (hno : ∀ no, pend = some no → inB bk cn1 no) (hc : cn1 < 1100) (hL : LI G cx bf z c nr ra nm D i1 σ na pend S Sx E b ls ts tl) : (pend = none → rR σ (D + 1) na (.inr (.inr (ls ++ [ts ++ [tl]]))) ∧ cLv Sx σ (D + 1) (.inr (.inr (ls ++ [ts ++ [tl]]))) ∧ rLv σ (D + 1) (.inr (.inr (ls ++ [ts ++ [tl]])))) ∧ ∀ no, pend = some no → ∀ o, o = nD σ (1100 * bk + cn1) 0 (nI no) (nI na) → rR o (D + 1) (1100 * bk + cn1) (.inr (.inr (ls ++ [ts ++ [tl]]))) ∧ cLv Sx o (D + 1) (.inr (.inr (ls ++ [ts ++ [tl]]))) ∧ rLv o (D + 1) (.inr (.inr (ls ++ [ts ++ [tl]]))) := by
  obtain ⟨cc, Fz, pa, pf, -, -, -, hF, q1, q2, r1, r2, l1, l2⟩ := hL
  have hbk := h.2.2.1.2.2
  refine ⟨fun e => ?_, fun no e o ho => ?_⟩
  · rcases r2 with ⟨-, w2⟩ | ⟨no, w1, -⟩
    · subst w2
      exact ⟨r1, l1, l2⟩
    · rw [e] at w1; exact nomatch w1
  · rcases r2 with ⟨w1, -⟩ | ⟨no', w1, w2, w3⟩
    · rw [e] at w1; exact nomatch w1
    · rw [e] at w1
      cases w1
      have hF : pF bk cn1 σ o := by rw [ho]; exact nD.pf hc
      have hP := prS.of h (Nat.le_of_lt hc) hF
      have rv := (lv_app (σ := σ) (l := ls) (g := ts) (t := tl)).mp l2
      have cvv := (cv_app (S := Sx) (σ := σ) (l := ls) (g := ts) (t := tl)).mp l1
      have lg : rLv σ (D + 1) (.inr (.inr [ts ++ [tl]])) := fun g hg y hy => by
        rw [List.mem_singleton.mp hg] at hy
        rcases List.mem_append.mp hy with q | q
        · exact rv.2.1 y q
        · rw [List.mem_singleton.mp q]; exact rv.2.2
      have cg : cLv Sx σ (D + 1) (.inr (.inr [ts ++ [tl]])) := fun g hg y hy => by
        rw [List.mem_singleton.mp hg] at hy
        rcases List.mem_append.mp hy with q | q
        · exact cvv.2.1 y q
        · rw [List.mem_singleton.mp q]; exact cvv.2.2
      obtain ⟨p1, p2, p3⟩ := hP (D + 1) na _ hna lg r1
      obtain ⟨s1, s2, s3⟩ := hP (D + 1) no _ (hno no e) rv.1 w3
      refine ⟨rR_or (by omega) (by rw [ho]; exact nD47) (by rw [ho]; exact nD48) (by rw [ho]; exact nD49) w2 s1 p1, ?_, ?_⟩
      · intro g hg y hy
        rcases List.mem_append.mp hg with q | q
        · exact s3 Sx cvv.1 g q y hy
        · exact p3 Sx cg g q y hy
      · intro g hg y hy
        rcases List.mem_append.mp hg with q | q
        · exact s2 g q y hy
        · exact p2 g q y hy
/-- neither or nor and -/
theorem RUN.e (ht : tC bf z c) (h : rA bf z bk nr nm i1 cn1 σ) (h61 : σ.1 61 = nI (13 - D)) (hi : i1 ≤ c) (hna : inB bk cn1 na) (hno : ∀ no, pend = some no → inB bk cn1 no) (hcn : 2 * (cn1 + pd pend) ≤ qp bf z i1) (hk : ¬ kt bf z i1 = 32) (hk2 : ¬ kt bf z i1 = 33) : RUNp G cx bf z c bk nr ra nm D i1 cn1 σ na pend := by
  have hz := ht.1
  have hqz := ht.le i1 hi
  have hbk := h.2.2.1.2.2
  have hK9 := ht.K39 hi
  have hc0 := ht.2.2.1
  -- the class goes no further
  have cfin : ∀ (S Sx : cs_S) (E b : Nat) (post : Option Nat → cs_S → Prop) (mc ms u v x4 : Nat) (rc0 rc1 : (Option Nat → cs_S → Prop) → Nat → Nat → cs_S → Nat → Int32 → Prop), pA G cx bf z c nr ra nm i1 Sx → u ≤ mc → v ≤ ms → x4 ≤ i1 → post (some E) Sx → w_X5_readCond_43 post G mc ms rc0 rc1 (2001 - x4) Sx u v (cx 0) (nI (13 - D)) (some E) (some b) (nI x4) := by
    intro S Sx E b post mc ms u v x4 rc0 rc1 hA hu hv hx hp
    rw [wd24 0 x4 (by omega)]
    have w115 : w_X5_readCond_115 post G mc ms rc0 rc1 Sx u v (some E) := ⟨hu, hv, hp⟩
    refine ⟨hu, hv, fun _ => w115, fun _ => ⟨hA.1.1.1, fun q => ?_, fun _ => ⟨fun _ => w115, fun q => ?_⟩⟩⟩
    · exact absurd ((nI_eq (b := 32) (by omega) (by decide)).mp (hA.2.2.2.2.symm.trans q)) hk
    · exact absurd ((nI_eq (b := 33) (by omega) (by decide)).mp (hA.2.2.2.2.symm.trans q)) hk2
  cases pend with
  | none =>
    refine ⟨nI na, σ, 0, 0, pF.rfl, fun da fa fo Q hd hfa hfo hQ => ?_, Or.inl ⟨i1, cn1, na, rfl, Nat.le_refl _, hi, ⟨Nat.le_refl _, by omega⟩, h, h61, hna, by omega, by omega, fun dc S Sx E b ls ts tl post mc ms u v x4 hdc hL hu hv hx hp => ?_⟩⟩
    · obtain ⟨fa, rfl⟩ : ∃ f, fa = f + 1 := ⟨fa - 1, by omega⟩
      obtain ⟨fo, rfl⟩ : ∃ f, fo = f + 1 := ⟨fo - 1, by omega⟩
      have hn2 := hna.2
      exact ⟨fun q => absurd q (nI_pos (by omega)), fun _ => r_isw (w := 13) ht h hi (by decide) (fun q => absurd q hk2) (fun _ => ⟨fun _ => ⟨1, fun q => absurd q (nI_pos (by omega)), fun _ => r_isw (w := 12) ht h hi (by decide) (fun q => absurd q hk) (fun _ => ⟨fun _ => hQ, fun q => absurd rfl q⟩)⟩, fun q => absurd rfl q⟩)⟩
    · have hL' := hL
      obtain ⟨cc, Fz, pa, pf, ⟨e1, e2, e3, e4, e5⟩, -⟩ := hL'
      obtain ⟨s1, s2, s3⟩ := (hL.sum h hna hno (by omega)).1 rfl
      exact cfin S Sx E b post mc ms u v x4 _ _ pa (by omega) (by omega) hx (hp Sx _ pa pf e1 e2 e4 hL.fin s1 s2 s3)
  | some no =>
    have hcn : 2 * (cn1 + 1) ≤ qp bf z i1 := hcn
    have hN : rA bf z bk nr nm i1 (cn1 + 1) (nD σ (1100 * bk + cn1) 0 (nI no) (nI na)) := by
      refine h.nd (by omega) (fun k hk => nDi hk) nDi53 rfl (fun k j hkj => nDr (by omega)) (fun k j hkj => rfl) ⟨fun _ => ⟨no, na, nD48, nD49, hno no rfl, hna⟩, fun q => ?_⟩ (fun q => ?_)
      · rw [nD47] at q; exact absurd q (by decide)
      · rw [nD47] at q
        obtain ⟨o', o1, o2, o3⟩ := q
        exact absurd ((nI_eq (a := 0) (by decide) (by omega)).mp o3) (by omega)
    refine ⟨nI (1100 * bk + cn1), nD σ (1100 * bk + cn1) 0 (nI no) (nI na), 0, 0, nD.pf (by omega), fun da fa fo Q hd hfa hfo hQ => ?_, Or.inl ⟨i1, cn1 + 1, 1100 * bk + cn1, rfl, Nat.le_refl _, hi, ⟨by omega, by show 2 * (cn1 + 1) + qp bf z i1 ≤ 2 * cn1 + qp bf z i1 + 2 * 1; omega⟩, hN, (nDi (by decide)).trans h61, ⟨by omega, by omega⟩, by omega, by omega, fun dc S Sx E b ls ts tl post mc ms u v x4 hdc hL hu hv hx hp => ?_⟩⟩
    · obtain ⟨fa, rfl⟩ : ∃ f, fa = f + 1 := ⟨fa - 1, by omega⟩
      obtain ⟨fo, rfl⟩ : ∃ f, fo = f + 1 := ⟨fo - 1, by omega⟩
      have hn2 := hna.2
      exact ⟨fun q => absurd q (nI_pos (by omega)), fun _ => r_isw (w := 13) ht h hi (by decide) (fun q => absurd q hk2) (fun _ => ⟨fun _ => ⟨fun _ => r_node h (by omega) ⟨fun q => absurd q (nI_pos (by omega)), fun _ => r_isw (w := 12) ht hN hi (by decide) (fun q => absurd q hk) (fun _ => ⟨fun _ => hQ, fun q => absurd rfl q⟩)⟩, fun q => absurd (nI_pos' (by omega)) q⟩, fun q => absurd rfl q⟩)⟩
    · have hL' := hL
      obtain ⟨cc, Fz, pa, pf, ⟨e1, e2, e3, e4, e5⟩, -⟩ := hL'
      obtain ⟨s1, s2, s3⟩ := (hL.sum h hna hno (by omega)).2 no rfl _ rfl
      exact cfin S Sx E b post mc ms u v x4 _ _ pa (by omega) (by omega) hx (hp Sx _ pa pf e1 e2 e4 hL.fin s1 s2 s3)
/-- and -/
theorem RUN.a (ht : tC bf z c) (hD : D ≤ 13) (hone : ONEp G cx bf z c bk nr ra nm D) (ih : ∀ i2 cn2 (σ2 : rf_S) na2 (pend2 : Option Nat), i1 < i2 → rA bf z bk nr nm i2 cn2 σ2 → σ2.1 61 = nI (13 - D) → i2 ≤ c → inB bk cn2 na2 → (∀ no, pend2 = some no → inB bk cn2 no) → 2 * (cn2 + pd pend2) ≤ qp bf z i2 → RUNp G cx bf z c bk nr ra nm D i2 cn2 σ2 na2 pend2) (h : rA bf z bk nr nm i1 cn1 σ) (h61 : σ.1 61 = nI (13 - D)) (hi : i1 ≤ c) (hna : inB bk cn1 na) (hno : ∀ no, pend = some no → inB bk cn1 no) (hcn : 2 * (cn1 + pd pend) ≤ qp bf z i1) (hk : kt bf z i1 = 33) : RUNp G cx bf z c bk nr ra nm D i1 cn1 σ na pend := by
  have hlt := ht.lt hi (by omega)
  have hz := ht.1
  have hqz := ht.le i1 hi
  have hbk := h.2.2.1.2.2
  have hc0 := ht.2.2.1
  have h2b := ht.two hlt (by omega)
  have hn2 := hna.2
  obtain ⟨σa, a1, a2, a3⟩ := r_nx ht h hlt
  have a61 : σa.1 61 = nI (13 - D) := (a1.1 61 (by decide) (by decide) (by decide) (by decide) (by decide)).trans h61
  obtain ⟨r2, σ2, m2, n2, o1, o2, oc⟩ := hone (i1 + 1) cn1 σa a2 a61 hlt
  -- the class up to the part
  have cpre : ∀ (dc : Nat) (S Sx : cs_S) (E b : Nat) (ls : List (List (cT D))) (ts : List (cT D)) (tl : cT D) (post : Option Nat → cs_S → Prop) (mc ms u v x4 : Nat), LI G cx bf z c nr ra nm D i1 σ na pend S Sx E b ls ts tl → u + m2 ≤ mc → v + n2 ≤ ms → x4 ≤ i1 → (∀ S24, pA G cx bf z c nr ra nm (i1 + 1) S24 → fX (pE (cx 0)) Sx S24 → wg_X5_readCond dc 1 (fun r26 S26 => ∃ b28, some b = some b28 ∧ cs_k S26 b28 = 3 ∧ wp_X1_append (fun S29 => w_X5_readCond_43 post G mc ms (fun post mc ms S o a0 => wg_X5_readCond dc 0 post G mc ms S o a0) (fun post mc ms S o a0 => wg_X5_readCond dc 1 post G mc ms S o a0) (2000 - x4) S29 (u + m2) (v + n2) (cx 0) (nI (13 - D)) (some E) (some b28) (nI x4 + 1)) G S26 b28 r26) G m2 n2 S24 (cx 0) (nI (13 - D))) → w_X5_readCond_43 post G mc ms (fun post mc ms S o a0 => wg_X5_readCond dc 0 post G mc ms S o a0) (fun post mc ms S o a0 => wg_X5_readCond dc 1 post G mc ms S o a0) (2001 - x4) Sx u v (cx 0) (nI (13 - D)) (some E) (some b) (nI x4) := by
    intro dc S Sx E b ls ts tl post mc ms u v x4 hL hu hv hx g
    obtain ⟨cc, Fz, pa, -⟩ := hL
    rw [wd24 0 x4 (by omega)]
    have e33 : cs_i Sx 606 (cx 0) = 33 := by rw [pa.2.2.2.2, hk]; rfl
    have n32 : ¬ cs_i Sx 606 (cx 0) = 32 := by rw [e33]; decide
    refine ⟨by omega, by omega, fun q => absurd q (nI_ge (b := 2000) (by omega) (by decide)), fun _ => ⟨pa.1.1.1, fun q => absurd q n32, fun _ => ⟨fun q => absurd e33 q, fun _ => ⟨by omega, by omega, pa.1.1.1, fun _ => ⟨by omega, by omega, pa.1.1.1, c_step ht pa hlt (fun S24 h24 f24 => ⟨h24.1.1.1, m2, n2, hu, hv, g S24 h24 f24⟩)⟩, fun q => absurd q n32⟩⟩⟩⟩
  have rpre : ∀ (da fa : Nat) (P : Int32 → rf_S → Prop), 3 * D + 1 ≤ da → ((0 ≤ r2 → wp_X12_node (fun r9 σ9 => w_X12_allOf_5 P (wg_X12_one da 0) (wg_X12_one da 1) (wg_X12_one da 2) fa σ9 r9) σ2 1 (nI na) r2) ∧ (¬ 0 ≤ r2 → w_X12_allOf_5 P (wg_X12_one da 0) (wg_X12_one da 1) (wg_X12_one da 2) fa σ2 r2)) → w_X12_allOf_5 P (wg_X12_one da 0) (wg_X12_one da 1) (wg_X12_one da 2) (fa + 1) σ (nI na) := by
    intro da fa P hd g
    exact ⟨fun q => absurd q (nI_pos (by omega)), fun _ => r_isw (w := 13) ht h hi (by decide) (fun _ => ⟨fun q => absurd q (by decide), fun _ => a3 _ (o2 _ g da hd)⟩) (fun q => absurd hk q)⟩
  rcases oc with ⟨i2, cn2, nd2, p1, p2, p3, ⟨p4, p4b⟩, p5, p6, p7, p8, p9, p10⟩ | ⟨fk, fp, p1, p2, p3, p4, p5⟩
  · have hq2 := ht.le i2 p3
    have p72 := p7.2
    have up : ∀ y, inB bk cn1 y → inB bk cn2 y := fun y q => ⟨q.1, by have := q.2; omega⟩
    have hN : rA bf z bk nr nm i2 (cn2 + 1) (nD σ2 (1100 * bk + cn2) 1 (nI na) (nI nd2)) := by
      refine p5.nd (by omega) (fun k hk => nDi hk) nDi53 rfl (fun k j hkj => nDr (by omega)) (fun k j hkj => rfl) ⟨fun _ => ⟨na, nd2, nD48, nD49, up na hna, p7⟩, fun q => ?_⟩ (fun q => ?_)
      · rw [nD47] at q; exact absurd q (by decide)
      · rw [nD47] at q
        obtain ⟨o', o1, o2, o3⟩ := q
        exact absurd ((nI_eq (a := 1) (by decide) (by omega)).mp o3) (by omega)
    have fn : pF bk cn2 σ2 (nD σ2 (1100 * bk + cn2) 1 (nI na) (nI nd2)) := nD.pf (by omega)
    have f3 : pF bk cn1 σ (nD σ2 (1100 * bk + cn2) 1 (nI na) (nI nd2)) := (a1.pf.trans o1 (Nat.le_refl _)).trans fn p4
    obtain ⟨r, σ1, m, n, g1, g2, g3⟩ := ih i2 (cn2 + 1) _ (1100 * bk + cn2) pend (by omega) hN ((nDi (by decide)).trans p6) p3 ⟨by omega, by omega⟩ (fun no e => by have := up no (hno no e); exact ⟨this.1, by have := this.2; omega⟩) (by omega)
    -- the class, one part more
    have cstep : ∀ (dc : Nat) (S Sx : cs_S) (E b : Nat) (ls : List (List (cT D))) (ts : List (cT D)) (tl : cT D) (post : Option Nat → cs_S → Prop) (mc ms u v x4 : Nat), 2 * D + 1 ≤ dc → LI G cx bf z c nr ra nm D i1 σ na pend S Sx E b ls ts tl → u + m2 ≤ mc → v + n2 ≤ ms → x4 ≤ i1 → (∀ S29 t, LI G cx bf z c nr ra nm D i2 (nD σ2 (1100 * bk + cn2) 1 (nI na) (nI nd2)) (1100 * bk + cn2) pend S S29 E b ls (ts ++ [tl]) t → w_X5_readCond_43 post G mc ms (fun post mc ms S o a0 => wg_X5_readCond dc 0 post G mc ms S o a0) (fun post mc ms S o a0 => wg_X5_readCond dc 1 post G mc ms S o a0) (2001 - (x4 + 1)) S29 (u + m2) (v + n2) (cx 0) (nI (13 - D)) (some E) (some b) (nI (x4 + 1))) → w_X5_readCond_43 post G mc ms (fun post mc ms S o a0 => wg_X5_readCond dc 0 post G mc ms S o a0) (fun post mc ms S o a0 => wg_X5_readCond dc 1 post G mc ms S o a0) (2001 - x4) Sx u v (cx 0) (nI (13 - D)) (some E) (some b) (nI x4) := by
      intro dc S Sx E b ls ts tl post mc ms u v x4 hdc hL hu hv hx g
      refine cpre dc S Sx E b ls ts tl post mc ms u v x4 hL hu hv hx (fun S24 h24 f24 => p10 S24 _ h24 (fun S26 a t t1 t2 t3 t4 t5 t6 t7 t8 t9 => ⟨b, rfl, ?_, ?_⟩) dc hdc)
      · have hL' := hL
        obtain ⟨cc, Fz, pa, pf, -, ⟨b1, b2, -⟩, -⟩ := hL'
        rw [(pEl (f24.trans t2) (by rw [b2]; decide)).1]; exact b2
      · obtain ⟨s1, s2, s3⟩ := (prS.of p5 (by omega) fn) D nd2 t p7 t9 t7
        refine LI.app hL f24 t1 t2 t3 t4 t5 t6 (prS.of h (by omega) f3) hna hno (by omega) nD47 nD48 nD49 s1 (s3 _ t8) s2 (fun S29 h29 => ?_)
        have := g S29 t h29
        rw [nI_1, show 2000 - x4 = 2001 - (x4 + 1) from by omega]
        exact this
    rcases g3 with ⟨i3, cn3, nd, c1, c2, c3, ⟨c4, c4b⟩, c5, c6, c7, c8, c9, c10⟩ | ⟨fk, fp, c1, c2, c3, c4, c5⟩
    · refine ⟨r, σ1, m2 + m, n2 + n, f3.trans g1 (by omega), fun da fa fo Q hd hfa hfo hQ => ?_, Or.inl ⟨i3, cn3, nd, c1, by omega, c3, ⟨by omega, by omega⟩, c5, c6, c7, by omega, by omega, fun dc S Sx E b ls ts tl post mc ms u v x4 hdc hL hu hv hx hp => cstep dc S Sx E b ls ts tl post mc ms u v x4 hdc hL (by omega) (by omega) hx (fun S29 t h29 => c10 dc S S29 E b ls (ts ++ [tl]) t post mc ms (u + m2) (v + n2) (x4 + 1) hdc h29 (by omega) (by omega) (by omega) hp)⟩⟩
      obtain ⟨fa, rfl⟩ : ∃ f, fa = f + 1 := ⟨fa - 1, by omega⟩
      refine rpre da fa _ hd ⟨fun _ => ?_, fun q => ?_⟩
      · rw [p1]; exact r_node p5 (by omega) (g2 da fa fo Q hd (by omega) (by omega) hQ)
      · rw [p1] at q; exact absurd (nI_pos' (by omega)) q
    · refine ⟨r, σ1, m2 + m, n2 + n, f3.trans g1 (by omega), fun da fa fo Q hd hfa hfo hQ => ?_, Or.inr ⟨fk, fp, c1, c2, by omega, by omega, fun dc S Sx E b ls ts tl post mc ms u v x4 hdc hL hu hv hx hp => cstep dc S Sx E b ls ts tl post mc ms u v x4 hdc hL (by omega) (by omega) hx (fun S29 t h29 => c5 dc S S29 E b ls (ts ++ [tl]) t post mc ms (u + m2) (v + n2) (x4 + 1) hdc h29 (by omega) (by omega) (by omega) hp)⟩⟩
      obtain ⟨fa, rfl⟩ : ∃ f, fa = f + 1 := ⟨fa - 1, by omega⟩
      refine rpre da fa _ hd ⟨fun _ => ?_, fun q => ?_⟩
      · rw [p1]; exact r_node p5 (by omega) (g2 da fa fo Q hd (by omega) (by omega) hQ)
      · rw [p1] at q; exact absurd (nI_pos' (by omega)) q
  · refine ⟨-1, σ2, m2, n2, a1.pf.trans o1 (Nat.le_refl _), fun da fa fo Q hd hfa hfo hQ => ?_, Or.inr ⟨fk, fp, rfl, p2, by omega, by omega, fun dc S Sx E b ls ts tl post mc ms u v x4 hdc hL hu hv hx hp => cpre dc S Sx E b ls ts tl post mc ms u v x4 hL hu hv hx (fun S24 h24 f24 => p5 S24 _ h24 (fun S26 o t1 t2 t3 => ⟨b, rfl, ?_⟩) dc hdc)⟩⟩
    · obtain ⟨fa, rfl⟩ : ∃ f, fa = f + 1 + 1 := ⟨fa - 2, by omega⟩
      refine rpre da (fa + 1) _ hd ⟨fun q => ?_, fun _ => ?_⟩
      · rw [p1] at q; exact absurd q (by decide)
      · rw [p1]; exact al_bad (KP.bad (by omega) hQ)
    · refine LI.bad hL (f24.trans t2) t1 (fun S' s1 s2 s3 => ?_)
      rw [show 2000 - x4 = (1999 - x4) + 1 from by omega, nI_1]
      exact w43d s1 hu hv (hp S' s1 s2 s3)
end RU2
