/-! ===== conditions read on both sides: or; a whole condition ===== -/
theorem wg_0 {da : Nat} {Q : Int32 → rf_S → Prop} {σ : rf_S} (h : wpb_X12_one (wg_X12_one da 0) (wg_X12_one da 1) (wg_X12_one da 2) Q σ) : wg_X12_one (da + 1) 0 Q σ := by
  show (if (0 : Nat) = 0 then _ else _)
  rw [if_pos rfl]; exact h
theorem wg_1 {da : Nat} {Q : Int32 → rf_S → Prop} {σ : rf_S} (h : wpb_X12_anyOf (wg_X12_one da 0) (wg_X12_one da 1) (wg_X12_one da 2) Q σ) : wg_X12_one (da + 1) 1 Q σ := by
  show (if (1 : Nat) = 0 then _ else if (1 : Nat) = 1 then _ else _)
  rw [if_neg (by decide), if_pos rfl]; exact h
theorem wg_2 {da : Nat} {Q : Int32 → rf_S → Prop} {σ : rf_S} (h : wpb_X12_allOf (wg_X12_one da 0) (wg_X12_one da 1) (wg_X12_one da 2) Q σ) : wg_X12_one (da + 1) 2 Q σ := by
  show (if (2 : Nat) = 0 then _ else if (2 : Nat) = 1 then _ else _)
  rw [if_neg (by decide), if_neg (by decide)]; exact h
theorem wgc_0 {G : Nat → Nat} {d mc ms o : Nat} {post : Option Nat → cs_S → Prop} {S : cs_S} {a0 : Int32} (h : wpb_X5_readCond post G mc ms (fun post mc ms S o a0 => wg_X5_readCond d 0 post G mc ms S o a0) (fun post mc ms S o a0 => wg_X5_readCond d 1 post G mc ms S o a0) S o a0) : wg_X5_readCond (d + 1) 0 post G mc ms S o a0 := by
  show (if (0 : Nat) = 0 then _ else _)
  rw [if_pos rfl]; exact h
theorem wgc_1 {G : Nat → Nat} {d mc ms o : Nat} {post : Option Nat → cs_S → Prop} {S : cs_S} {a0 : Int32} (h : wpb_X5_readOne post G mc ms (fun post mc ms S o a0 => wg_X5_readCond d 0 post G mc ms S o a0) (fun post mc ms S o a0 => wg_X5_readCond d 1 post G mc ms S o a0) S o a0) : wg_X5_readCond (d + 1) 1 post G mc ms S o a0 := by
  show (if (1 : Nat) = 0 then _ else _)
  rw [if_neg (by decide)]; exact h
section RU3
variable {G cx : Nat → Nat} {bf : Nat → Nat} {z c bk nr D i1 cn1 na : Nat} {ra : Nat → Nat} {nm : Nat → Int64} {σ : rf_S} {pend : Option Nat}
/-- a group is done: its node, and that of all so far -/
theorem GRPe (ht : tC bf z c) (h : rA bf z bk nr nm i1 cn1 σ) (h61 : σ.1 61 = nI (13 - D)) (hi : i1 ≤ c) (hna : inB bk cn1 na) (hno : ∀ no, pend = some no → inB bk cn1 no) (hcn : 2 * (cn1 + pd pend) ≤ qp bf z i1) : ∃ (n' : Nat) (σn : rf_S), rA bf z bk nr nm i1 (cn1 + pd pend) σn ∧ σn.1 61 = nI (13 - D) ∧ pF bk cn1 σ σn ∧ inB bk (cn1 + pd pend) n' ∧ (∀ da fo (Q : Int32 → rf_S → Prop), w_X12_anyOf_5 Q (wg_X12_one (da + 1) 0) (wg_X12_one (da + 1) 1) (wg_X12_one (da + 1) 2) fo σn (nI n') → KP pend da fo Q (nI na) σ) ∧ ∀ (S Sx : cs_S) (E b : Nat) (ls : List (List (cT D))) (ts : List (cT D)) (tl : cT D), LI G cx bf z c nr ra nm D i1 σ na pend S Sx E b ls ts tl → rR σn (D + 1) n' (.inr (.inr (ls ++ [ts ++ [tl]]))) ∧ cLv Sx σn (D + 1) (.inr (.inr (ls ++ [ts ++ [tl]]))) ∧ rLv σn (D + 1) (.inr (.inr (ls ++ [ts ++ [tl]]))) := by
  have hz := ht.1
  have hqz := ht.le i1 hi
  have hbk := h.2.2.1.2.2
  cases pend with
  | none => exact ⟨na, σ, h, h61, pF.rfl, hna, fun da fo Q q => ⟨_, q⟩, fun S Sx E b ls ts tl hL => (hL.sum h hna hno (by have : 2 * (cn1 + 0) ≤ qp bf z i1 := hcn; omega)).1 rfl⟩
  | some no =>
    have hcn : 2 * (cn1 + 1) ≤ qp bf z i1 := hcn
    have hn2 := hna.2
    have hN : rA bf z bk nr nm i1 (cn1 + 1) (nD σ (1100 * bk + cn1) 0 (nI no) (nI na)) := by
      refine h.nd (by omega) (fun k hk => nDi hk) nDi53 rfl (fun k j hkj => nDr (by omega)) (fun k j hkj => rfl) ⟨fun _ => ⟨no, na, nD48, nD49, hno no rfl, hna⟩, fun q => ?_⟩ (fun q => ?_)
      · rw [nD47] at q; exact absurd q (by decide)
      · rw [nD47] at q
        obtain ⟨o', o1, o2, o3⟩ := q
        exact absurd ((nI_eq (a := 0) (by decide) (by omega)).mp o3) (by omega)
    exact ⟨1100 * bk + cn1, _, hN, (nDi (by decide)).trans h61, nD.pf (by omega), ⟨by omega, by show _ < 1100 * bk + (cn1 + 1); omega⟩, fun da fo Q q => ⟨fun _ => r_node h (by omega) q, fun q => absurd (nI_pos' (by omega)) q⟩, fun S Sx E b ls ts tl hL => (hL.sum h hna hno (by omega)).2 no rfl _ rfl⟩
/-- or -/
theorem RUN.o (ht : tC bf z c) (hD : D ≤ 13) (hone : ONEp G cx bf z c bk nr ra nm D) (ih : ∀ i2 cn2 (σ2 : rf_S) na2 (pend2 : Option Nat), i1 < i2 → rA bf z bk nr nm i2 cn2 σ2 → σ2.1 61 = nI (13 - D) → i2 ≤ c → inB bk cn2 na2 → (∀ no, pend2 = some no → inB bk cn2 no) → 2 * (cn2 + pd pend2) ≤ qp bf z i2 → RUNp G cx bf z c bk nr ra nm D i2 cn2 σ2 na2 pend2) (h : rA bf z bk nr nm i1 cn1 σ) (h61 : σ.1 61 = nI (13 - D)) (hi : i1 ≤ c) (hna : inB bk cn1 na) (hno : ∀ no, pend = some no → inB bk cn1 no) (hcn : 2 * (cn1 + pd pend) ≤ qp bf z i1) (hk : kt bf z i1 = 32) : RUNp G cx bf z c bk nr ra nm D i1 cn1 σ na pend := by
  have hlt := ht.lt hi (by omega)
  have hz := ht.1
  have hqz := ht.le i1 hi
  have hbk := h.2.2.1.2.2
  have hc0 := ht.2.2.1
  have h2b := ht.two hlt (by omega)
  have hn2 := hna.2
  obtain ⟨n', σn, s1, s2, s3, s4, s5, s6⟩ := GRPe (G := G) (cx := cx) (ra := ra) ht h h61 hi hna hno hcn
  generalize hcn' : cn1 + pd pend = cn' at *
  have s42 := s4.2
  obtain ⟨σa, a1, a2, a3⟩ := r_nx ht s1 hlt
  have a61 : σa.1 61 = nI (13 - D) := (a1.1 61 (by decide) (by decide) (by decide) (by decide) (by decide)).trans s2
  obtain ⟨r2, σ2, m2, n2, o1, o2, oc⟩ := hone (i1 + 1) cn' σa a2 a61 hlt
  have f2 : pF bk cn1 σ σ2 := s3.trans (a1.pf.trans o1 (Nat.le_refl _)) (by omega)
  have cpre : ∀ (dc : Nat) (S Sx : cs_S) (E b : Nat) (ls : List (List (cT D))) (ts : List (cT D)) (tl : cT D) (post : Option Nat → cs_S → Prop) (mc ms u v x4 : Nat), LI G cx bf z c nr ra nm D i1 σ na pend S Sx E b ls ts tl → u + 1 + m2 ≤ mc → v + 7 + n2 ≤ ms → x4 ≤ i1 → (∀ q S36 S24, LJ G cx bf z c nr ra nm D i1 σn (some n') S S36 E q (ls ++ [ts ++ [tl]]) → pA G cx bf z c nr ra nm (i1 + 1) S24 → fX (pE (cx 0)) S36 S24 → wg_X5_readCond dc 1 (fun r26 S26 => ∃ b28, some q = some b28 ∧ cs_k S26 b28 = 3 ∧ wp_X1_append (fun S29 => w_X5_readCond_43 post G mc ms (fun post mc ms S o a0 => wg_X5_readCond dc 0 post G mc ms S o a0) (fun post mc ms S o a0 => wg_X5_readCond dc 1 post G mc ms S o a0) (2000 - x4) S29 (u + 1 + m2) (v + 7 + n2) (cx 0) (nI (13 - D)) (some E) (some b28) (nI x4 + 1)) G S26 b28 r26) G m2 n2 S24 (cx 0) (nI (13 - D))) → w_X5_readCond_43 post G mc ms (fun post mc ms S o a0 => wg_X5_readCond dc 0 post G mc ms S o a0) (fun post mc ms S o a0 => wg_X5_readCond dc 1 post G mc ms S o a0) (2001 - x4) Sx u v (cx 0) (nI (13 - D)) (some E) (some b) (nI x4) := by
    intro dc S Sx E b ls ts tl post mc ms u v x4 hL hu hv hx g
    have hL' := hL
    obtain ⟨cc, Fz, pa, -⟩ := hL'
    rw [wd24 0 x4 (by omega)]
    have e32 : cs_i Sx 606 (cx 0) = 32 := by rw [pa.2.2.2.2, hk]; rfl
    obtain ⟨y1, y2, y3⟩ := s6 S Sx E b ls ts tl hL
    refine ⟨by omega, by omega, fun q => absurd q (nI_ge (b := 2000) (by omega) (by decide)), fun _ => ⟨pa.1.1.1, fun _ => ⟨by omega, by omega, pa.1.1.1, fun q => absurd e32 q, fun _ => ⟨by omega, by omega, fun q hq => c_cond ⟨E, rfl, LI.grp hL y1 y2 y3 hq (fun S36 hJ => ⟨by omega, by omega, hJ.1.1.1.1, c_step ht hJ.1 hlt (fun S24 h24 f24 => ⟨h24.1.1.1, m2, n2, hu, hv, g q S36 S24 hJ h24 f24⟩)⟩)⟩⟩⟩, fun q => absurd e32 q⟩⟩
  have rpre : ∀ (da fa fo : Nat) (Q : Int32 → rf_S → Prop), 3 * D + 1 ≤ da → (∃ n9, w_X12_allOf_5 (KP (some n') da fo Q) (wg_X12_one da 0) (wg_X12_one da 1) (wg_X12_one da 2) n9 σ2 r2) → w_X12_allOf_5 (KP pend da (fo + 1) Q) (wg_X12_one da 0) (wg_X12_one da 1) (wg_X12_one da 2) (fa + 1) σ (nI na) := by
    intro da fa fo Q hd g
    refine ⟨fun q => absurd q (nI_pos (by omega)), fun _ => r_isw (w := 13) ht h hi (by decide) (fun q => by omega) (fun _ => ⟨fun _ => s5 da (fo + 1) Q ⟨fun q => absurd q (nI_pos (by omega)), fun _ => r_isw (w := 12) ht s1 hi (by decide) (fun _ => ⟨fun q => absurd q (by decide), fun _ => a3 _ (wg_2 (o2 _ g da hd))⟩) (fun q => absurd hk q)⟩, fun q => absurd rfl q⟩)⟩
  rcases oc with ⟨i2, cn2, nd2, p1, p2, p3, ⟨p4, p4b⟩, p5, p6, p7, p8, p9, p10⟩ | ⟨fk, fp, p1, p2, p3, p4, p5⟩
  · have hq2 := ht.le i2 p3
    have p72 := p7.2
    have up : ∀ y, inB bk cn' y → inB bk cn2 y := fun y q => ⟨q.1, by have := q.2; omega⟩
    obtain ⟨r, σ1, m, n, g1, g2, g3⟩ := ih i2 cn2 σ2 nd2 (some n') (by omega) p5 p6 p3 p7 (fun no e => by cases e; exact up n' s4) (by show 2 * (cn2 + 1) ≤ qp bf z i2; omega)
    have cstep : ∀ (dc : Nat) (S Sx : cs_S) (E b : Nat) (ls : List (List (cT D))) (ts : List (cT D)) (tl : cT D) (post : Option Nat → cs_S → Prop) (mc ms u v x4 : Nat), 2 * D + 1 ≤ dc → LI G cx bf z c nr ra nm D i1 σ na pend S Sx E b ls ts tl → u + 1 + m2 ≤ mc → v + 7 + n2 ≤ ms → x4 ≤ i1 → (∀ q S29 t, LI G cx bf z c nr ra nm D i2 σ2 nd2 (some n') S S29 E q (ls ++ [ts ++ [tl]]) [] t → w_X5_readCond_43 post G mc ms (fun post mc ms S o a0 => wg_X5_readCond dc 0 post G mc ms S o a0) (fun post mc ms S o a0 => wg_X5_readCond dc 1 post G mc ms S o a0) (2001 - (x4 + 1)) S29 (u + 1 + m2) (v + 7 + n2) (cx 0) (nI (13 - D)) (some E) (some q) (nI (x4 + 1))) → w_X5_readCond_43 post G mc ms (fun post mc ms S o a0 => wg_X5_readCond dc 0 post G mc ms S o a0) (fun post mc ms S o a0 => wg_X5_readCond dc 1 post G mc ms S o a0) (2001 - x4) Sx u v (cx 0) (nI (13 - D)) (some E) (some b) (nI x4) := by
      intro dc S Sx E b ls ts tl post mc ms u v x4 hdc hL hu hv hx g
      refine cpre dc S Sx E b ls ts tl post mc ms u v x4 hL hu hv hx (fun q S36 S24 hJ h24 f24 => p10 S24 _ h24 (fun S26 a t t1 t2 t3 t4 t5 t6 t7 t8 t9 => ⟨q, rfl, ?_, ?_⟩) dc hdc)
      · have hJ' := hJ
        obtain ⟨-, -, -, ⟨b1, b2, -⟩, -⟩ := hJ'
        rw [(pEl (f24.trans t2) (by rw [b2]; decide)).1]; exact b2
      · refine LJ.app hJ f24 t1 t2 t3 t4 t5 t6 (prS.of s1 (by omega) (a1.pf.trans o1 (Nat.le_refl _))) (fun no e => by cases e; exact s4) t7 t8 t9 (fun S29 h29 => ?_)
        have := g q S29 t h29
        rw [nI_1, show 2000 - x4 = 2001 - (x4 + 1) from by omega]
        exact this
    rcases g3 with ⟨i3, cn3, nd, c1, c2, c3, ⟨c4, c4b⟩, c5, c6, c7, c8, c9, c10⟩ | ⟨fk, fp, c1, c2, c3, c4, c5⟩
    · have c4b : 2 * cn3 + qp bf z i2 ≤ 2 * cn2 + qp bf z i3 + 2 * 1 := c4b
      refine ⟨r, σ1, 1 + m2 + m, 7 + n2 + n, f2.trans g1 (by omega), fun da fa fo Q hd hfa hfo hQ => ?_, Or.inl ⟨i3, cn3, nd, c1, by omega, c3, ⟨by omega, by omega⟩, c5, c6, c7, by omega, by omega, fun dc S Sx E b ls ts tl post mc ms u v x4 hdc hL hu hv hx hp => cstep dc S Sx E b ls ts tl post mc ms u v x4 hdc hL (by omega) (by omega) hx (fun q S29 t h29 => c10 dc S S29 E q (ls ++ [ts ++ [tl]]) [] t post mc ms (u + 1 + m2) (v + 7 + n2) (x4 + 1) hdc h29 (by omega) (by omega) (by omega) hp)⟩⟩
      obtain ⟨fa, rfl⟩ : ∃ f, fa = f + 1 := ⟨fa - 1, by omega⟩
      obtain ⟨fo, rfl⟩ : ∃ f, fo = f + 1 := ⟨fo - 1, by omega⟩
      refine rpre da fa fo Q hd ⟨c - i2 + 1, ?_⟩
      rw [p1]; exact g2 da (c - i2 + 1) fo Q hd (by omega) (by omega) hQ
    · refine ⟨r, σ1, 1 + m2 + m, 7 + n2 + n, f2.trans g1 (by omega), fun da fa fo Q hd hfa hfo hQ => ?_, Or.inr ⟨fk, fp, c1, c2, by omega, by omega, fun dc S Sx E b ls ts tl post mc ms u v x4 hdc hL hu hv hx hp => cstep dc S Sx E b ls ts tl post mc ms u v x4 hdc hL (by omega) (by omega) hx (fun q S29 t h29 => c5 dc S S29 E q (ls ++ [ts ++ [tl]]) [] t post mc ms (u + 1 + m2) (v + 7 + n2) (x4 + 1) hdc h29 (by omega) (by omega) (by omega) hp)⟩⟩
      obtain ⟨fa, rfl⟩ : ∃ f, fa = f + 1 := ⟨fa - 1, by omega⟩
      obtain ⟨fo, rfl⟩ : ∃ f, fo = f + 1 := ⟨fo - 1, by omega⟩
      refine rpre da fa fo Q hd ⟨c - i2 + 1, ?_⟩
      rw [p1]; exact g2 da (c - i2 + 1) fo Q hd (by omega) (by omega) hQ
  · refine ⟨-1, σ2, 1 + m2, 7 + n2, f2, fun da fa fo Q hd hfa hfo hQ => ?_, Or.inr ⟨fk, fp, rfl, p2, by omega, by omega, fun dc S Sx E b ls ts tl post mc ms u v x4 hdc hL hu hv hx hp => cpre dc S Sx E b ls ts tl post mc ms u v x4 hL (by omega) (by omega) hx (fun q S36 S24 hJ h24 f24 => p5 S24 _ h24 (fun S26 o t1 t2 t3 => ⟨q, rfl, ?_⟩) dc hdc)⟩⟩
    · obtain ⟨fa, rfl⟩ : ∃ f, fa = f + 1 := ⟨fa - 1, by omega⟩
      obtain ⟨fo, rfl⟩ : ∃ f, fo = f + 1 + 1 := ⟨fo - 2, by omega⟩
      refine rpre da fa (fo + 1) Q hd ⟨1, ?_⟩
      rw [p1]; exact al_bad (KP.bad (by omega) hQ)
    · refine LJ.bad hJ (f24.trans t2) t1 (fun S' s1 s2 s3 => ?_)
      rw [show 2000 - x4 = (1999 - x4) + 1 from by omega, nI_1]
      exact w43d s1 (by omega) (by omega) (hp S' s1 s2 s3)
theorem RUN (ht : tC bf z c) (hD : D ≤ 13) (hone : ONEp G cx bf z c bk nr ra nm D) : ∀ k i1 cn1 (σ : rf_S) na (pend : Option Nat), c - i1 ≤ k → rA bf z bk nr nm i1 cn1 σ → σ.1 61 = nI (13 - D) → i1 ≤ c → inB bk cn1 na → (∀ no, pend = some no → inB bk cn1 no) → 2 * (cn1 + pd pend) ≤ qp bf z i1 → RUNp G cx bf z c bk nr ra nm D i1 cn1 σ na pend := by
  intro k
  induction k with
  | zero =>
    intro i1 cn1 σ na pend hk h h61 hi hna hno hcn
    have e : i1 = c := by omega
    have := ht.2.2.2.1
    exact RUN.e ht h h61 hi hna hno hcn (by rw [e]; omega) (by rw [e]; omega)
  | succ k ih =>
    intro i1 cn1 σ na pend hk h h61 hi hna hno hcn
    have ih' : ∀ i2 cn2 (σ2 : rf_S) na2 (pend2 : Option Nat), i1 < i2 → rA bf z bk nr nm i2 cn2 σ2 → σ2.1 61 = nI (13 - D) → i2 ≤ c → inB bk cn2 na2 → (∀ no, pend2 = some no → inB bk cn2 no) → 2 * (cn2 + pd pend2) ≤ qp bf z i2 → RUNp G cx bf z c bk nr ra nm D i2 cn2 σ2 na2 pend2 := fun i2 cn2 σ2 na2 pend2 hl => ih i2 cn2 σ2 na2 pend2 (by omega)
    by_cases k2 : kt bf z i1 = 32
    · exact RUN.o ht hD hone ih' h h61 hi hna hno hcn k2
    · by_cases k3 : kt bf z i1 = 33
      · exact RUN.a ht hD hone ih' h h61 hi hna hno hcn k3
      · exact RUN.e ht h h61 hi hna hno hcn k2 k3
/-- a whole condition -/
def CONDp (G cx : Nat → Nat) (bf : Nat → Nat) (z c bk nr : Nat) (ra : Nat → Nat) (nm : Nat → Int64) (D : Nat) : Prop := ∀ (i cn : Nat) (σ : rf_S), rA bf z bk nr nm i cn σ → σ.1 61 = nI (13 - D) → i ≤ c → OUTC G cx bf z c bk nr ra nm (D + 1) 0 0 10 114 i cn (13 - D) σ (fun Q => ∀ d, 3 * D + 3 ≤ d → wg_X12_one d 1 Q σ) (fun post m n S => ∀ d, 2 * D + 2 ≤ d → wg_X5_readCond d 0 post G m n S (cx 0) (nI (13 - D)))
theorem COND (ht : tC bf z c) (hD : D ≤ 13) (hone : ONEp G cx bf z c bk nr ra nm D) : CONDp G cx bf z c bk nr ra nm D := by
  intro i cn σ h h61 hi
  have hz := ht.1
  have hqz := ht.le i hi
  have hbk := h.2.2.1.2.2
  have hcn := h.2.2.2.2.1.2.1
  obtain ⟨r2, σ2, m2, n2, o1, o2, oc⟩ := hone i cn σ h h61 hi
  -- the class up to the first part
  have cpre : ∀ (d : Nat) (S : cs_S) (post : Option Nat → cs_S → Prop) (mc ms : Nat), pA G cx bf z c nr ra nm i S → 0 + 1 + 1 + m2 ≤ mc → 0 + 7 + 7 + n2 ≤ ms → (∀ E q S45, LJ G cx bf z c nr ra nm D i σ none S S45 E q [] → wg_X5_readCond d 1 (fun r47 S47 => cs_k S47 q = 3 ∧ wp_X1_append (fun S49 => ∃ n9, w_X5_readCond_43 post G mc ms (fun post mc ms S o a0 => wg_X5_readCond d 0 post G mc ms S o a0) (fun post mc ms S o a0 => wg_X5_readCond d 1 post G mc ms S o a0) n9 S49 (0 + 1 + 1 + m2) (0 + 7 + 7 + n2) (cx 0) (nI (13 - D)) (some E) (some q) 0) G S47 q r47) G m2 n2 S45 (cx 0) (nI (13 - D))) → wg_X5_readCond (d + 1) 0 post G mc ms S (cx 0) (nI (13 - D)) := by
    intro d S post mc ms hA hu hv g
    refine wgc_0 ⟨by omega, by omega, fun E hE => c_cond ⟨by omega, by omega, fun q hq => c_cond ?_⟩⟩
    have kE : cs_k (nC S E 32 0 0 none) E = 3 := nC.k
    have qE : q ≠ E := fun e => by rw [e, kE] at hq; exact absurd hq (by decide)
    have qd : cs_k S q = 0 := (nC.fx (E := fun _ _ _ => False) hE).dead hq
    obtain ⟨kE2, -, iE2, -, rE2, -⟩ := nC.fx (S := nC S E 32 0 0 none) (q := q) (a := 33) (b := 0) (d := 0) (e := none) (E := fun _ _ _ => False) hq E (by rw [kE]; decide)
    have k3 : cs_k (nC (nC S E 32 0 0 none) q 33 0 0 none) E = 3 := kE2.trans kE
    refine ⟨k3, fun w => (nomatch w), fun b12 e12 => ⟨k3, fun r14 e14 => ⟨fun _ S20 e20 => ⟨by rw [e20]; exact k3, fun S11 e11 => ?_⟩, fun b15 e15 => ?_⟩⟩⟩
    · cases e12
      have hJ : LJ G cx bf z c nr ra nm D i σ none S S11 E q [] := by
        have rS : ∀ f y, cs_r S11 f y = if f = 205 ∧ y = E then some q else if f = 204 ∧ y = E then some q else cs_r (nC (nC S E 32 0 0 none) q 33 0 0 none) f y := fun f y => by rw [e11, rur, e20, rur]
        have kS : ∀ y, cs_k S11 y = cs_k (nC (nC S E 32 0 0 none) q 33 0 0 none) y := fun y => by rw [e11, e20]; rfl
        have iS : ∀ f y, cs_i S11 f y = cs_i (nC (nC S E 32 0 0 none) q 33 0 0 none) f y := fun f y => by rw [e11, e20]; rfl
        have hf3 : fX (fun s f y => y = E) (nC (nC S E 32 0 0 none) q 33 0 0 none) S11 := by
          rw [e11, e20]
          exact (fX.rfl.ur (Or.inl rfl)).ur (Or.inl rfl)
        refine ⟨((hA.nc hE).nc hq).c3 hf3 (fun s f a w => by rw [w]; exact k3), ?_, ⟨hE, (kS E).trans k3, (iS _ E).trans ((iE2 200 (fun w => w)).trans nC.i0), ?_, ?_⟩, ⟨qd, (kS q).trans nC.k, qE, (iS _ q).trans nC.i0, ?_, ?_⟩, fun _ => False, fun y hy => hy.elim, ?_, Or.inl ⟨rfl, rfl⟩, fun g hg => (nomatch hg), fun g hg => (nomatch hg)⟩
        · rw [e11, e20]
          exact (((nC.fx hE).trans (nC.fx hq)).ur (Or.inr hE)).ur (Or.inr hE)
        · rw [rS, if_neg (fun w => absurd w.1 (by decide)), if_neg (fun w => absurd w.1 (by decide)), rE2 206 (fun w => w)]; exact nC.r (by decide)
        · rw [rS, if_pos ⟨rfl, rfl⟩]
        · rw [rS, if_neg (fun w => absurd w.1 (by decide)), if_neg (fun w => absurd w.1 (by decide))]; exact nC.r (by decide)
        · rw [rS, if_neg (fun w => qE w.2), if_neg (fun w => absurd w.1 (by decide))]; exact nC.r (by decide)
        · show cs_r S11 204 E = some q
          rw [rS, if_neg (fun w => absurd w.1 (by decide)), if_pos ⟨rfl, rfl⟩]
      exact ⟨hJ.1.1.1.1, m2, n2, hu, hv, g E q S11 hJ⟩
    · rw [e14, rE2 205 (fun w => w), nC.r (by decide)] at e15; exact nomatch e15
  -- the reference up to the first part
  have rpre : ∀ (d : Nat) (Q : Int32 → rf_S → Prop), 3 * D + 3 ≤ d → (∀ da, 3 * D + 1 ≤ da → ∃ n9, w_X12_allOf_5 (KP none da 1 Q) (wg_X12_one da 0) (wg_X12_one da 1) (wg_X12_one da 2) n9 σ2 r2) → wg_X12_one d 1 Q σ := by
    intro d Q hd g
    obtain ⟨d, rfl⟩ : ∃ e, d = e + 1 + 1 := ⟨d - 2, by omega⟩
    exact wg_1 (wg_2 (o2 _ (g d (by omega)) d (by omega)))
  rcases oc with ⟨i2, cn2, nd2, p1, p2, p3, ⟨p4, p4b⟩, p5, p6, p7, p8, p9, p10⟩ | ⟨fk, fp, p1, p2, p3, p4, p5⟩
  · have hq2 := ht.le i2 p3
    obtain ⟨r, σ1, m, n, g1, g2, g3⟩ := RUN ht hD hone (c - i2) i2 cn2 σ2 nd2 none (Nat.le_refl _) p5 p6 p3 p7 (fun no e => nomatch e) (by have := p5.2.2.2.2.1.2.1; show 2 * (cn2 + 0) ≤ qp bf z i2; omega)
    have cstep : ∀ (d : Nat) (S : cs_S) (post : Option Nat → cs_S → Prop) (mc ms : Nat), 2 * D + 2 ≤ d → pA G cx bf z c nr ra nm i S → 0 + 1 + 1 + m2 ≤ mc → 0 + 7 + 7 + n2 ≤ ms → (∀ e E q S49 t, d = e + 1 → LI G cx bf z c nr ra nm D i2 σ2 nd2 none S S49 E q [] [] t → w_X5_readCond_43 post G mc ms (fun post mc ms S o a0 => wg_X5_readCond e 0 post G mc ms S o a0) (fun post mc ms S o a0 => wg_X5_readCond e 1 post G mc ms S o a0) (2001 - 0) S49 (0 + 1 + 1 + m2) (0 + 7 + 7 + n2) (cx 0) (nI (13 - D)) (some E) (some q) (nI 0)) → wg_X5_readCond d 0 post G mc ms S (cx 0) (nI (13 - D)) := by
      intro d S post mc ms hd hA hu hv g
      obtain ⟨d, rfl⟩ : ∃ e, d = e + 1 := ⟨d - 1, by omega⟩
      refine cpre d S post mc ms hA hu hv (fun E q S45 hJ => p10 S45 _ hJ.1 (fun S47 a t t1 t2 t3 t4 t5 t6 t7 t8 t9 => ⟨?_, ?_⟩) d (by omega))
      · have hJ' := hJ
        obtain ⟨-, -, -, ⟨b1, b2, -⟩, -⟩ := hJ'
        rw [(pEl t2 (by rw [b2]; decide)).1]; exact b2
      · exact LJ.app hJ fX.rfl t1 t2 t3 t4 t5 t6 (prS.of h (by omega) o1) (fun no e => nomatch e) t7 t8 t9 (fun S49 h49 => ⟨2001, g d E q S49 t rfl h49⟩)
    rcases g3 with ⟨i3, cn3, nd, c1, c2, c3, ⟨c4, c4b⟩, c5, c6, c7, c8, c9, c10⟩ | ⟨fk, fp, c1, c2, c3, c4, c5⟩
    · have c4b : 2 * cn3 + qp bf z i2 ≤ 2 * cn2 + qp bf z i3 + 2 * 0 := c4b
      refine ⟨r, σ1, 1 + 1 + m2 + m, 7 + 7 + n2 + n, o1.trans g1 p4, fun Q hQ d hd => rpre d Q hd (fun da hda => ⟨c - i2 + 1, by rw [p1]; exact g2 da (c - i2 + 1) (c - i2 + 1) Q hda (by omega) (by omega) hQ⟩), Or.inl ⟨i3, cn3, nd, c1, by omega, c3, ⟨by omega, by omega⟩, c5, c6, c7, by omega, by omega, fun S post hA hp d hd => cstep d S post _ _ hd hA (by omega) (by omega) (fun e E q S49 t he h49 => c10 e S S49 E q [] [] t post _ _ _ _ 0 (by omega) h49 (by omega) (by omega) (by omega) (fun S1 t y1 y2 y3 y4 y5 y6 y7 y8 y9 => hp S1 E t y1 y2 y3 y4 y5 y6 y7 y8 y9))⟩⟩
    · refine ⟨r, σ1, 1 + 1 + m2 + m, 7 + 7 + n2 + n, o1.trans g1 p4, fun Q hQ d hd => rpre d Q hd (fun da hda => ⟨c - i2 + 1, by rw [p1]; exact g2 da (c - i2 + 1) (c - i2 + 1) Q hda (by omega) (by omega) hQ⟩), Or.inr ⟨fk, fp, c1, c2, by omega, by omega, fun S post hA hp d hd => cstep d S post _ _ hd hA (by omega) (by omega) (fun e E q S49 t he h49 => c5 e S S49 E q [] [] t post _ _ _ _ 0 (by omega) h49 (by omega) (by omega) (by omega) (fun S1 y1 y2 y3 => hp S1 (some E) y1 y2 (fun b eb => by cases eb; exact y3)))⟩⟩
  · refine ⟨-1, σ2, 1 + 1 + m2, 7 + 7 + n2, o1, fun Q hQ d hd => rpre d Q hd (fun da hda => ⟨1, by rw [p1]; exact al_bad (KP.bad (by omega) hQ)⟩), Or.inr ⟨fk, fp, rfl, p2, by omega, by omega, fun S post hA hp d hd => ?_⟩⟩
    obtain ⟨d, rfl⟩ : ∃ e, d = e + 1 := ⟨d - 1, by omega⟩
    refine cpre d S post _ _ hA (by omega) (by omega) (fun E q S45 hJ => p5 S45 _ hJ.1 (fun S47 o t1 t2 t3 => LJ.bad hJ t2 t1 (fun S' s1 s2 s3 => ⟨1, w43d (x4 := 0) s1 (by omega) (by omega) (hp S' (some E) s1 s2 (fun b eb => by cases eb; exact s3))⟩)) d (by omega))
end RU3
