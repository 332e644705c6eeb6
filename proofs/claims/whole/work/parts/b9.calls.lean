/-! ===== take and pass, as calls of the law ===== -/
theorem by255 (x : Int32) : ∃ b, b < 256 ∧ x &&& 255 = nI b := by
  refine ⟨(x.toBitVec &&& 255#32).toNat, ?_, ?_⟩
  · rw [BitVec.toNat_and]
    exact Nat.lt_of_le_of_lt Nat.and_le_right (by decide)
  · apply Int32.toBitVec_inj.mp
    rw [Int32.toBitVec_and]
    show x.toBitVec &&& 255#32 = (Int32.ofNat (x.toBitVec &&& 255#32).toNat).toBitVec
    rw [Int32.toBitVec_ofNat', BitVec.ofNat_toNat, BitVec.setWidth_eq]
/-- a small heap with a reader alone -/
def mS (rc tp g z p : Nat) (bf : Nat → Nat) : cs_S := (fun a => if a = rc then 8 else if a = tp then 20 else if a = g then 20 else 0, fun f a => if a = rc then (if f = 705 then nI z else if f = 706 then nI p else 0) else 0, fun _ _ => 0, fun f a => if a = rc ∧ f = 704 then some tp else none, fun a => if a = tp then 2100 else 0, fun _ j => nI (bf j), fun _ _ => 0, fun _ _ => none)
theorem mS_ok {rc tp g z p : Nat} {bf : Nat → Nat} {σ : rf_S} (h1 : tp ≠ rc) (h2 : g ≠ rc) (h3 : g ≠ tp) (hbf : ∀ j, j < z → bf j < 256) (hR : rdR σ p z) (ht : ∀ j, j < z → σ.2.2.1 1 j &&& 255 = nI (bf j)) : ∃ S0, rdJ S0 σ rc tp z p bf ∧ fs S0 ∧ cs_k S0 g = 20 ∧ cs_n S0 g = 0 := by
  refine ⟨mS rc tp g z p bf, ⟨⟨if_pos rfl, if_pos ⟨rfl, rfl⟩, ?_, if_pos rfl, ?_, ?_, hR.2.2.1, hR.2.2.2⟩, hR, ?_, hbf, fun j _ => rfl, ht⟩, ⟨rc + tp + g + 1, fun a ha => ?_⟩, ?_, if_neg h3⟩
  · show (if tp = rc then 8 else if tp = tp then 20 else if tp = g then 20 else 0) = 20
    rw [if_neg h1, if_pos rfl]
  · show (if rc = rc then (if (705 : Nat) = 705 then nI z else if (705 : Nat) = 706 then nI p else 0) else 0) = nI z
    rw [if_pos rfl, if_pos rfl]
  · show (if rc = rc then (if (706 : Nat) = 705 then nI z else if (706 : Nat) = 706 then nI p else 0) else 0) = nI p
    rw [if_pos rfl, if_neg (by decide), if_pos rfl]
  · show (if rc = rc then (if (700 : Nat) = 705 then nI z else if (700 : Nat) = 706 then nI p else 0) else 0) = 0
    rw [if_pos rfl, if_neg (by decide), if_neg (by decide)]
  · show (if a = rc then 8 else if a = tp then 20 else if a = g then 20 else 0) = 0
    rw [if_neg (by omega), if_neg (by omega), if_neg (by omega)]
  · show (if g = rc then 8 else if g = tp then 20 else if g = g then 20 else 0) = 20
    rw [if_neg h2, if_neg h3, if_pos rfl]
/-- the log, class and reference; te: where texts end; Bc, Bs: its credit -/
def LG (G : Nat → Nat) (PX : Nat → Prop) (wt : Nat) (S : cs_S) (σ : rf_S) (te : Nat) (Bc Bs : Int) : Prop :=
  ∃ (bk nr : Nat) (x k n w q L : Nat → Nat) (dp : Nat → Nat → Nat) (tr : (r c : Nat) → cT (dp r c)) (ud : Nat → Nat) (ut : (r : Nat) → Option (cT (ud r))) (nv ne na nl now : Nat) (pr lr le tm ev ra : Nat → Nat) (rr lt tl : Nat) (S0 : cs_S),
    RS0 σ bk nr x k n w q L dp tr ud ut ∧ RB σ bk nr n ∧ RD σ bk nr x n w te nv ne na 0 nl now pr lr le tm ∧ CW PX S0 G S σ wt rr lt tl bk nr ra x k n w q L dp tr ud ut te ne na 0 0 nl now pr lr le tm ev ∧ σ.1 20 = nI te ∧ CB 1 5 1 3 2 gP σ nr na 0 0 nl n pr lr le ≤ Bc ∧ CB 6 43 6 13 15 gT σ nr na 0 0 nl n pr lr le ≤ Bs ∧ RQ σ bk nr k
/-- what count tells -/
theorem LG.w {G : Nat → Nat} {PX : Nat → Prop} {wt : Nat} {S : cs_S} {σ : rf_S} {te : Nat} {Bc Bs : Int} (h : LG G PX wt S σ te Bc Bs) : jX_w S σ wt := by
  obtain ⟨bk, nr, x, k, n, w, q, L, dp, tr, ud, ut, nv, ne, na, nl, now, pr, lr, le, tm, ev, ra, rr, lt, tl, S0, hS, hB, hD, hW, -⟩ := h
  obtain ⟨_, _, _, _, _, hSH, -⟩ := hW
  obtain ⟨i1, i2, i3, i4, i5, i6⟩ := hSH.2.1
  exact ⟨hSH.1.2.2.2.2.1.trans hS.2.2.1.symm, i1.trans hD.1.1.symm, i2, i3.trans hD.2.2.2.2.2.1.2.2.1.symm, i4, i5.trans hD.1.2.2.2.1.symm⟩
/-- what lies outside -/
def PXs (G : Nat → Nat) (xo ob tp sc kd pl am rv rc pk : Nat) (a : Nat) : Prop := a = xo ∨ a = tp ∨ a = sc ∨ a = kd ∨ a = pl ∨ a = am ∨ a = rv ∨ a = rc ∨ a = pk ∨ a = ob ∨ a = G 0
theorem CB.rows {σ σ' : rf_S} {nr na ns ks nl p0 p1 t mk kc : Nat} {gf n pr lr le : Nat → Nat} (h : σ'.2 = σ.2) : CB p0 p1 t mk kc gf σ' nr na ns ks nl n pr lr le = CB p0 p1 t mk kc gf σ nr na ns ks nl n pr lr le := by
  obtain ⟨i', r'⟩ := σ'
  have g1' : r' = σ.2 := h
  subst g1'
  rfl
theorem CB.nn {p0 p1 t mk kc : Nat} {gf : Nat → Nat} {σ : rf_S} {nr na ns ks nl : Nat} {n pr lr le : Nat → Nat} : 0 ≤ CB p0 p1 t mk kc gf σ nr na ns ks nl n pr lr le := by
  unfold CB
  have h1 := sS_nn (P := fun r => n r = 0 ∧ ∀ f, ¬ KfO σ r (pr r) f) (v := fun _ => (kc : Int)) (lo := 0) (fun _ => Int.natCast_nonneg _) nr
  have h2 := sS_nn (P := fun j => σ.2.2.1 71 j = 0) (v := fun j => (lcB p0 p1 t mk σ (lr j) (le j) : Int)) (lo := 0) (fun _ => Int.natCast_nonneg _) nl
  have h3 := sS_nn (P := fun k => σ.2.2.1 10 (σ.2.2.1 82 k).toNatClampNeg = -1) (v := fun k => (scB p0 p1 t σ (σ.2.2.1 81 k).toNatClampNeg (σ.2.2.1 82 k).toNatClampNeg : Int)) (lo := ks) (fun _ => Int.natCast_nonneg _) (ns - ks)
  omega
theorem LG.nn {G : Nat → Nat} {PX : Nat → Prop} {wt : Nat} {S : cs_S} {σ : rf_S} {te : Nat} {Bc Bs : Int} (h : LG G PX wt S σ te Bc Bs) : 0 ≤ Bc ∧ 0 ≤ Bs := by
  obtain ⟨bk, nr, x, k, n, w, q, L, dp, tr, ud, ut, nv, ne, na, nl, now, pr, lr, le, tm, ev, ra, rr, lt, tl, S0, hS, hB, hD, hW, h20, hBc, hBs, hRQ⟩ := h
  exact ⟨Int.le_trans CB.nn hBc, Int.le_trans CB.nn hBs⟩
section TKC
variable {G : Nat → Nat} {xo ob tp sc kd pl am rv rc pk wt z y te : Nat} {S : cs_S} {σ : rf_S} {Bc Bs : Int}
theorem cf_C.of {S' : cs_S} (hC : cf_C G S xo tp sc kd pl am rv rc pk wt) (hw : cs_k S' wt = 12) (h : ∀ a, PXs G xo ob tp sc kd pl am rv rc pk a → (∀ f, ¬ (f = 704 ∧ a = rc) → cs_r S' f a = cs_r S f a) ∧ ∀ j, cs_al S' a j = cs_al S a j) (hk : ∀ a, cs_k S a ≠ 0 → cs_k S' a = cs_k S a ∧ cs_n S' a = cs_n S a) : cf_C G S' xo tp sc kd pl am rv rc pk wt := by
  obtain ⟨⟨a1, a2, a3, a4, a5⟩, ⟨b1, b2⟩, ⟨c1, c2, c3, c4, c5⟩, ⟨d1, d2, d3, d4, d5, d6, d7, d8, d9⟩, ⟨e1, e2, e3, e4⟩, ⟨f1, f2, f3, f4, f5⟩, g⟩ := hC
  have px : PXs G xo ob tp sc kd pl am rv rc pk xo := Or.inl rfl
  have psc : PXs G xo ob tp sc kd pl am rv rc pk sc := Or.inr (Or.inr (Or.inl rfl))
  have prv : PXs G xo ob tp sc kd pl am rv rc pk rv := Or.inr (Or.inr (Or.inr (Or.inr (Or.inr (Or.inr (Or.inl rfl))))))
  have prc : PXs G xo ob tp sc kd pl am rv rc pk rc := Or.inr (Or.inr (Or.inr (Or.inr (Or.inr (Or.inr (Or.inr (Or.inl rfl)))))))
  have kk : ∀ {a n : Nat}, cs_k S a = n → n ≠ 0 → cs_k S' a = n := fun {a n} h1 h2 => (hk a (by rw [h1]; exact h2)).1.trans h1
  have nn : ∀ {a n m : Nat}, cs_k S a = n → n ≠ 0 → cs_n S a = m → cs_n S' a = m := fun {a n m} h1 h2 h3 => (hk a (by rw [h1]; exact h2)).2.trans h3
  refine ⟨⟨kk a1 (by decide), ((h xo px).1 _ (fun z => absurd z.1 (by decide))).trans a2, ((h xo px).1 _ (fun z => absurd z.1 (by decide))).trans a3, ((h xo px).1 _ (fun z => absurd z.1 (by decide))).trans a4, ((h xo px).1 _ (fun z => absurd z.1 (by decide))).trans a5⟩, ⟨kk b1 (by decide), nn b1 (by decide) b2⟩, ⟨kk c1 (by decide), ((h sc psc).1 _ (fun z => absurd z.1 (by decide))).trans c2, ((h sc psc).1 _ (fun z => absurd z.1 (by decide))).trans c3, ((h sc psc).1 _ (fun z => absurd z.1 (by decide))).trans c4, ((h sc psc).1 _ (fun z => absurd z.1 (by decide))).trans c5⟩, ⟨kk d1 (by decide), nn d1 (by decide) d2, kk d3 (by decide), nn d3 (by decide) d4, kk d5 (by decide), nn d5 (by decide) d6, kk d7 (by decide), nn d7 (by decide) d8, fun j => ((h rv prv).2 j).trans (d9 j)⟩, ⟨kk e1 (by decide), ((h rc prc).1 _ (fun z => absurd z.1 (by decide))).trans e2, kk e3 (by decide), nn e3 (by decide) e4⟩, ⟨hw, kk f2 (by decide), nn f2 (by decide) f3, kk f4 (by decide), nn f4 (by decide) f5⟩, g⟩
theorem take_call (hC : cf_C G S xo tp sc kd pl am rv rc pk wt) (ht : jX_t S σ xo tp z) (hp : jX_p S σ xo rc pk y) (ho : jX_o S ob am rv) (hL : LG G (PXs G xo ob tp sc kd pl am rv rc pk) wt S σ te Bc Bs) (hte : te + z ≤ 20000) :
    ∃ (m n te' : Nat) (Bc' Bs' : Int), (m : Int) + Bc' ≤ Bc + ((58 * z + 19 : Nat) : Int) ∧ (n : Int) + Bs' ≤ Bs + ((600 * z + 247 : Nat) : Int) ∧ te' ≤ te + z ∧ (0 ≤ Bc' ∧ 0 ≤ Bs') ∧ ∀ (Cm Sm : Nat) (xs : Nat → Int32) (i : Nat) (K : cs_S → rf_S → Nat → Nat → Prop) (u v : Nat), u + m ≤ Cm → v + n ≤ Sm →
      (∀ S1 σ1, cf_C G S1 xo tp sc kd pl am rv rc pk wt → jX_t S1 σ1 xo tp 0 → jX_p S1 σ1 xo rc pk y → jX_o S1 ob am rv → cs_al S1 ob 0 = cs_al S ob 0 → LG G (PXs G xo ob tp sc kd pl am rv rc pk) wt S1 σ1 te' Bc' Bs' → K S1 σ1 (u + m) (v + n)) → lw_take Cm Sm xs G xo ob i K S σ u v := by
  obtain ⟨bk, nr, x, k, n, w, q, L, dp, tr, ud, ut, nv, ne, na, nl, now, pr, lr, le, tm, ev, ra, rr, lt, tl, S0, hS, hB, hD, hW, h20, hBc, hBs, hRQ⟩ := hL
  obtain ⟨⟨a1, a2, a3, a4, a5⟩, ⟨b1, b2⟩, ⟨c1, c2, c3, c4, c5⟩, ⟨d1, d2, d3, d4, d5, d6, d7, d8, d9⟩, ⟨e1, e2, e3, e4⟩, ⟨f1, f2, f3, f4, f5⟩, ⟨g1, g2, g3, g4, g5, g6, g7, g8, g9, g10, g11⟩⟩ := id hC
  obtain ⟨t1, t2, t3, t4⟩ := id ht
  obtain ⟨p1, p2, p3, p4, p5, p6⟩ := id hp
  have ntr : tp ≠ rc := fun z => by rw [z, e1] at b1; cases b1
  have ngr : G 0 ≠ rc := fun z => by rw [z, e1] at f2; cases f2
  have nxr : xo ≠ rc := fun z => by rw [z, e1] at a1; cases a1
  obtain ⟨bf, hbf⟩ : ∃ bf : Nat → Nat, ∀ j, bf j < 256 ∧ σ.2.2.1 1 j &&& 255 = nI (bf j) := ⟨fun j => (by255 (σ.2.2.1 1 j)).choose, fun j => (by255 (σ.2.2.1 1 j)).choose_spec⟩
  generalize hσ0 : rf_ui (rf_ui (rf_ui (rf_ui (rf_ui (rf_ui σ 0 0) 3 (σ.1 2)) 2 0) 4 0) 5 0) 7 ((-1)) = σ0
  have i0 : ∀ kk, σ0.1 kk = if kk = 7 then -1 else if kk = 5 then 0 else if kk = 4 then 0 else if kk = 2 then 0 else if kk = 3 then σ.1 2 else if kk = 0 then 0 else σ.1 kk := fun kk => by rw [← hσ0, r1ui, r1ui, r1ui, r1ui, r1ui, r1ui]
  have r0 : σ0.2 = σ.2 := by rw [← hσ0]; rfl
  have j0 : ∀ kk, 8 ≤ kk → σ0.1 kk = σ.1 kk := fun kk h => by rw [i0, if_neg (by omega), if_neg (by omega), if_neg (by omega), if_neg (by omega), if_neg (by omega), if_neg (by omega)]
  have hE0 : eB σ σ0 ne nv te := ⟨fun kk hk => j0 kk (by omega), fun _ _ _ _ _ _ _ _ => by rw [r0], fun _ _ _ _ _ => by rw [r0]⟩
  have hV0 : eV σ σ0 := ⟨fun _ _ => by rw [r0], by rw [r0]⟩
  have hD0 := hD.eb2 hE0 (j0 19 (by omega)) (j0 21 (by omega)) (j0 26 (by omega)) (fun _ => by rw [r0])
  have hS0 := hS.on hV0 (j0 32 (by omega)) (j0 33 (by omega))
  have hB0 := hB.ev hV0
  have hR0 : rdR σ0 0 z := ⟨by rw [i0, if_neg (by decide), if_neg (by decide), if_neg (by decide), if_neg (by decide), if_pos rfl]; exact t3, by rw [i0, if_neg (by decide), if_neg (by decide), if_pos rfl]; rfl, t2, by omega⟩
  obtain ⟨σ1, te1, nv1, ne1, na1, nl1, now1, pr1, lr1, le1, tm1, cnt, c, s, q1, q2, q3, q4, q5, q6, q7, q8, q9, q10⟩ := TL (G := G) (rc := rc) (tp := tp) (bf := bf) k7 t2 (fun j _ => (hbf j).1) (fun σ' p' h1 h2 => mS_ok ntr ngr (fun z => g8 z.symm) (fun j _ => (hbf j).1) h1 h2) z 0 σ0 te nv ne na nl now pr lr le tm (by omega) hS0 hB0 hD0 hR0 (fun j _ => by rw [r0]; exact (hbf j).2) ((j0 20 (by omega)).trans h20) (by omega) (by rw [i0, if_neg (by decide), if_pos rfl]) (by rw [i0, if_pos rfl])
  have cb0 : ∀ {p0 p1 t mk kc : Nat} {gf : Nat → Nat}, CB p0 p1 t mk kc gf σ0 nr na 0 0 nl n pr lr le = CB p0 p1 t mk kc gf σ nr na 0 0 nl n pr lr le := fun {p0 p1 t mk kc gf} => CB.rows r0
  rw [cb0] at q7 q8
  refine ⟨c, s, te1, CB 1 5 1 3 2 gP σ1 nr na1 0 0 nl1 n pr1 lr1 le1, CB 6 43 6 13 15 gT σ1 nr na1 0 0 nl1 n pr1 lr1 le1, by omega, by omega, by omega, ⟨CB.nn, CB.nn⟩, fun Cm Sm xs i K u v hu hv hK => ⟨c, s, hu, hv, ?_⟩⟩
  -- the class
  have hl : ∀ a, PXs G xo ob tp sc kd pl am rv rc pk a → cs_k S a ≠ 0 ∧ cs_k S a ≠ 5 := fun a ha => by
    rcases ha with rfl | rfl | rfl | rfl | rfl | rfl | rfl | rfl | rfl | rfl | rfl
    · omega
    · omega
    · omega
    · omega
    · omega
    · omega
    · omega
    · omega
    · omega
    · have := ho.1; omega
    · omega
  have px : PXs G xo ob tp sc kd pl am rv rc pk xo := Or.inl rfl
  have ptp : PXs G xo ob tp sc kd pl am rv rc pk tp := Or.inr (Or.inl rfl)
  have prc : PXs G xo ob tp sc kd pl am rv rc pk rc := Or.inr (Or.inr (Or.inr (Or.inr (Or.inr (Or.inr (Or.inr (Or.inl rfl)))))))
  have ppk : PXs G xo ob tp sc kd pl am rv rc pk pk := Or.inr (Or.inr (Or.inr (Or.inr (Or.inr (Or.inr (Or.inr (Or.inr (Or.inl rfl))))))))
  have pob : PXs G xo ob tp sc kd pl am rv rc pk ob := Or.inr (Or.inr (Or.inr (Or.inr (Or.inr (Or.inr (Or.inr (Or.inr (Or.inr (Or.inl rfl)))))))))
  have pg0 : PXs G xo ob tp sc kd pl am rv rc pk (G 0) := Or.inr (Or.inr (Or.inr (Or.inr (Or.inr (Or.inr (Or.inr (Or.inr (Or.inr (Or.inr rfl)))))))))
  refine ⟨a1, fun r86 e86 r87 e87 => ⟨rc, e86.trans a4, e1, e1, fun S14 e14 => ⟨tp, e87.trans a2, by rw [e14]; exact b1, by rw [e14]; exact e1, fun S18 e18 => ⟨by rw [e18, e14]; exact e1, fun S20 e20 => ⟨by rw [e20, e18, e14]; exact e1, fun S22 e22 => ⟨by rw [e22, e20, e18, e14]; exact e1, fun S24 e24 => ⟨by rw [e24, e22, e20, e18, e14]; exact a1, fun S92 e92 => ⟨z + 1, ?_⟩⟩⟩⟩⟩⟩⟩⟩
  have elim : (if Int32.ofNat (cs_n S14 tp) < cs_i S 1201 xo then Int32.ofNat (cs_n S14 tp) else cs_i S 1201 xo) = nI z := by
    have : cs_n S14 tp = 2100 := by rw [e14]; exact b2
    rw [this, t1]
    exact if_neg (nI_nlt (a := 2100) (b := z) t2 (by omega))
  rw [elim] at e18
  have hF : fX (fun s f a => a = rc ∨ a = xo) S S92 := by
    rw [e92, e24, e22, e20, e18, e14]
    exact (((((fX.rfl.ur (Or.inl (Or.inl rfl))).ui (Or.inl (Or.inl rfl))).ui (Or.inl (Or.inl rfl))).ui (Or.inl (Or.inl rfl))).ui (Or.inl (Or.inl rfl))).ui (Or.inl (Or.inr rfl))
  have iS : ∀ f a, cs_i S92 f a = if f = 1201 ∧ a = xo then 0 else if f = 701 ∧ a = rc then -1 else if f = 700 ∧ a = rc then 0 else if f = 706 ∧ a = rc then 0 else if f = 705 ∧ a = rc then nI z else cs_i S f a := fun f a => by rw [e92, iui, e24, iui, e22, iui, e20, iui, e18, iui, e14, iur]
  have rS : ∀ f a, cs_r S92 f a = if f = 704 ∧ a = rc then some tp else cs_r S f a := fun f a => by rw [e92, rui, e24, rui, e22, rui, e20, rui, e18, rui, e14, rur, e87, a2]
  have kS : ∀ a, cs_k S92 a = cs_k S a := fun a => by rw [e92, e24, e22, e20, e18, e14]; rfl
  have nS : ∀ a, cs_n S92 a = cs_n S a := fun a => by rw [e92, e24, e22, e20, e18, e14]; rfl
  have aiS : ∀ a j, cs_ai S92 a j = cs_ai S a j := fun a j => by rw [e92, e24, e22, e20, e18, e14]; rfl
  have alS : ∀ a j, cs_al S92 a j = cs_al S a j := fun a j => by rw [e92, e24, e22, e20, e18, e14]; rfl
  have hW1 := (hW.out (P1 := PXs G xo ob tp sc kd pl am rv rc pk) hF (fun s f a h => by
    rcases h with h | h
    · rw [h]; exact Or.inl e1
    · rw [h]; exact Or.inr (Or.inr (Or.inl a1))) (fun a ha => Or.inl ha)).eb2 hS hD hE0 (j0 22 (by omega)) (j0 23 (by omega))
  have hJ : rdJ S92 σ0 rc tp z 0 bf := by
    refine ⟨⟨(kS rc).trans e1, by rw [rS, if_pos ⟨rfl, rfl⟩], (kS tp).trans b1, (nS tp).trans b2, ?_, ?_, t2, by omega⟩, hR0, ?_, fun j _ => (hbf j).1, fun j hj => ?_, fun j _ => by rw [r0]; exact (hbf j).2⟩
    · rw [iS, if_neg (fun z => absurd z.1 (by decide)), if_neg (fun z => absurd z.1 (by decide)), if_neg (fun z => absurd z.1 (by decide)), if_neg (fun z => absurd z.1 (by decide)), if_pos ⟨rfl, rfl⟩]
    · rw [iS, if_neg (fun z => absurd z.1 (by decide)), if_neg (fun z => absurd z.1 (by decide)), if_neg (fun z => absurd z.1 (by decide)), if_pos ⟨rfl, rfl⟩]; rfl
    · rw [iS, if_neg (fun z => absurd z.1 (by decide)), if_neg (fun z => absurd z.1 (by decide)), if_pos ⟨rfl, rfl⟩]
    · rw [aiS, t4 j hj]; exact (hbf j).2
  refine q10 (PXs G xo ob tp sc kd pl am rv rc pk) S92 S92 _ c s 0 0 xo wt rr lt tl 0 0 ra ev hW1 ⟨px, prc, ptp, pg0, fun a ha => by rw [kS]; exact (hl a ha).2⟩ ⟨(kS xo).trans a1, by rw [rS, if_neg (fun z => absurd z.1 (by decide))]; exact a4, by rw [rS, if_neg (fun z => absurd z.1 (by decide))]; exact a5⟩ hJ (by rw [iS, if_neg (fun z => absurd z.1 (by decide)), if_pos ⟨rfl, rfl⟩]) ⟨(kS _).trans f2, (nS _).trans f3⟩ (Nat.le_refl _) (by omega) (by omega) (fun S' u' v' ev' hu' hv' hW2 hO h5 h7 => ?_)
  obtain ⟨hO, hKN⟩ := hO
  obtain ⟨xk, xn, xi, xl, xr, -⟩ := hO xo px
  obtain ⟨rk, rn, ri, rl, rrr, -⟩ := hO rc prc
  have kx : cs_k S' xo = 13 := xk.trans ((kS xo).trans a1)
  have kr : cs_k S' rc = 8 := rk.trans ((kS rc).trans e1)
  have r5 : cs_r S' 1205 xo = some rc := (xr 1205).trans (by rw [rS, if_neg (fun z => absurd z.1 (by decide))]; exact a4)
  refine ⟨hu', hv', kx, fun r48 e48 => ⟨rc, e48.trans r5, kr, fun S51 e51 => ⟨by rw [e51]; exact kx, fun r53 e53 => ⟨rc, by rw [e53, e51, rui]; exact r5, by rw [e51]; exact kr, fun S56 e56 => ?_⟩⟩⟩⟩
  have iF : ∀ f a, cs_i S56 f a = if f = 1203 ∧ a = xo then cs_i S' 701 rc else if f = 1202 ∧ a = xo then cs_i S' 700 rc else cs_i S' f a := fun f a => by
    rw [e56, iui, e51, iui, iui, if_neg (c := 701 = 1202 ∧ rc = xo) (fun z => absurd z.1 (by decide))]
  have kF : ∀ a, cs_k S56 a = cs_k S' a := fun a => by rw [e56, e51]; rfl
  have nF' : ∀ a, cs_n S56 a = cs_n S' a := fun a => by rw [e56, e51]; rfl
  have rF : ∀ f a, cs_r S56 f a = cs_r S' f a := fun f a => by rw [e56, e51]; rfl
  have alF' : ∀ a j, cs_al S56 a j = cs_al S' a j := fun a j => by rw [e56, e51]; rfl
  have aiF : ∀ a j, cs_ai S56 a j = cs_ai S' a j := fun a j => by rw [e56, e51]; rfl
  have hF2 : fX (fun s f a => a = xo) S' S56 := by
    rw [e56, e51]
    exact (fX.rfl.ui (Or.inl rfl)).ui (Or.inl rfl)
  have hW3 := hW2.out (P1 := PXs G xo ob tp sc kd pl am rv rc pk) hF2 (fun s f a h => by rw [h]; exact Or.inr (Or.inr (Or.inl kx))) (fun a ha => Or.inl ha)
  refine ⟨z + 1, ?_⟩
  rw [hσ0]
  refine q9 _ 0 ⟨rfl, hK S56 σ1 ?_ ?_ ?_ ?_ ?_ ⟨bk, nr, x, k, n, w, q, L, dp, tr, ud, ut, nv1, ne1, na1, nl1, now1, pr1, lr1, le1, tm1, ev', ra, rr, lt, tl, S56, q1, q2, q3, hW3, q4, Int.le_refl _, Int.le_refl _, (hRQ.er (eR.rw r0)).er q6.2.2.2.2⟩⟩
  · refine hC.of (ob := ob) ?_ (fun a ha => ?_) (fun a ha => ?_)
    · obtain ⟨_, _, _, _, _, hSH, -⟩ := hW3
      exact hSH.1.1
    · obtain ⟨-, -, -, -, y5, -, y7, -⟩ := hO a ha
      refine ⟨fun f hn => by rw [rF, y5, rS, if_neg hn], fun j => ?_⟩
      · rw [alF', y7, alS]
    · obtain ⟨y1, y2⟩ := hKN a (by rw [kS]; exact ha)
      exact ⟨(kF a).trans (y1.trans (kS a)), (nF' a).trans (y2.trans (nS a))⟩
  · refine ⟨?_, by omega, ?_, fun j hj => absurd hj (by omega)⟩
    · rw [iF, if_neg (fun z => absurd z.1 (by decide)), if_neg (fun z => absurd z.1 (by decide)), xi 1201 (fun h => absurd h nxr), iS, if_pos ⟨rfl, rfl⟩]; rfl
    · rw [q6.2.1, i0, if_neg (by decide), if_neg (by decide), if_neg (by decide), if_pos rfl]; rfl
  · refine ⟨?_, ?_, ?_, p4, ?_, fun j hj => ?_⟩
    · rw [iF, if_neg (fun z => absurd z.1 (by decide)), if_pos ⟨rfl, rfl⟩]; exact h5.symm
    · rw [iF, if_pos ⟨rfl, rfl⟩]; exact h7.symm
    · rw [iF, if_neg (fun z => absurd z.1 (by decide)), if_neg (fun z => absurd z.1 (by decide)), ri 703 (fun _ => by decide), iS, if_neg (fun z => absurd z.1 (by decide)), if_neg (fun z => absurd z.1 (by decide)), if_neg (fun z => absurd z.1 (by decide)), if_neg (fun z => absurd z.1 (by decide)), if_neg (fun z => absurd z.1 (by decide))]
      exact p3
    · rw [q6.2.2.1, j0 85 (by omega)]; exact p5
    · rw [aiF, (hO pk ppk).2.2.2.2.2.1, aiS, q6.2.2.2.1, r0]; exact p6 j hj
  · obtain ⟨y1, y2⟩ := hKN ob (by rw [kS]; have := ho.1; omega)
    exact ⟨(kF ob).trans (y1.trans ((kS ob).trans ho.1)), (nF' ob).trans (y2.trans ((nS ob).trans ho.2.1)), ho.2.2⟩
  · rw [alF', (hO ob pob).2.2.2.2.2.2.1, alS]
end TKC
