/-! ===== the class's rules(), as far as the first token ===== -/
def cxF (a b c d e f g : Nat) : Nat → Nat := fun i => if i = 0 then a else if i = 1 then b else if i = 2 then c else if i = 3 then d else if i = 4 then e else if i = 5 then f else g
def stE (xo sc kd pl am : Nat) (s f a : Nat) : Prop := scE sc kd pl am s f a ∨ (s = 0 ∧ a = xo ∧ f = 1201)
section CST
variable {G : Nat → Nat} {xo tp sc kd pl am rv rc pk wt z : Nat} {bf : Nat → Nat} {S : cs_S} {ra : Nat → Nat} {nm : Nat → Int64}
theorem c_start (hC : cf_C G S xo tp sc kd pl am rv rc pk wt) (h1201 : cs_i S 1201 xo = nI z) (hz : z ≤ 2100) (hb : ∀ j, j < z → bf j < 256) (ht : ∀ j, j < z → cs_ai S tp j = nI (bf j)) {post : Int32 → cs_S → Prop} {mc ms : Nat} (hm : 2 ≤ mc) (hn : 19 ≤ ms)
    (hp : ∀ S26 q66 q16 c, tC bf z c → pA G (cxF q66 sc kd pl am tp q16) bf z c 0 ra nm 0 S26 → fX (stE xo sc kd pl am) S S26 → cs_i S26 1201 xo = 0 → cs_k S q66 = 0 → cs_k S q16 = 0 → ∃ n9, w_X11_rules_34 post G mc ms n9 S26 2 19 xo (some q66) 0) : wp_X11_rules post G mc ms S xo := by
  obtain ⟨⟨a1, a2, a3, a4, a5⟩, ⟨b1, b2⟩, ⟨c1, c2, c3, c4, c5⟩, ⟨d1, d2, d3, d4, d5, d6, d7, d8, d9⟩, ⟨e1, e2, e3, e4⟩, ⟨f1, f2, f3, f4, f5⟩, ⟨g1, g2, g3, g4, g5, g6, g7, g8, g9, g10, g11⟩⟩ := id hC
  refine ⟨a1, fun r59 e59 r60 e60 => ⟨sc, e59.trans a3, c1, ?_⟩⟩
  rw [e60.trans a2, h1201]
  refine ⟨c1, fun S35 e35 => ⟨tp, rfl, by rw [e35]; exact b1, by rw [e35]; exact c1, fun S39 e39 => ⟨by rw [e39, e35]; exact c1, fun S41 e41 => ⟨z + 1, ?_⟩⟩⟩⟩
  have nif : (if Int32.ofNat (cs_n S35 tp) < nI z then Int32.ofNat (cs_n S35 tp) else nI z) = nI z := by
    rw [e35]
    show (if Int32.ofNat (cs_n S tp) < nI z then Int32.ofNat (cs_n S tp) else nI z) = nI z
    rw [b2, if_neg (fun q => ?_)]
    have := (nI_ltI (a := 2100) (by decide) (by omega)).mp q
    omega
  rw [nif] at e39
  have f41 : fX (scE sc kd pl am) S S41 := by
    rw [e41, e39, e35]
    exact ((fX.rfl.ur (Or.inl (Or.inr (Or.inl ⟨rfl, rfl, rfl⟩)))).ui (Or.inl (Or.inl ⟨rfl, rfl⟩))).ui (Or.inl (Or.inl ⟨rfl, rfl⟩))
  have nsc : ∀ {a}, cs_k S a = 20 ∨ cs_k S a = 21 ∨ cs_k S a = 13 → a ≠ sc := fun h e => by rw [e] at h; omega
  refine c_scan (S0 := S) (rv := rv) (z := z) (bf := bf) g1 g2 g7 (fun S' hF => ?_) (fun S62 c hZ => ?_) z 0 0 S41 (by omega) (by omega) (by omega) (by omega) rfl ?_ ?_ (fun i hi => absurd hi (Nat.not_lt_zero _)) (fun i hi => absurd hi (Nat.not_lt_zero _)) f41
  · obtain ⟨s1, -, -, -, s5, -⟩ := hF sc (by omega)
    obtain ⟨v1, v2, -, -, -, -, v7, -⟩ := hF rv (by omega)
    have nrv : ∀ j, ¬ scE sc kd pl am 4 j rv := fun j q => by
      rcases q with q | q | q | q
      · exact absurd q.1 (by decide)
      · exact absurd q.1 (by decide)
      · exact absurd q.1 (by decide)
      · exact g7 q.2.symm
    exact ⟨(s5 903 (fun q => by
      rcases q with q | q | q | q
      · exact absurd q.1 (by decide)
      · exact absurd q.2.2 (by decide)
      · exact absurd q.1 (by decide)
      · exact absurd q.1 (by decide))).trans c5, v1.trans d7, v2.trans d8, fun j => (v7 j (nrv j)).trans (d9 j)⟩
  · -- scanned
    obtain ⟨z1, z2, z3, z4, z5, z6⟩ := hZ
    have hT : tC bf z c := ⟨hz, hb, z3, z4, z5⟩
    have live : ∀ {a n : Nat}, cs_k S a = n → n ≠ 0 → cs_k S62 a = n := fun h1 h2 => ((z6 _ (by rw [h1]; exact h2)).1).trans h1
    have k62 : cs_k S62 xo = 13 := live a1 (by decide)
    have sc62 : ∀ f, f ≠ 904 → cs_r S62 f sc = cs_r S f sc := fun f hf => (z6 sc (by omega)).2.2.2.2.1 f (fun q => by
      rcases q with q | q | q | q
      · exact absurd q.1 (by decide)
      · exact hf q.2.2
      · exact absurd q.1 (by decide)
      · exact absurd q.1 (by decide))
    have len62 : ∀ {a n m : Nat}, cs_k S a = n → n ≠ 0 → cs_n S a = m → cs_n S62 a = m := fun h1 h2 h3 => ((z6 _ (by rw [h1]; exact h2)).2.1).trans h3
    have xo62 : ∀ f, cs_r S62 f xo = cs_r S f xo := fun f => (z6 xo (by omega)).2.2.2.2.1 f (fun q => by
      rcases q with q | q | q | q
      · exact absurd q.1 (by decide)
      · exact absurd q.2.1 (nsc (Or.inr (Or.inr a1)))
      · exact absurd q.1 (by decide)
      · exact absurd q.1 (by decide))
    refine ⟨k62, fun S65 e65 => ⟨by omega, by omega, fun q66 h66 S67 e67 => ?_⟩⟩
    have d66 : cs_k S62 q66 = 0 := by rw [e65] at h66; exact h66
    have n66 : ∀ {a n : Nat}, cs_k S62 a = n → n ≠ 0 → a ≠ q66 := fun h1 h2 e => h2 (by rw [← h1, e]; exact d66)
    have k67 : ∀ {a n : Nat}, cs_k S62 a = n → n ≠ 0 → cs_k S67 a = n := fun h1 h2 => by
      rw [e67, knew, if_neg (n66 h1 h2), e65]; exact h1
    have r67 : ∀ {a n : Nat} (f : Nat), cs_k S62 a = n → n ≠ 0 → cs_r S67 f a = cs_r S62 f a := fun f h1 h2 => by
      rw [e67, rnew, if_neg (n66 h1 h2), e65]; rfl
    refine ⟨k67 k62 (by decide), fun r69 e69 => ⟨1, 12, by omega, by omega, ?_⟩⟩
    rw [e69, r67 1204 k62 (by decide), xo62, a3]
    have kq67 : cs_k S67 q66 = 7 := by rw [e67, knew, if_pos rfl]
    refine ⟨kq67, fun S15 e15 => ⟨by decide, by decide, by decide, by decide, fun q16 h16 S17 e17 => ?_⟩⟩
    have dq16 : cs_k S67 q16 = 0 := by rw [e15] at h16; exact h16
    have nq : q66 ≠ q16 := fun e => by rw [e, dq16] at kq67; omega
    have n16 : ∀ {a n : Nat}, cs_k S62 a = n → n ≠ 0 → a ≠ q16 := fun h1 h2 e => by
      have := k67 h1 h2
      rw [e, dq16] at this
      exact h2 this.symm
    refine ⟨by rw [e17, knewA, if_neg nq, e15]; exact kq67, fun S19 e19 => ?_⟩
    have k19 : ∀ {a n : Nat}, cs_k S62 a = n → n ≠ 0 → cs_k S19 a = n := fun h1 h2 => by
      rw [e19]; show cs_k S17 _ = _
      rw [e17, knewA, if_neg (n16 h1 h2), e15]; exact k67 h1 h2
    have r19 : ∀ {a n : Nat} (f : Nat), cs_k S62 a = n → n ≠ 0 → cs_r S19 f a = cs_r S62 f a := fun f h1 h2 => by
      rw [e19, rur, if_neg (fun e => n66 h1 h2 e.2), e17]
      show cs_r S15 f _ = _
      rw [e15, rur, if_neg (fun e => n66 h1 h2 e.2)]
      exact r67 f h1 h2
    have l19 : ∀ {a n m : Nat}, cs_k S62 a = n → n ≠ 0 → cs_n S62 a = m → cs_n S19 a = m := fun h1 h2 h3 => by
      rw [e19]; show cs_n S17 _ = _
      rw [e17, nnewA, if_neg (n16 h1 h2), e15]; show cs_n S67 _ = _
      rw [e67, nnew, e65]; exact h3
    have ai19 : ∀ {a n : Nat} (j : Nat), cs_k S62 a = n → n ≠ 0 → cs_ai S19 a j = cs_ai S62 a j := fun j h1 h2 => by
      rw [e19]; show cs_ai S17 _ j = _
      rw [e17, ainewA, if_neg (n16 h1 h2), e15]; show cs_ai S67 _ j = _
      rw [e67, ainew, e65]; rfl
    have al19 : ∀ {a n : Nat} (j : Nat), cs_k S62 a = n → n ≠ 0 → cs_al S19 a j = cs_al S62 a j := fun j h1 h2 => by
      rw [e19]; show cs_al S17 _ j = _
      rw [e17, alnewA, if_neg (n16 h1 h2), e15]; show cs_al S67 _ j = _
      rw [e67, alnew, e65]; rfl
    have kq19 : cs_k S19 q66 = 7 := by
      rw [e19]; show cs_k S17 q66 = 7
      rw [e17, knewA, if_neg nq, e15]; exact kq67
    refine ⟨sc, rfl, k19 (live c1 (by decide)) (by decide), fun r22 e22 => ⟨kd, ?_, k19 (live d1 (by decide)) (by decide), ?_, kq19, fun S26 e26 => ?_⟩⟩
    · rw [e22, r19 900 (live c1 (by decide)) (by decide), sc62 900 (by decide)]; exact c2
    · rw [l19 (live d1 (by decide)) (by decide) (len62 d1 (by decide) d2)]; exact nI_in (c := 0) (N := 2001) (by decide) (by decide)
    · have e606 : cs_ai S19 kd (0 : Int32).toNatClampNeg = nI (kt bf z 0) := by
        show cs_ai S19 kd 0 = _
        rw [ai19 0 (live d1 (by decide)) (by decide)]
        exact (z2 0 (by omega)).1
      rw [e606] at e26
      have i66 : ∀ f, f ≠ 606 → cs_i S26 f q66 = 0 := fun f hf => by
        rw [e26, iui, if_neg (fun e => hf e.1), e19]; show cs_i S17 f q66 = 0
        rw [e17]; show cs_i S15 f q66 = 0
        rw [e15]; show cs_i S67 f q66 = 0
        rw [e67, inew, if_pos rfl]
      have fA : fX (stE xo sc kd pl am) S S65 := by
        rw [e65]; exact (z6.mono (fun s f a e => Or.inl e)).ui (Or.inl (Or.inr ⟨rfl, rfl, rfl⟩))
      have dS : cs_k S q66 = 0 := fA.dead h66
      have f67 : fX (stE xo sc kd pl am) S S67 := by rw [e67]; exact fA.new h66
      have fB : fX (stE xo sc kd pl am) S S15 := by rw [e15]; exact f67.ur (Or.inr dS)
      have fC : fX (stE xo sc kd pl am) S S26 := by
        rw [e26, e19, e17]
        exact ((fB.newA h16).ur (Or.inr dS)).ui (Or.inr dS)
      have e1201 : cs_i S26 1201 xo = 0 := by
        have nx : xo ≠ q66 := n66 k62 (by decide)
        rw [e26, iui, if_neg (fun e => nx e.2), e19]; show cs_i S17 1201 xo = 0
        rw [e17]; show cs_i S15 1201 xo = 0
        rw [e15]; show cs_i S67 1201 xo = 0
        rw [e67, inew, if_neg nx, e65, iui, if_pos ⟨rfl, rfl⟩]
      refine hp S26 q66 q16 c hT ?_ fC e1201 dS (fB.dead h16)
      have K : ∀ {a n : Nat}, cs_k S62 a = n → n ≠ 0 → cs_k S26 a = n := fun h1 h2 => by rw [e26]; exact k19 h1 h2
      have N : ∀ {a n m : Nat}, cs_k S62 a = n → n ≠ 0 → cs_n S62 a = m → cs_n S26 a = m := fun h1 h2 h3 => by rw [e26]; exact l19 h1 h2 h3
      have Rr : ∀ {a n : Nat} (f : Nat), cs_k S62 a = n → n ≠ 0 → cs_r S26 f a = cs_r S62 f a := fun f h1 h2 => by rw [e26]; exact r19 f h1 h2
      have k10 := live c1 (by decide)
      refine ⟨⟨⟨?_, ?_, ?_, i66 601 (by decide)⟩, ⟨K k10 (by decide), (Rr 900 k10 (by decide)).trans ((sc62 900 (by decide)).trans c2), (Rr 901 k10 (by decide)).trans ((sc62 901 (by decide)).trans c3), (Rr 902 k10 (by decide)).trans ((sc62 902 (by decide)).trans c4), (Rr 904 k10 (by decide)).trans z1.2.2.1⟩, ⟨K (live d1 (by decide)) (by decide), N (live d1 (by decide)) (by decide) (len62 d1 (by decide) d2)⟩, ⟨K (live d3 (by decide)) (by decide), N (live d3 (by decide)) (by decide) (len62 d3 (by decide) d4)⟩, ⟨K (live d5 (by decide)) (by decide), N (live d5 (by decide)) (by decide) (len62 d5 (by decide) d6)⟩, ⟨K (live b1 (by decide)) (by decide), N (live b1 (by decide)) (by decide) (len62 b1 (by decide) b2)⟩, ⟨?_, ?_⟩, fun i hi => ?_, fun j hj => ?_, fun r hr => absurd hr (Nat.not_lt_zero _), ⟨K (live f2 (by decide)) (by decide), N (live f2 (by decide)) (by decide) (len62 f2 (by decide) f3)⟩⟩, Nat.zero_le _, i66 602 (by decide), i66 605 (by decide), ?_⟩
      · rw [e26]; exact kq19
      · show cs_r S26 604 q66 = some sc
        rw [e26]; show cs_r S19 604 q66 = _
        rw [e19, rur, if_neg (fun e => absurd e.1 (by decide)), e17]; show cs_r S15 604 q66 = _
        rw [e15, rur, if_pos ⟨rfl, rfl⟩]
      · show cs_r S26 600 q66 = some q16
        rw [e26]; show cs_r S19 600 q66 = _
        rw [e19, rur, if_pos ⟨rfl, rfl⟩]
      · show cs_k S26 q16 = 22
        rw [e26]; show cs_k S19 q16 = 22
        rw [e19]; show cs_k S17 q16 = 22
        rw [e17, knewA, if_pos rfl]
      · show cs_n S26 q16 = 12
        rw [e26]; show cs_n S19 q16 = 12
        rw [e19]; show cs_n S17 q16 = 12
        rw [e17, nnewA, if_pos rfl]; rfl
      · obtain ⟨t1, t2, t3⟩ := z2 i hi
        show cs_ai S26 kd i = _ ∧ cs_ai S26 pl i = _ ∧ (_ → cs_al S26 am i = _)
        rw [e26]
        exact ⟨(ai19 i (live d1 (by decide)) (by decide)).trans t1, (ai19 i (live d3 (by decide)) (by decide)).trans t2, fun q => (al19 i (live d5 (by decide)) (by decide)).trans (t3 q)⟩
      · show cs_ai S26 tp j = _
        rw [e26]
        exact (ai19 j (live b1 (by decide)) (by decide)).trans (z1.2.2.2.2.2.2.2 j hj)
      · show cs_i S26 606 q66 = _
        rw [e26, iui, if_pos ⟨rfl, rfl⟩]
  · rw [e41, e39, e35]
    refine ⟨c1, ?_, ?_, b1, b2, hz, hb, fun j hj => ht j hj⟩
    · rw [iui, if_neg (fun e => absurd e.1 (by decide)), iui, if_pos ⟨rfl, rfl⟩]
    · show cs_r (cs_ur S 904 sc (some tp)) 904 sc = _
      rw [rur, if_pos ⟨rfl, rfl⟩]
  · rw [e41, e39, e35]
    have r9 : ∀ f, f ≠ 904 → cs_r (cs_ui (cs_ui (cs_ur S 904 sc (some tp)) 905 sc (nI z)) 906 sc 0) f sc = cs_r S f sc := fun f hf => by
      show cs_r (cs_ur S 904 sc (some tp)) f sc = _
      rw [rur, if_neg (fun e => hf e.1)]
    exact ⟨(r9 900 (by decide)).trans c2, (r9 901 (by decide)).trans c3, (r9 902 (by decide)).trans c4, ⟨d1, d2⟩, ⟨d3, d4⟩, ⟨d5, d6⟩, by rw [iui, if_pos ⟨rfl, rfl⟩]; rfl, g4⟩
end CST
