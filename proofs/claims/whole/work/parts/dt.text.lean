/-! ===== a text: rule after rule ===== -/
section TXS
variable {G cx : Nat → Nat} {bf : Nat → Nat} {z c bk nr nr' i cn cn' r R : Nat} {ra : Nat → Nat} {nm : Nat → Int64} {σ σ' : rf_S} {S S' S0 : cs_S} {fk fp : Int32} {a bt wt nb x k n w q L : Nat} {tr : Nat → cT 14} {ut : Option (cT 14)}
theorem gF.wk (h : gF bk nr' cn' σ σ') (h1 : nr ≤ nr') (h2 : cn ≤ cn') : gF bk nr cn σ σ' := ⟨h.1, h.2.1, fun k j a b d => h.2.2.1 k j (fun q => by have := a q; omega) (fun q => by have := b q; omega) (fun q => by have := d q; omega), fun k j a b d => h.2.2.2 k j (fun q => by have := a q; omega) (fun q => by have := b q; omega) (fun q => by have := d q; omega)⟩
/-- a rule that has been read stays -/
theorem fin.on0 {E : Nat → Nat → Nat → Prop} (h : fin S0 S σ bk cn r a bt wt nb x k n w q L tr ut) (hbk : bk ≤ 1) (hP : prS σ σ' bk cn) (row : ∀ kk, 36 ≤ kk → kk ≤ 45 → kk ≠ 41 → σ'.2.2.1 kk (12 * bk + r) = σ.2.2.1 kk (12 * bk + r)) (r41 : ∀ c, c < 5 → σ'.2.2.1 41 (6 * (12 * bk + r) + c) = σ.2.2.1 41 (6 * (12 * bk + r) + c)) (l36 : σ'.2.2.2 36 (12 * bk + r) = σ.2.2.2 36 (12 * bk + r)) (l37 : ∀ j, j < 3 → σ'.2.2.2 37 (3 * (12 * bk + r) + j) = σ.2.2.2 37 (3 * (12 * bk + r) + j)) (hcn : cn ≤ cn') (hc' : cn' ≤ 1100) (hF : fX E S S') (hE : ∀ s f b, E s f b → cs_k S b = 7 ∨ cs_k S b = 22 ∨ cs_k S b = 12 ∨ cs_k S b = 13) : fin S0 S' σ' bk cn' r a bt wt nb x k n w q L tr ut := by
  obtain ⟨⟨g1, g2, g3, g4, g5, g6, g7, g8, g9, g10, g11, g12, g13, g14, g15⟩, hL, hC, hb1, hb2, ⟨hro, hun⟩, ⟨d1, d2, d3, d4, d5, d6, d7, d8⟩, ⟨w1, w2, w3⟩, dd⟩ := h
  obtain ⟨c1, c2, c3, c4, c5, c6, ⟨ca, c7, c8, c9, c10⟩, c11, ⟨b1, b2, b3, by0, b4, b5, b6, b7⟩, c13, c14⟩ := hC
  have k5 : k ≤ 5 := g10.2.2.1
  have no : ∀ {b kk}, cs_k S b = kk → (kk ≠ 7 ∧ kk ≠ 12 ∧ kk ≠ 13) → kk ≠ 22 → ∀ s f, ¬ E s f b := fun hb h7 h22 s f q => by
    rcases hE s f _ q with e | e | e | e <;> omega
  obtain ⟨ka, -, ia, la, rra, -⟩ := hF a (by omega)
  obtain ⟨kca, nca, -, -, -, -, -, arca⟩ := hF ca (by omega)
  obtain ⟨kby, nby, -, -, -, -, alby, -⟩ := hF by0 (by omega)
  obtain ⟨kbt, nbt, -, -, -, -, -, arbt⟩ := hF bt (by omega)
  obtain ⟨kwt, nwt, -⟩ := hF wt (by omega)
  have ia' : ∀ f, cs_i S' f a = cs_i S f a := fun f => ia f (no c1 (by decide) (by decide) _ _)
  have la' : ∀ f, cs_l S' f a = cs_l S f a := fun f => la f (no c1 (by decide) (by decide) _ _)
  have ra' : ∀ f, cs_r S' f a = cs_r S f a := fun f => rra f (no c1 (by decide) (by decide) _ _)
  have hE3 : ∀ s f b, E s f b → cs_k S b ≠ 3 := fun s f b e => by rcases hE s f b e with e | e | e | e <;> omega
  have hEt : tE E S := fun s f b e => by
    rcases hE s f b e with e | e | e | e
    · exact ⟨by omega, by omega, fun w => by omega⟩
    · exact ⟨by omega, by omega, fun w => by omega⟩
    · exact ⟨by omega, by omega, fun w => by omega⟩
    · exact ⟨by omega, by omega, fun w => by omega⟩
  have ro' : ∀ j, j < k → ∃ m, σ'.2.2.1 41 (6 * (12 * bk + r) + j) = nI m ∧ inB bk cn' m ∧ rR σ' 14 m (tr j) ∧ rLv σ' 14 (tr j) := fun j hj => by
    obtain ⟨m, m1, m2, m3, m4⟩ := hro j hj
    obtain ⟨p1, p2, -⟩ := hP 14 m (tr j) m2 m4 m3
    exact ⟨m, (r41 j (by omega)).trans m1, ⟨m2.1, by have := m2.2; omega⟩, p1, p2⟩
  have un' : (ut = none ∧ σ'.2.2.1 42 (12 * bk + r) = -1) ∨ ∃ t m, ut = some t ∧ σ'.2.2.1 42 (12 * bk + r) = nI m ∧ inB bk cn' m ∧ rR σ' 14 m t ∧ rLv σ' 14 t := by
    rw [row 42 (by decide) (by decide) (by decide)]
    rcases hun with e | ⟨t, m, m0, m1, m2, m3, m4⟩
    · exact Or.inl e
    · obtain ⟨p1, p2, -⟩ := hP 14 m t m2 m4 m3
      exact Or.inr ⟨t, m, m0, m1, ⟨m2.1, by have := m2.2; omega⟩, p1, p2⟩
  refine ⟨⟨by rw [row 38 (by decide) (by decide) (by decide)]; exact g1, g2, by rw [row 43 (by decide) (by decide) (by decide)]; exact g3, g4, by rw [row 44 (by decide) (by decide) (by decide)]; exact g5, g6, g7, by rw [row 45 (by decide) (by decide) (by decide)]; exact g8, g9, ⟨by rw [row 40 (by decide) (by decide) (by decide)]; exact g10.1, g10.2.1, g10.2.2.1, fun c hck => ?_⟩, ?_, g12, g13, g14, fun e => by rw [row 39 (by decide) (by decide) (by decide)]; exact g15 e⟩, fun e => by rw [row 39 (by decide) (by decide) (by decide)]; exact hL e, ⟨ka.trans c1, (ia' _).trans c2, by rw [ia']; exact c3, by rw [ia', row 39 (by decide) (by decide) (by decide)]; exact c4, fun e => by rw [la', l36]; exact c5 e, (ia' _).trans c6, ⟨ca, (ra' _).trans c7, kca.trans c8, nca.trans c9, fun c hck => ?_⟩, ?_, ⟨ka.trans b1, (ia' _).trans b2, b3, by0, (ra' _).trans b4, kby.trans b5, nby.trans b6, fun j hj => ?_⟩, (ia' _).trans c13, (ia' _).trans c14⟩, fun by1 e i j hi hj hij => ?_, fun i j hi hj hij => ?_, ⟨ro', un'⟩, ⟨(ia' _).trans d1, (ia' _).trans d2, (ra' _).trans d3, (ra' _).trans d4, kbt.trans d5, nbt.trans d6, d7, fun j => (arbt j (no d5 (by decide) (by decide) _ _)).trans (d8 j)⟩, ⟨(ra' _).trans w1, kwt.trans w2, nwt.trans w3⟩, dd⟩
  · obtain ⟨m, m1, m2, m3, m4⟩ := ro' c hck
    exact ⟨Nat.le_refl _, m, m1, m3, m4⟩
  · rcases un' with e | ⟨t, m, m0, m1, m2, m3, m4⟩
    · exact Or.inl e
    · exact Or.inr ⟨t, m, m0, Nat.le_refl _, m1, by have h2 : m < 1100 * bk + cn' := m2.2; omega, m3, m4⟩
  · obtain ⟨y, y1, y2, y3⟩ := c10 c hck
    obtain ⟨m, m1, m2, m3, m4⟩ := hro c hck
    obtain ⟨-, -, p3⟩ := hP 14 m (tr c) m2 m4 m3
    exact ⟨y, (arca c (no c8 (by decide) (by decide) _ _)).trans y1, cR.fx hF hE3 _ _ _ y2, cLv.fx hF hEt _ _ (p3 S y3)⟩
  · rcases c11 with ⟨e1, e2⟩ | ⟨t, y, e1, e2, e3, e4⟩
    · exact Or.inl ⟨e1, (ra' _).trans e2⟩
    · rcases hun with ⟨f1, f2⟩ | ⟨t', m, m0, m1, m2, m3, m4⟩
      · rw [f1] at e1; cases e1
      · have : t' = t := by rw [m0] at e1; exact Option.some.inj e1
        subst this
        obtain ⟨-, -, p3⟩ := hP 14 m t' m2 m4 m3
        exact Or.inr ⟨t', y, e1, (ra' _).trans e2, cR.fx hF hE3 _ _ _ e3, cLv.fx hF hEt _ _ (p3 S e4)⟩
  · rw [alby j (no b5 (by decide) (by decide) _ _), l37 j (by omega)]
    exact b7 j hj
  · rw [ra'] at e
    have : by1 = by0 := by rw [b4] at e; exact (Option.some.inj e).symm
    subst this
    rw [alby i (no b5 (by decide) (by decide) _ _), alby j (no b5 (by decide) (by decide) _ _)] at hij
    exact hb1 by1 b4 i j hi hj hij
  · rw [l37 i (by omega), l37 j (by omega)] at hij
    exact hb2 i j hi hj hij
theorem fin.on {E : Nat → Nat → Nat → Prop} (h : fin S0 S σ bk cn r a bt wt nb x k n w q L tr ut) (hA : rA bf z bk nr nm i cn σ) (hc : cn ≤ 1100) (hr : r < nr) (hg : gF bk nr cn σ σ') (hcn : cn ≤ cn') (hc' : cn' ≤ 1100) (hF : fX E S S') (hE : ∀ s f b, E s f b → cs_k S b = 7 ∨ cs_k S b = 22) : fin S0 S' σ' bk cn' r a bt wt nb x k n w q L tr ut :=
  h.on0 hA.2.2.1.2.2 (prS.gf hA hc hg) (fun kk h1 h2 h3 => hg.2.2.1 kk _ (fun _ => Or.inl (by omega)) (by omega) (by omega)) (fun c hc => hg.2.2.1 41 _ (by omega) (fun _ => Or.inl (by omega)) (by omega)) (hg.2.2.2 36 _ (fun _ => Or.inl (by omega)) (by omega) (by omega)) (fun j hj => hg.2.2.2 37 _ (by omega) (fun _ => Or.inl (by omega)) (by omega)) hcn hc' hF (fun s f b e => by rcases hE s f b e with w | w; exact Or.inl w; exact Or.inr (Or.inl w))
/-- all rules that have been read -/
def TX (S0 S : cs_S) (σ : rf_S) (bk cn nr : Nat) (ra : Nat → Nat) : Prop := (∀ r, r < nr → ∃ bt wt nb x k n w q L tr ut, fin S0 S σ bk cn r (ra r) bt wt nb x k n w q L tr ut) ∧ ∀ r r' a, r < nr → r' < nr → (a = ra r ∨ cs_r S 816 (ra r) = some a ∨ cs_r S 817 (ra r) = some a) → (a = ra r' ∨ cs_r S 816 (ra r') = some a ∨ cs_r S 817 (ra r') = some a) → r = r'
theorem pG.kd (h : pS G cx bf z c nr ra nm S) : ∀ s f b, pG cx s f b → cs_k S b = 7 ∨ cs_k S b = 22 := fun s f b e => by
  rcases e with e | e | e
  · rw [e.2.1]; exact Or.inl h.1.1
  · rw [e.2.1]; exact Or.inl h.1.1
  · rw [e.2]; exact Or.inr h.2.2.2.2.2.2.1.1
theorem TX.on {σ1 : rf_S} {S1 : cs_S} (h : TX S0 S σ bk cn nr ra) (hA : rA bf z bk nr nm i cn σ) (hp : pS G cx bf z c nr ra nm S) (hc : cn ≤ 1100) (hc' : cn' ≤ 1100) (hcn : cn ≤ cn') (hg : gF bk nr cn σ σ1) (hF : fX (pG cx) S S1) {E0 : Nat → Nat → Nat → Prop} (h0 : fX E0 S0 S) (hnew : ∃ bt wt nb x k n w q L tr ut, fin S S1 σ1 bk cn' nr R bt wt nb x k n w q L tr ut) : TX S0 S1 σ1 bk cn' (nr + 1) (up ra nr R) := by
  obtain ⟨bt, wt, nb, x, k, n, w, q, L, tr, ut, hn⟩ := hnew
  -- an old rule's rows
  have old : ∀ r, r < nr → cs_k S (ra r) = 9 ∧ (∃ b1, cs_r S 816 (ra r) = some b1 ∧ cs_k S b1 = 25 ∧ cs_r S1 816 (ra r) = some b1) ∧ ∃ w1, cs_r S 817 (ra r) = some w1 ∧ cs_k S w1 = 26 ∧ cs_r S1 817 (ra r) = some w1 := fun r hr => by
    obtain ⟨bt', wt', nb', x', k', n', w', q', L', tr', ut', hf⟩ := h.1 r hr
    obtain ⟨-, -, hC, -, -, -, ⟨-, -, -, d4, d5, -⟩, ⟨e1, e2, -⟩, -⟩ := hf
    have k9 := hC.1
    obtain ⟨-, -, -, -, rr, -⟩ := hF (ra r) (by omega)
    have rr' : ∀ f, cs_r S1 f (ra r) = cs_r S f (ra r) := fun f => rr f (fun q => by rcases pG.kd hp _ _ _ q with e | e <;> omega)
    exact ⟨k9, ⟨bt', d4, d5, (rr' _).trans d4⟩, wt', e1, e2, (rr' _).trans e1⟩
  obtain ⟨-, -, -, -, -, -, ⟨-, -, -, n4, -⟩, ⟨n5, -⟩, nd1, nd2, nd3⟩ := id hn
  have aold : ∀ r a, r < nr → (a = ra r ∨ cs_r S1 816 (ra r) = some a ∨ cs_r S1 817 (ra r) = some a) → cs_k S a ≠ 0 := fun r a hr ha => by
    obtain ⟨o1, ⟨b1, o2, o3, o4⟩, w1, o5, o6, o7⟩ := old r hr
    rcases ha with e | e | e
    · rw [e]; omega
    · rw [o4] at e; rw [← Option.some.inj e]; omega
    · rw [o7] at e; rw [← Option.some.inj e]; omega
  have anew : ∀ a, (a = R ∨ cs_r S1 816 R = some a ∨ cs_r S1 817 R = some a) → cs_k S a = 0 := fun a ha => by
    rcases ha with e | e | e
    · rw [e]; exact nd1
    · rw [n4] at e; rw [← Option.some.inj e]; exact nd2
    · rw [n5] at e; rw [← Option.some.inj e]; exact nd3
  refine ⟨fun r hr => ?_, fun r r' a hr hr' ha ha' => ?_⟩
  · by_cases e : r = nr
    · rw [e, up_s]
      obtain ⟨f1, f2, f3, f4, f5, f6, f7, f8, -⟩ := hn
      exact ⟨bt, wt, nb, x, k, n, w, q, L, tr, ut, f1, f2, f3, f4, f5, f6, f7, f8, h0.dead nd1, h0.dead nd2, h0.dead nd3⟩
    · rw [up_o e]
      obtain ⟨bt', wt', nb', x', k', n', w', q', L', tr', ut', hf⟩ := h.1 r (by omega)
      exact ⟨bt', wt', nb', x', k', n', w', q', L', tr', ut', hf.on hA hc (by omega) hg hcn hc' hF (pG.kd hp)⟩
  · by_cases e : r = nr
    · by_cases e' : r' = nr
      · omega
      · rw [e, up_s] at ha
        rw [up_o e'] at ha'
        exact absurd (anew a ha) (aold r' a (by omega) ha')
    · by_cases e' : r' = nr
      · rw [e', up_s] at ha'
        rw [up_o e] at ha
        exact absurd (anew a ha') (aold r a (by omega) ha)
      · rw [up_o e] at ha
        rw [up_o e'] at ha'
        obtain ⟨o1, ⟨b1, o2, o3, o4⟩, w1, o5, o6, o7⟩ := old r (by omega)
        obtain ⟨p1, ⟨b1', p2, p3, p4⟩, w1', p5, p6, p7⟩ := old r' (by omega)
        rw [o4, o7, ← o2, ← o5] at ha
        rw [p4, p7, ← p2, ← p5] at ha'
        exact h.2 r r' a (by omega) (by omega) ha ha'
theorem tk_n1 {s : Nat} : ¬ (tk bf z s).1 = 1 := by
  have num : ∀ d n, ¬ (tkN bf s d n).1 = 1 := by
    intro d n
    unfold tkN
    split
    · show ¬ (3 : Nat) = 1; omega
    · show ¬ (0 : Nat) = 1; omega
  have sg : ∀ b e, ¬ sgK b e = 1 := by
    intro b e
    unfold sgK
    split
    · omega
    split
    · omega
    split
    · omega
    split
    · omega
    split
    · omega
    split
    · omega
    split
    · split <;> omega
    split
    · split <;> omega
    split
    · split <;> omega
    · omega
  unfold tk
  by_cases hl : bL (bf s) = true
  · rw [if_pos hl]
    unfold tkW
    split
    · have := wkl_20 (Int64.ofNat (dg 5 12 (lf bf s) (rn bA bf (z - s) s))) 20
      show ¬ wkl _ 20 = 1
      omega
    · show ¬ (0 : Nat) = 1; omega
  · rw [if_neg hl]
    by_cases h34 : bf s = 34
    · rw [if_pos h34]
      unfold tkQ
      split
      · show ¬ (4 : Nat) = 1; omega
      · show ¬ (0 : Nat) = 1; omega
    · rw [if_neg h34]
      by_cases h45 : bf s = 45
      · rw [if_pos h45]; exact num _ _
      · rw [if_neg h45]
        by_cases hd : bD (bf s) = true
        · rw [if_pos hd]
          split
          · unfold tkA
            split
            · show ¬ (5 : Nat) = 1; omega
            · show ¬ (0 : Nat) = 1; omega
          · exact num _ _
        · rw [if_neg hd]
          exact sg _ _
theorem kt_end (ht : tC bf z c) (hi : i ≤ c) (h : kt bf z i = 1) : z ≤ 2000 := by
  have hle := ht.le i hi
  unfold kt tK at h
  by_cases e1 : 2000 ≤ qp bf z i ∧ 2000 < z
  · rw [if_pos e1] at h; omega
  · rw [if_neg e1] at h
    by_cases e2 : z ≤ qp bf z i
    · omega
    · rw [if_neg e2] at h
      exact absurd h tk_n1
theorem d_another (h : pQ G cx bf z c nr ra nm fk fp S) {post : Int32 → cs_S → Prop} (hp : post 0 S) : wp_X5_another post G S (cx 0) := ⟨h.1.1.1, fun _ => ⟨rfl, hp⟩, fun q => absurd (h.2.2.2.1.symm.trans q) h.2.2.1⟩
/-- the whole of a text, from a rule's start on -/
theorem TEXT (ht : tC bf z c) {xo ex es mc ms : Nat} {σ0 : rf_S} {RW : (Int32 → rf_S → Prop) → Prop} {post : Int32 → cs_S → Prop}
    (hok : ∀ σ1 S1 nr1 ra1 nm1 i1 cn1 u1 v1, rA bf z bk nr1 nm1 i1 cn1 σ1 → i1 ≤ c → cn1 ≤ 1100 → pA G cx bf z c nr1 ra1 nm1 i1 S1 → fX (pG cx) S0 S1 → TX S0 S1 σ1 bk cn1 nr1 ra1 → gF bk 0 0 σ0 σ1 → (∀ Q : Int32 → rf_S → Prop, Q 1 σ1 → RW Q) → u1 + ex ≤ mc → v1 + es ≤ ms → w_X11_rules_57 post G mc ms S1 u1 v1 xo (some (cx 0)))
    (hbad : ∀ σ1 S1 nr1 ra1 nm1 fk fp u1 v1, pQ G cx bf z c nr1 ra1 nm1 fk fp S1 → fX (pG cx) S0 S1 → gF bk 0 0 σ0 σ1 → rD fk fp σ1 → (∀ Q : Int32 → rf_S → Prop, Q 0 σ1 → RW Q) → u1 ≤ mc → v1 ≤ ms → w_X11_rules_57 post G mc ms S1 u1 v1 xo (some (cx 0))) :
    ∀ d nr nm i cn σ ra S u v, nr + d = 12 → rA bf z bk nr nm i cn σ → i ≤ c → pA G cx bf z c nr ra nm i S → fX (pG cx) S0 S → TX S0 S σ bk cn nr ra → gF bk 0 0 σ0 σ → (∀ Q, w_X12_text_0 Q (d + 1) σ → RW Q) → u + 10 * z + 30 + ex ≤ mc + 10 * qp bf z i → v + 200 * z + 300 + es ≤ ms + 200 * qp bf z i → w_X11_rules_34 post G mc ms (d + 2) S u v xo (some (cx 0)) (nI nr) := by
  have hz := ht.1
  have main : ∀ d nr nm i cn σ ra S u v, nr + d = 12 → rA bf z bk nr nm i cn σ → i ≤ c → pA G cx bf z c nr ra nm i S → fX (pG cx) S0 S → TX S0 S σ bk cn nr ra → gF bk 0 0 σ0 σ → (∀ Q, w_X12_text_0 Q (d + 1) σ → RW Q) → u + 10 * z + 30 + ex ≤ mc + 10 * qp bf z i → v + 200 * z + 300 + es ≤ ms + 200 * qp bf z i → (∀ nm i cn σ ra S u v, nr < 12 → rA bf z bk (nr + 1) nm i cn σ → i ≤ c → pA G cx bf z c (nr + 1) ra nm i S → fX (pG cx) S0 S → TX S0 S σ bk cn (nr + 1) ra → gF bk 0 0 σ0 σ → (∀ Q, w_X12_text_0 Q d σ → RW Q) → u + 10 * z + 30 + ex ≤ mc + 10 * qp bf z i → v + 200 * z + 300 + es ≤ ms + 200 * qp bf z i → w_X11_rules_34 post G mc ms (d + 1) S u v xo (some (cx 0)) (nI (nr + 1))) → w_X11_rules_34 post G mc ms (d + 2) S u v xo (some (cx 0)) (nI nr) := by
    intro d nr nm i cn σ ra S u v hd h hi hA hF hT hg hR hu hv rec
    have hle := ht.le i hi
    have hK9 := ht.K39 hi
    have hc : cn ≤ 1100 := by have := h.2.2.2.2.1.2.1; omega
    have h54 : σ.1 54 = rC (kt bf z i) := h.2.1.1
    have n12 : ¬ (12 : Int32) < nI nr := fun q => by
      have := (nI_ltI (a := 12) (by decide) (by omega)).mp q; omega
    by_cases e1 : kt bf z i = 1
    · have hz2 := kt_end ht hi e1
      refine ⟨by omega, by omega, fun q => absurd q n12, fun _ => ⟨cx 0, rfl, hA.1.1.1, hA.1.1.1, fun q => absurd hA.2.2.1 q, fun _ => ⟨fun _ => ⟨rfl, fun _ => ?_, fun q => absurd rfl q⟩, fun q => absurd (by rw [hA.2.2.2.2, e1]; rfl) q⟩⟩⟩
      refine hok σ S nr ra nm i cn u v h hi hc hA hF hT hg (fun Q hQ => hR Q ⟨fun _ => ⟨fun _ => ⟨rfl, hQ⟩, fun q => absurd ?_ q⟩, fun q => absurd (by rw [h54]; exact (rC_c _).1.mpr e1) q⟩) (by omega) (by omega)
      rw [h.1.1]; exact nI_le (b := 2000) hz2 (by decide)
    · have k1 : ¬ cs_i S 606 (cx 0) = 1 := fun q => e1 ((nI_eq (b := 1) (by omega) (by decide)).mp (hA.2.2.2.2.symm.trans q))
      have ref : ∀ {Q : Int32 → rf_S → Prop}, wp_X12_rule (fun r4 σ4 => (¬ r4 = 0 → w_X12_text_0 Q d σ4) ∧ (r4 = 0 → Q 0 σ4)) σ → RW Q := fun {Q} hq => hR Q ⟨fun q => absurd ((rC_c _).1.mp (h54.symm.trans q)) e1, fun _ => hq⟩
      obtain ⟨r, σ1, m, n, g1, g2, g3⟩ := RULE (G := G) (cx := cx) (ra := ra) ht h hi
      have hg1 : gF bk 0 0 σ0 σ1 := hg.trans (g1.wk (Nat.zero_le _) (Nat.zero_le _)) (Nat.le_refl _)
      rcases g3 with ⟨e, i1, cn1, na, hnr, a1, a2, a3, a4, a5, a6, a7⟩ | ⟨fk, fp, e, a1, a5, a6, a7⟩
      · have hle1 := ht.le i1 a2
        have hc1 : cn1 ≤ 1100 := by have := a4.2.2.2.2.1.2.1; omega
        refine ⟨by omega, by omega, fun q => absurd q n12, fun _ => ⟨cx 0, rfl, hA.1.1.1, hA.1.1.1, fun q => absurd hA.2.2.1 q, fun _ => ⟨fun q => absurd q k1, fun _ => ⟨rfl, fun q => absurd q (by decide), fun _ => ⟨hA.1.1.1, m, n, by omega, by omega, a7 S _ hA (fun S1 R q1 q2 q3 => ?_)⟩⟩⟩⟩⟩
        rw [nI_1]
        exact rec _ i1 cn1 σ1 _ S1 _ _ hnr a4 a2 q1 (hF.trans q2) (hT.on h hA.1 hc hc1 a3 g1 q2 hF q3) hg1 (fun Q hQ => ref (g2 _ ⟨fun _ => hQ, fun q => absurd q (by rw [e]; decide)⟩)) (by omega) (by omega)
      · refine ⟨by omega, by omega, fun q => absurd q n12, fun _ => ⟨cx 0, rfl, hA.1.1.1, hA.1.1.1, fun q => absurd hA.2.2.1 q, fun _ => ⟨fun q => absurd q k1, fun _ => ⟨rfl, fun q => absurd q (by decide), fun _ => ⟨hA.1.1.1, m, n, by omega, by omega, a7 S _ hA (fun S1 q1 q2 => ?_)⟩⟩⟩⟩⟩
        have fin := hbad σ1 S1 nr ra nm fk fp (u + m) (v + n) q1 (hF.trans (q2.mono (fun s f a e => Or.inl e))) hg1 a1 (fun Q hQ => ref (g2 _ ⟨fun q => absurd e q, fun _ => hQ⟩)) (by omega) (by omega)
        exact ⟨by omega, by omega, fun _ => fin, fun _ => ⟨cx 0, rfl, q1.1.1.1, d_another q1 ⟨fun _ => fin, fun q => absurd rfl q⟩⟩⟩
  intro d
  induction d with
  | zero => intro nr nm i cn σ ra S u v hd h hi hA hF hT hg hR hu hv; exact main 0 nr nm i cn σ ra S u v hd h hi hA hF hT hg hR hu hv (fun _ _ _ _ _ _ _ _ hn => by omega)
  | succ d ih => intro nr nm i cn σ ra S u v hd h hi hA hF hT hg hR hu hv; exact main (d + 1) nr nm i cn σ ra S u v hd h hi hA hF hT hg hR hu hv (fun nm i cn σ ra S u v hn h2 hi2 hA2 hF2 hT2 hg2 hR2 hu2 hv2 => ih (nr + 1) nm i cn σ ra S u v (by omega) h2 hi2 hA2 hF2 hT2 hg2 hR2 hu2 hv2)
end TXS
