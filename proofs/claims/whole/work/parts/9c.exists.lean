/-! ===== the class's reading comes to an end ===== -/
/-- there is room for new things -/
def fs (S : cs_S) : Prop := ∃ N, ∀ q, N ≤ q → cs_k S q = 0
theorem fs.new {S : cs_S} (h : fs S) (q ci : Nat) : fs (cs_new S q ci) := by
  obtain ⟨N, h⟩ := h
  refine ⟨max N (q + 1), fun a ha => ?_⟩
  rw [knew, if_neg (by omega)]
  exact h a (by omega)
theorem fs.newA {S : cs_S} (h : fs S) (q k n : Nat) : fs (cs_newA S q k n) := by
  obtain ⟨N, h⟩ := h
  refine ⟨max N (q + 1), fun a ha => ?_⟩
  rw [knewA, if_neg (by omega)]
  exact h a (by omega)
theorem fs.get {S : cs_S} (h : fs S) : ∃ q, cs_k S q = 0 := by
  obtain ⟨N, h⟩ := h
  exact ⟨N, h N (Nat.le_refl _)⟩
section EX
variable {X : Prop} {G : Nat → Nat} {S : cs_S} {o : Nat}
theorem ex_fail {post : cs_S → Prop} {a b : Int32} (k : ∀ S', fs S' → post S' → X) (hf : fs S) (h : wp_X6_fail post G S o a b) : X := by
  by_cases c : cs_i S 700 o = 0
  · exact k (cs_ui (cs_ui S 700 o a) 701 o b) hf ((h.2.2 c _ rfl).2 _ rfl)
  · exact k _ hf (h.2.1 c)
theorem ex_next {post : Int32 → cs_S → Prop} {a b : Int32} (k : ∀ r S', fs S' → post r S' → X) (hf : fs S) (h : wp_X6_nextByte post G S o a b) : X := by
  have k27 : ∀ S, fs S → w_X6_nextByte_27 post G S o a b → X := by
    intro S hf h
    by_cases c : cs_i S 700 o = 0
    · have h1 := h.2.2 c
      by_cases d : cs_i S 706 o < 0
      · exact k _ _ hf (h1.1 d)
      · obtain ⟨b15, -, -, g1, g2⟩ := h1.2 d _ rfl
        by_cases d2 : (cs_i S 706 o) < (Int32.ofNat (cs_n S b15))
        · obtain ⟨b18, -, -, -, g3, g4⟩ := g1 d2 _ rfl
          by_cases d3 : (cs_ai S b18 (cs_i S 706 o).toNatClampNeg) < a
          · exact ex_fail (fun S' hf' hp => k _ S' hf' hp) hf (g3 d3).2
          · by_cases d4 : (cs_ai S b18 (cs_i S 706 o).toNatClampNeg) ≤ b
            · exact k _ (cs_ui S 706 o ((cs_i S 706 o) + 1)) hf ((g4 d3).1 d4 _ rfl)
            · exact ex_fail (fun S' hf' hp => k _ S' hf' hp) hf ((g4 d3).2 d4).2
        · exact k _ _ hf (g2 d2)
    · exact k _ _ hf (h.2.1 c)
  by_cases c : cs_i S 700 o = 0
  · by_cases d : (cs_i S 706 o) < (cs_i S 705 o)
    · exact k27 S hf ((h.2.2 c).1 d)
    · exact ex_fail (fun S' hf' hp => k27 S' hf' hp) hf ((h.2.2 c).2 d)
  · exact k27 S hf (h.2.1 c)
theorem ex_uns {post : Int64 → cs_S → Prop} (k : ∀ r S', fs S' → post r S' → X) (hf : fs S) (h : wp_X6_readUnsigned post G S o) : X := by
  have key : ∀ n S (x1 : Int32) (x2 : Int64) (x4 : Int32), fs S → w_X6_readUnsigned_10 post G n S o x1 x2 x4 → X := by
    intro n
    induction n with
    | zero => intro S x1 x2 x4 _ h; exact absurd h (fun z => z)
    | succ n ih =>
      intro S x1 x2 x4 hf h
      by_cases c : 5 ≤ x4
      · exact k _ _ hf (h.1 c)
      · have k70 : ∀ S (y : Int64) (x5 : Int32), fs S → w_X6_readUnsigned_70 post G (w_X6_readUnsigned_10 post G n) S o x1 y x4 x5 → X := by
          intro S y x5 hf h
          by_cases d : 128 ≤ x5
          · exact ih S _ _ _ hf (h.1 d)
          · exact k _ _ hf (h.2 d)
        have k64 : ∀ S (y : Int64) (x5 : Int32), fs S → w_X6_readUnsigned_64 post G (w_X6_readUnsigned_10 post G n) S o x1 y x4 x5 → X := fun S y x5 hf h => ex_fail (fun S' hf' hp => k70 S' y x5 hf' hp) hf h.2
        have k54 : ∀ S (y : Int64) (x5 : Int32), fs S → w_X6_readUnsigned_54 post G (w_X6_readUnsigned_10 post G n) S o x1 y x4 x5 → X := by
          intro S y x5 hf h
          by_cases d : x4 ≤ 0
          · exact k70 S y x5 hf (h.1 d)
          · by_cases d2 : x5 = 0
            · exact k64 S y x5 hf ((h.2 d).2 d2)
            · exact k70 S y x5 hf ((h.2 d).1 d2)
        refine ex_next (fun r S' hf' hp => ?_) hf (h.2 c).2
        by_cases d : x4 = 4
        · by_cases d2 : 15 < r
          · exact k64 S' _ r hf' ((hp.2 d).1 d2)
          · exact k54 S' _ r hf' ((hp.2 d).2 d2)
        · exact k54 S' _ r hf' (hp.1 d)
  obtain ⟨-, n, h⟩ := h
  exact key n S _ _ _ hf h
theorem ex_word {post : Int64 → cs_S → Prop} {a : Int32} (k : ∀ r S', fs S' → post r S' → X) (hf : fs S) (h : wp_X6_readWord post G S o a) : X := by
  have key : ∀ n S (x2 : Int32) (x3 : Int64) (x5 : Int32), fs S → w_X6_readWord_12 post G n S o x2 x3 x5 → X := by
    intro n
    induction n with
    | zero => intro S x2 x3 x5 _ h; exact absurd h (fun z => z)
    | succ n ih =>
      intro S x2 x3 x5 hf h
      by_cases c : x2 ≤ x5
      · exact k _ _ hf (h.1 c)
      · exact ex_next (fun r S' hf' hp => ih S' _ _ _ hf' hp) hf (h.2 c).2
  refine ex_next (fun r S' hf' hp => ?_) hf h.2
  obtain ⟨n, hp⟩ := hp
  exact key n S' _ _ _ hf' hp
theorem ex_vinit {post : cs_S → Prop} {s x : Int32} {t : Option Nat} (k : ∀ S', fs S' → post S' → X) (hf : fs S) (h : wp_X9_init post G S o s x t) : X := by
  have key : ∀ n S (x4 : Int32) (x5 : Option Nat) (x6 x7 : Int32), fs S → w_X9_init_38 post G n S o x4 x5 x6 x7 → X := by
    intro n
    induction n with
    | zero => intro S x4 x5 x6 x7 _ h; exact absurd h (fun z => z)
    | succ n ih =>
      intro S x4 x5 x6 x7 hf h
      by_cases c : x6 ≤ x7
      · exact k (cs_ui S 1003 o x4) hf ((h.1 c).2 _ rfl)
      · obtain ⟨b, -, -, -, h⟩ := h.2 c
        exact ih S _ _ _ _ hf h
  obtain ⟨b, -, -, n, h⟩ := ((((h.2 _ rfl).2 _ rfl).2 _ rfl))
  exact key n (cs_ur (cs_ui (cs_ui S 1000 o s) 1001 o x) 1002 o t) _ _ _ _ hf h
theorem ex_val {post : Option Nat → cs_S → Prop} {mc ms : Nat} {s : Int32} (k : ∀ r S', fs S' → post r S' → X) (hf : fs S) (h : wp_X6_readValue post G mc ms S o s) : X := by
  have mk : ∀ S (s x : Int32) (t : Option Nat), fs S → (∀ q, cs_k S q = 0 → ∀ S1, S1 = cs_new S q 10 → wp_X9_init (fun S2 => post (some q) S2) G S1 q s x t) → X := by
    intro S s x t hf h
    obtain ⟨q, hq⟩ := hf.get
    exact ex_vinit (fun S' hf' hp => k _ S' hf' hp) (hf.new q 10) (h q hq _ rfl)
  have k118 : ∀ n S u v (x2 : Int32) (x3 : Option Nat) (x4 : Int32), fs S → w_X6_readValue_118 post G mc ms n S u v o x2 x3 x4 → X := by
    intro n
    induction n with
    | zero => intro S u v x2 x3 x4 _ h; exact absurd h (fun z => z)
    | succ n ih =>
      intro S u v x2 x3 x4 hf h
      by_cases c : x2 ≤ x4
      · exact mk S _ _ _ hf (h.2.2.1 c).2.2
      · refine ex_next (fun r S' hf' hp => ?_) hf (h.2.2.2 c).2
        obtain ⟨b, -, -, -, hp⟩ := hp
        exact ih _ _ _ _ _ _ (show fs (cs_uai S' b x4.toNatClampNeg r) from hf') (hp _ rfl)
  have k55 : ∀ n S u v (x2 x3 : Int32), fs S → w_X6_readValue_55 post G mc ms n S u v o x2 x3 → X := by
    intro n
    induction n with
    | zero => intro S u v x2 x3 _ h; exact absurd h (fun z => z)
    | succ n ih =>
      intro S u v x2 x3 hf h
      by_cases c : 4 ≤ x3
      · exact mk S _ _ _ hf (h.2.2.1 c).2.2
      · exact ex_next (fun r S' hf' hp => ih S' _ _ _ _ hf' hp) hf (h.2.2.2 c).2
  by_cases c0 : s = 0
  · refine ex_uns (fun r S' hf' hp => ?_) hf (h.2 c0).2
    by_cases d : lg_cmp (r &&& 1) 0 = 0
    · exact mk S' _ _ _ hf' (hp.2 d).2.2.2.2
    · exact mk S' _ _ _ hf' (hp.1 d).2.2.2.2
  · by_cases c2 : s = 2
    · obtain ⟨n, h⟩ := (h.1 c0).2 c2
      exact k55 n S _ _ _ _ hf h
    · refine ex_next (fun r S' hf' hp => ?_) hf ((h.1 c0).1 c2).2
      by_cases d : r = 0
      · obtain ⟨-, -, n, hp⟩ := hp.2 d
        exact k118 n S' _ _ _ _ _ hf' hp
      · obtain ⟨q, hq⟩ := hf'.get
        obtain ⟨-, -, n, hp⟩ := (hp.1 d).2.2.2.2 q hq _ rfl
        exact k118 n _ _ _ _ _ _ (hf'.newA q 20 r.toNatClampNeg) hp
theorem ex_chk {post : Int32 → cs_S → Prop} {t : Option Nat} {a b : Int32} (k : ∀ r, post r S → X) (h : wp_X6_checkOf post G S t a b) : X := by
  have key : ∀ n (x0 : Option Nat) (x2 x3 x4 : Int32), w_X6_checkOf_9 post G n S x0 x2 x3 x4 → X := by
    intro n
    induction n with
    | zero => intro x0 x2 x3 x4 h; exact absurd h (fun z => z)
    | succ n ih =>
      intro x0 x2 x3 x4 h
      by_cases c : x2 ≤ x4
      · exact k _ (h.1 c)
      · obtain ⟨b3, -, -, g1, g2⟩ := h.2 c
        by_cases d : (Int32.ofNat (cs_n S b3)) ≤ x4
        · exact k _ (g1 d)
        · obtain ⟨-, m, h⟩ := g2 d
          have k32 : ∀ m (x0 : Option Nat) (x2 x3 x4 x5 : Int32), w_X6_checkOf_32 post G (w_X6_checkOf_9 post G n) m S x0 x2 x3 x4 x5 → X := by
            intro m
            induction m with
            | zero => intro x0 x2 x3 x4 x5 h; exact absurd h (fun z => z)
            | succ m ihm =>
              intro x0 x2 x3 x4 x5 h
              by_cases c : 8 ≤ x5
              · exact ih _ _ _ _ (h.1 c)
              · by_cases d : x3 * 2 ≤ 255
                · exact ihm _ _ _ _ _ ((h.2 c).1 d)
                · exact ihm _ _ _ _ _ ((h.2 c).2 d)
          exact k32 m _ _ _ _ _ h
  obtain ⟨n, h⟩ := h
  exact key n _ _ _ _ h
theorem ex_rec {post : Option Nat → cs_S → Prop} {mc ms : Nat} {a b : Int32} (k : ∀ r S', post r S' → X) (hf : fs S) (h : wp_X6_readRecord post G mc ms S o a b) : X := by
  have k208 : ∀ S u v (x5 x7 : Int64) (x10 x11 : Option Nat), fs S → w_X6_readRecord_208 post G mc ms S u v o x5 x7 x10 x11 → X := by
    intro S u v x5 x7 x10 x11 hf h
    by_cases c : cs_i S 700 o = 0
    · obtain ⟨q, hq⟩ := hf.get
      have h1 := (h.2.2.2.2 c).2.2 q hq _ rfl
      exact k _ _ ((((((h1.2 _ rfl).2 _ rfl).2 _ rfl).2 _ rfl).2 _ rfl)).2.2
    · exact k _ _ (h.2.2.2.1 c).2.2
  have k168 : ∀ S u v (x3 : Int32) (x5 x7 : Int64) (x10 x11 : Option Nat), fs S → w_X6_readRecord_168 post G mc ms S u v o x3 x5 x7 x10 x11 → X := by
    intro S u v x3 x5 x7 x10 x11 hf h
    refine ex_chk (fun rc hp => ?_) (h.2.2.2 _ rfl)
    refine ex_next (fun r S' hf' hp => ?_) hf hp.2
    by_cases d : r = rc
    · exact k208 S' _ _ _ _ _ _ hf' (hp.1 d)
    · exact ex_fail (fun S'' hf'' hp => k208 S'' _ _ _ _ _ _ hf'' hp) hf' (hp.2 d).2
  have k91 : ∀ n S u v (x3 : Int32) (x5 x7 : Int64) (x9 : Int32) (x10 x11 : Option Nat) (x12 : Int64) (x14 : Int32), fs S → w_X6_readRecord_91 post G mc ms n S u v o x3 x5 x7 x9 x10 x11 x12 x14 → X := by
    intro n
    induction n with
    | zero => intro S u v x3 x5 x7 x9 x10 x11 x12 x14 _ h; exact absurd h (fun z => z)
    | succ n ih =>
      intro S u v x3 x5 x7 x9 x10 x11 x12 x14 hf h
      have k140 : ∀ S u v (x10 : Option Nat), fs S → w_X6_readRecord_140 post G mc ms (w_X6_readRecord_91 post G mc ms n) S u v o x3 x5 x7 x9 x10 x11 x14 → X := by
        intro S u v x10 hf h
        obtain ⟨-, -, b50, -, -, -, -, h⟩ := h
        refine ex_next (fun r S' hf' hp => ?_) hf h
        obtain ⟨-, m, n', -, -, hp⟩ := hp
        refine ex_val (fun r S'' hf'' hp => ?_) hf' hp
        obtain ⟨b56, -, -, -, -, hp⟩ := hp
        exact ih _ _ _ _ _ _ _ _ _ _ _ (show fs (cs_uar S'' b56 x14.toNatClampNeg r) from hf'') (hp _ rfl)
      by_cases c : x9 ≤ x14
      · exact k168 S _ _ _ _ _ _ _ hf (h.2.2.1 c)
      · have h1 := (h.2.2.2 c).2
        by_cases d : cs_i S 700 o = 0
        · refine ex_word (fun r S' hf' hp => ?_) hf (h1.2 d)
          obtain ⟨b61, -, -, -, hp⟩ := hp
          have h2 := (hp _ rfl).2.2
          by_cases d2 : 0 < (lg_cmp (cs_al (cs_ual S' b61 x14.toNatClampNeg r) b61 x14.toNatClampNeg) x12)
          · exact k140 _ _ _ _ (show fs (cs_ual S' b61 x14.toNatClampNeg r) from hf') (h2.1 d2)
          · exact ex_fail (fun S'' hf'' hp => k140 S'' _ _ _ hf'' hp) (show fs (cs_ual S' b61 x14.toNatClampNeg r) from hf') (h2.2 d2).2
        · exact k168 S _ _ _ _ _ _ _ hf (h1.1 d)
  have k55 : ∀ S u v (x3 : Int32) (x5 : Int64), fs S → w_X6_readRecord_55 post G mc ms S u v o x3 x5 → X := by
    intro S u v x3 x5 hf h
    refine ex_word (fun r S' hf' hp => ?_) hf h.2.2.2
    refine ex_next (fun r S'' hf'' hp => ?_) hf' hp.2
    obtain ⟨q, hq⟩ := hf''.get
    have h1 := hp.2.2.2.2 q hq _ rfl
    have hf1 := hf''.newA q 21 r.toNatClampNeg
    obtain ⟨q2, hq2⟩ := hf1.get
    obtain ⟨n, h2⟩ := h1.2.2.2.2 q2 hq2 _ rfl
    exact k91 n _ _ _ _ _ _ _ _ _ _ _ (hf1.newA q2 26 r.toNatClampNeg) h2
  have k48 : ∀ S u v (x3 x4 : Int32) (x5 : Int64), fs S → w_X6_readRecord_48 post G mc ms S u v o x3 x4 x5 → X := fun S u v x3 x4 x5 hf h => ex_fail (fun S' hf' hp => k55 S' u v x3 x5 hf' hp) hf h.2.2.2
  refine ex_next (fun r S' hf' hp => ?_) hf h.2
  refine ex_uns (fun r S'' hf'' hp => ?_) hf' hp.2
  by_cases c : 0 < (lg_cmp (a.toInt64 + r) 2000000000)
  · exact k48 S'' _ _ _ _ _ hf'' (hp.1 c)
  · by_cases d : 0 ≤ (lg_cmp (a.toInt64 + r) b.toInt64)
    · exact k55 S'' _ _ _ _ hf'' ((hp.2 c).1 d)
    · exact k48 S'' _ _ _ _ _ hf'' ((hp.2 c).2 d)
end EX
