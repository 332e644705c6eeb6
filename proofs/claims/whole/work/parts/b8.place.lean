/-! ===== the class: where no fault is noted, the place rests ===== -/
def I7 (o : Nat) (S S' : cs_S) : Prop := (cs_k S o = 8 → cs_k S' o = 8) ∧ (cs_i S' 700 o = 0 → cs_i S 700 o = 0 ∧ cs_i S' 701 o = cs_i S 701 o)
section I7S
variable {G : Nat → Nat} {S S1 S2 : cs_S} {o : Nat}
theorem I7.rfl : I7 o S S := ⟨fun z => z, fun z => ⟨z, Eq.refl _⟩⟩
theorem I7.trans (h : I7 o S S1) (g : I7 o S1 S2) : I7 o S S2 := ⟨fun z => g.1 (h.1 z), fun z => ⟨(h.2 (g.2 z).1).1, (g.2 z).2.trans (h.2 (g.2 z).1).2⟩⟩
theorem I7.same (hk : cs_k S o = 8 → cs_k S1 o = 8) (h0 : cs_i S1 700 o = cs_i S 700 o) (h1 : cs_i S1 701 o = cs_i S 701 o) : I7 o S S1 := ⟨hk, fun z => ⟨h0.symm.trans z, h1⟩⟩
theorem I7.ui {f q : Nat} {x : Int32} (hf : f ≠ 700 ∧ f ≠ 701) : I7 o S (cs_ui S f q x) := I7.same (fun z => z) (by rw [iui, if_neg (fun z => hf.1 z.1.symm)]) (by rw [iui, if_neg (fun z => hf.2 z.1.symm)])
theorem I7.new {q ci : Nat} (ho : cs_k S o = 8) (hq : cs_k S q = 0) : I7 o S (cs_new S q ci) := by
  have hne : o ≠ q := fun z => by rw [z, hq] at ho; cases ho
  exact I7.same (fun z => by rw [knew, if_neg hne]; exact z) (by rw [inew, if_neg hne]) (by rw [inew, if_neg hne])
theorem m_fail {P Q : cs_S → Prop} {a b : Int32} (ha : ¬ a = 0) (k : ∀ S', I7 o S S' → P S' → Q S') (h : wp_X6_fail P G S o a b) : wp_X6_fail Q G S o a b := by
  refine ⟨h.1, fun c => k S I7.rfl (h.2.1 c), fun c S6 e6 => ⟨(h.2.2 c S6 e6).1, fun S8 e8 => k S8 ⟨fun z => by rw [e8, e6]; exact z, fun z => ?_⟩ ((h.2.2 c S6 e6).2 S8 e8)⟩⟩
  rw [e8, iui, if_neg (fun y => absurd y.1 (by decide)), e6, iui, if_pos ⟨rfl, rfl⟩] at z
  exact absurd z ha
theorem m_next {P Q : Int32 → cs_S → Prop} {a b : Int32} (k : ∀ r S', I7 o S S' → P r S' → Q r S') (h : wp_X6_nextByte P G S o a b) : wp_X6_nextByte Q G S o a b := by
  have k27 : ∀ S1, I7 o S S1 → w_X6_nextByte_27 P G S1 o a b → w_X6_nextByte_27 Q G S1 o a b := fun S1 hi h => by
    refine ⟨h.1, fun c => k _ S1 hi (h.2.1 c), fun c => ⟨fun d => k _ S1 hi ((h.2.2 c).1 d), fun d r14 e14 => ?_⟩⟩
    obtain ⟨b15, g0, g1, g2, g3⟩ := (h.2.2 c).2 d r14 e14
    refine ⟨b15, g0, g1, fun d2 r17 e17 => ?_, fun d2 => k _ S1 hi (g3 d2)⟩
    obtain ⟨b18, q0, q1, q2, q3, q4⟩ := g2 d2 r17 e17
    refine ⟨b18, q0, q1, q2, fun d3 => ⟨(q3 d3).1, m_fail (by decide) (fun S' hi' hp => k _ S' (hi.trans hi') hp) (q3 d3).2⟩, fun d3 => ⟨fun d4 S20 e20 => k _ S20 (hi.trans (by rw [e20]; exact I7.ui (by decide))) ((q4 d3).1 d4 S20 e20), fun d4 => ⟨((q4 d3).2 d4).1, m_fail (by decide) (fun S' hi' hp => k _ S' (hi.trans hi') hp) ((q4 d3).2 d4).2⟩⟩⟩
  exact ⟨h.1, fun c => k27 S I7.rfl (h.2.1 c), fun c => ⟨fun d => k27 S I7.rfl ((h.2.2 c).1 d), fun d => m_fail (by decide) (fun S' hi hp => k27 S' hi hp) ((h.2.2 c).2 d)⟩⟩
theorem m_uns {P Q : Int64 → cs_S → Prop} (k : ∀ r S', I7 o S S' → P r S' → Q r S') (h : wp_X6_readUnsigned P G S o) : wp_X6_readUnsigned Q G S o := by
  have key : ∀ n S1 (x1 : Int32) (x2 : Int64) (x4 : Int32), I7 o S S1 → w_X6_readUnsigned_10 P G n S1 o x1 x2 x4 → w_X6_readUnsigned_10 Q G n S1 o x1 x2 x4 := by
    intro n
    induction n with
    | zero => intro S1 x1 x2 x4 _ h; exact h
    | succ n ih =>
      intro S1 x1 x2 x4 hi h
      have k70 : ∀ S2 (y : Int64) (x5 : Int32), I7 o S S2 → w_X6_readUnsigned_70 P G (w_X6_readUnsigned_10 P G n) S2 o x1 y x4 x5 → w_X6_readUnsigned_70 Q G (w_X6_readUnsigned_10 Q G n) S2 o x1 y x4 x5 := fun S2 y x5 hi h => ⟨fun d => ih S2 _ _ _ hi (h.1 d), fun d => k _ S2 hi (h.2 d)⟩
      have k64 : ∀ S2 (y : Int64) (x5 : Int32), I7 o S S2 → w_X6_readUnsigned_64 P G (w_X6_readUnsigned_10 P G n) S2 o x1 y x4 x5 → w_X6_readUnsigned_64 Q G (w_X6_readUnsigned_10 Q G n) S2 o x1 y x4 x5 := fun S2 y x5 hi h => ⟨h.1, m_fail (by decide) (fun S' hi' hp => k70 S' y x5 (hi.trans hi') hp) h.2⟩
      have k54 : ∀ S2 (y : Int64) (x5 : Int32), I7 o S S2 → w_X6_readUnsigned_54 P G (w_X6_readUnsigned_10 P G n) S2 o x1 y x4 x5 → w_X6_readUnsigned_54 Q G (w_X6_readUnsigned_10 Q G n) S2 o x1 y x4 x5 := fun S2 y x5 hi h => ⟨fun d => k70 S2 y x5 hi (h.1 d), fun d => ⟨fun d2 => k70 S2 y x5 hi ((h.2 d).1 d2), fun d2 => k64 S2 y x5 hi ((h.2 d).2 d2)⟩⟩
      exact ⟨fun c => k _ S1 hi (h.1 c), fun c => ⟨(h.2 c).1, m_next (fun r S' hi' hp => ⟨fun d => k54 S' _ r (hi.trans hi') (hp.1 d), fun d => ⟨fun d2 => k64 S' _ r (hi.trans hi') ((hp.2 d).1 d2), fun d2 => k54 S' _ r (hi.trans hi') ((hp.2 d).2 d2)⟩⟩) (h.2 c).2⟩⟩
  obtain ⟨h0, n, h⟩ := h
  exact ⟨h0, n, key n S _ _ _ I7.rfl h⟩
theorem m_word {P Q : Int64 → cs_S → Prop} {a : Int32} (k : ∀ r S', I7 o S S' → P r S' → Q r S') (h : wp_X6_readWord P G S o a) : wp_X6_readWord Q G S o a := by
  have key : ∀ n S1 (x2 : Int32) (x3 : Int64) (x5 : Int32), I7 o S S1 → w_X6_readWord_12 P G n S1 o x2 x3 x5 → w_X6_readWord_12 Q G n S1 o x2 x3 x5 := by
    intro n
    induction n with
    | zero => intro S1 x2 x3 x5 _ h; exact h
    | succ n ih =>
      intro S1 x2 x3 x5 hi h
      exact ⟨fun c => k _ S1 hi (h.1 c), fun c => ⟨(h.2 c).1, m_next (fun r S' hi' hp => ih S' _ _ _ (hi.trans hi') hp) (h.2 c).2⟩⟩
  exact ⟨h.1, m_next (fun r S' hi hp => by
    obtain ⟨n, hp⟩ := hp
    exact ⟨n, key n S' _ _ _ hi hp⟩) h.2⟩
theorem m_vinit {P Q : cs_S → Prop} {q : Nat} {s x : Int32} {t : Option Nat} (k : ∀ S', I7 o S S' → P S' → Q S') (h : wp_X9_init P G S q s x t) : wp_X9_init Q G S q s x t := by
  have key : ∀ n S1 (x4 : Int32) (x5 : Option Nat) (x6 x7 : Int32), I7 o S S1 → w_X9_init_38 P G n S1 q x4 x5 x6 x7 → w_X9_init_38 Q G n S1 q x4 x5 x6 x7 := by
    intro n
    induction n with
    | zero => intro S1 x4 x5 x6 x7 _ h; exact h
    | succ n ih =>
      intro S1 x4 x5 x6 x7 hi h
      refine ⟨fun c => ⟨(h.1 c).1, fun S12 e12 => k S12 (hi.trans (by rw [e12]; exact I7.ui (by decide))) ((h.1 c).2 S12 e12)⟩, fun c => ?_⟩
      obtain ⟨b, g0, g1, g2, g3⟩ := h.2 c
      exact ⟨b, g0, g1, g2, ih S1 _ _ _ _ hi g3⟩
  refine ⟨h.1, fun S16 e16 => ⟨(h.2 S16 e16).1, fun S18 e18 => ⟨((h.2 S16 e16).2 S18 e18).1, fun S20 e20 => ?_⟩⟩⟩
  obtain ⟨b, g0, g1, n, g2⟩ := ((h.2 S16 e16).2 S18 e18).2 S20 e20
  refine ⟨b, g0, g1, n, key n S20 _ _ _ _ ?_ g2⟩
  rw [e20, e18, e16]
  exact I7.same (fun z => z) (by rw [iur, iui, if_neg (fun z => absurd z.1 (by decide)), iui, if_neg (fun z => absurd z.1 (by decide))]) (by rw [iur, iui, if_neg (fun z => absurd z.1 (by decide)), iui, if_neg (fun z => absurd z.1 (by decide))])
theorem I7.newA {q kk n : Nat} (ho : cs_k S o = 8) (hq : cs_k S q = 0) : I7 o S (cs_newA S q kk n) := by
  have hne : o ≠ q := fun z => by rw [z, hq] at ho; cases ho
  exact I7.same (fun z => by rw [knewA, if_neg hne]; exact z) (Eq.refl _) (Eq.refl _)
theorem m_val {P Q : Option Nat → cs_S → Prop} {mc ms : Nat} {s : Int32} (ho : cs_k S o = 8) (k : ∀ r S', I7 o S S' → P r S' → Q r S') (h : wp_X6_readValue P G mc ms S o s) : wp_X6_readValue Q G mc ms S o s := by
  have mk : ∀ S1 (s x : Int32) (t : Option Nat), I7 o S S1 → (∀ q, cs_k S1 q = 0 → ∀ S2, S2 = cs_new S1 q 10 → wp_X9_init (fun S3 => P (some q) S3) G S2 q s x t) → ∀ q, cs_k S1 q = 0 → ∀ S2, S2 = cs_new S1 q 10 → wp_X9_init (fun S3 => Q (some q) S3) G S2 q s x t := fun S1 s x t hi h q hq S2 e2 =>
    m_vinit (o := o) (fun S' hi' hp => k _ S' (hi.trans (I7.trans (by rw [e2]; exact I7.new (hi.1 ho) hq) hi')) hp) (h q hq S2 e2)
  have k118 : ∀ n S1 u v (x2 : Int32) (x3 : Option Nat) (x4 : Int32), I7 o S S1 → w_X6_readValue_118 P G mc ms n S1 u v o x2 x3 x4 → w_X6_readValue_118 Q G mc ms n S1 u v o x2 x3 x4 := by
    intro n
    induction n with
    | zero => intro S1 u v x2 x3 x4 _ h; exact h
    | succ n ih =>
      intro S1 u v x2 x3 x4 hi h
      refine ⟨h.1, h.2.1, fun c => ⟨(h.2.2.1 c).1, (h.2.2.1 c).2.1, mk S1 _ _ _ hi (h.2.2.1 c).2.2⟩, fun c => ⟨(h.2.2.2 c).1, m_next (fun r S' hi' hp => ?_) (h.2.2.2 c).2⟩⟩
      obtain ⟨b, g0, g1, g2, g3⟩ := hp
      exact ⟨b, g0, g1, g2, fun S29 e29 => ih S29 _ _ _ _ _ (hi.trans (hi'.trans (by rw [e29]; exact I7.same (fun z => z) rfl rfl))) (g3 S29 e29)⟩
  have k55 : ∀ n S1 u v (x2 x3 : Int32), I7 o S S1 → w_X6_readValue_55 P G mc ms n S1 u v o x2 x3 → w_X6_readValue_55 Q G mc ms n S1 u v o x2 x3 := by
    intro n
    induction n with
    | zero => intro S1 u v x2 x3 _ h; exact h
    | succ n ih =>
      intro S1 u v x2 x3 hi h
      exact ⟨h.1, h.2.1, fun c => ⟨(h.2.2.1 c).1, (h.2.2.1 c).2.1, mk S1 _ _ _ hi (h.2.2.1 c).2.2⟩, fun c => ⟨(h.2.2.2 c).1, m_next (fun r S' hi' hp => ih S' _ _ _ _ (hi.trans hi') hp) (h.2.2.2 c).2⟩⟩
  have k114 : ∀ S1 u v (x2 : Int32) (y : Option Nat), I7 o S S1 → w_X6_readValue_114 P G mc ms S1 u v o x2 y → w_X6_readValue_114 Q G mc ms S1 u v o x2 y := fun S1 u v x2 y hi h => by
    obtain ⟨g0, g1, n, g2⟩ := h
    exact ⟨g0, g1, n, k118 n S1 _ _ _ _ _ hi g2⟩
  have k29 : ∀ S1 u v (y : Int64), I7 o S S1 → w_X6_readValue_29 P G mc ms S1 u v y → w_X6_readValue_29 Q G mc ms S1 u v y := fun S1 u v y hi h => ⟨h.1, h.2.1, h.2.2.1, h.2.2.2.1, mk S1 _ _ _ hi h.2.2.2.2⟩
  refine ⟨fun c0 => ⟨fun c2 => ⟨((h.1 c0).1 c2).1, m_next (fun r S' hi hp => ⟨fun d => ?_, fun d => k114 S' _ _ _ _ hi (hp.2 d)⟩) ((h.1 c0).1 c2).2⟩, fun c2 => ?_⟩, fun c0 => ⟨(h.2 c0).1, m_uns (fun r S' hi hp => ⟨fun d => k29 S' _ _ _ hi (hp.1 d), fun d => k29 S' _ _ _ hi (hp.2 d)⟩) (h.2 c0).2⟩⟩
  · obtain ⟨g0, g1, g2, g3, g4⟩ := hp.1 d
    exact ⟨g0, g1, g2, g3, fun q hq S41 e41 => k114 S41 _ _ _ _ (hi.trans (by rw [e41]; exact I7.newA (hi.1 ho) hq)) (g4 q hq S41 e41)⟩
  · obtain ⟨n, g⟩ := (h.1 c0).2 c2
    exact ⟨n, k55 n S _ _ _ _ I7.rfl g⟩
theorem m_chk {P Q : Int32 → cs_S → Prop} {t : Option Nat} {a b : Int32} (k : ∀ r, P r S → Q r S) (h : wp_X6_checkOf P G S t a b) : wp_X6_checkOf Q G S t a b := by
  have key : ∀ n (x0 : Option Nat) (x2 x3 x4 : Int32), w_X6_checkOf_9 P G n S x0 x2 x3 x4 → w_X6_checkOf_9 Q G n S x0 x2 x3 x4 := by
    intro n
    induction n with
    | zero => intro x0 x2 x3 x4 h; exact h
    | succ n ih =>
      intro x0 x2 x3 x4 h
      refine ⟨fun c => k _ (h.1 c), fun c => ?_⟩
      obtain ⟨b3, g0, g1, g2, g3⟩ := h.2 c
      have k32 : ∀ m (x0 : Option Nat) (x2 x3 x4 x5 : Int32), w_X6_checkOf_32 P G (w_X6_checkOf_9 P G n) m S x0 x2 x3 x4 x5 → w_X6_checkOf_32 Q G (w_X6_checkOf_9 Q G n) m S x0 x2 x3 x4 x5 := by
        intro m
        induction m with
        | zero => intro x0 x2 x3 x4 x5 h; exact h
        | succ m ihm =>
          intro x0 x2 x3 x4 x5 h
          exact ⟨fun c => ih _ _ _ _ (h.1 c), fun c => ⟨fun d => ihm _ _ _ _ _ ((h.2 c).1 d), fun d => ihm _ _ _ _ _ ((h.2 c).2 d)⟩⟩
      refine ⟨b3, g0, g1, fun d => k _ (g2 d), fun d => ?_⟩
      obtain ⟨q0, m, q1⟩ := g3 d
      exact ⟨q0, m, k32 m _ _ _ _ _ q1⟩
  obtain ⟨n, h⟩ := h
  exact ⟨n, key n _ _ _ _ h⟩
theorem m_rec {P Q : Option Nat → cs_S → Prop} {mc ms : Nat} {a b : Int32} (ho : cs_k S o = 8) (k : ∀ r S', I7 o S S' → P r S' → Q r S') (h : wp_X6_readRecord P G mc ms S o a b) : wp_X6_readRecord Q G mc ms S o a b := by
  have k208 : ∀ S1 u v (x5 x7 : Int64) (x10 x11 : Option Nat), I7 o S S1 → w_X6_readRecord_208 P G mc ms S1 u v o x5 x7 x10 x11 → w_X6_readRecord_208 Q G mc ms S1 u v o x5 x7 x10 x11 := by
    intro S1 u v x5 x7 x10 x11 hi h
    refine ⟨h.1, h.2.1, h.2.2.1, fun c => ⟨(h.2.2.2.1 c).1, (h.2.2.2.1 c).2.1, k _ _ hi (h.2.2.2.1 c).2.2⟩, fun c => ⟨(h.2.2.2.2 c).1, (h.2.2.2.2 c).2.1, fun q hq S41 e41 => ?_⟩⟩
    have h1 := (h.2.2.2.2 c).2.2 q hq S41 e41
    refine ⟨h1.1, fun S12 e12 => ⟨(h1.2 S12 e12).1, fun S14 e14 => ⟨((h1.2 S12 e12).2 S14 e14).1, fun S16 e16 => ⟨(((h1.2 S12 e12).2 S14 e14).2 S16 e16).1, fun S18 e18 => ⟨((((h1.2 S12 e12).2 S14 e14).2 S16 e16).2 S18 e18).1, fun S20 e20 => ?_⟩⟩⟩⟩⟩
    have h2 := ((((h1.2 S12 e12).2 S14 e14).2 S16 e16).2 S18 e18).2 S20 e20
    refine ⟨h2.1, h2.2.1, k _ _ (hi.trans ?_) h2.2.2⟩
    have hn : I7 o S1 S41 := by rw [e41]; exact I7.new (hi.1 ho) hq
    refine hn.trans ?_
    rw [e20, e18, e16, e14, e12]
    exact I7.same (fun z => z) (by rw [iur, iur, iui, if_neg (fun z => absurd z.1 (by decide)), iul, iui, if_neg (fun z => absurd z.1 (by decide))]) (by rw [iur, iur, iui, if_neg (fun z => absurd z.1 (by decide)), iul, iui, if_neg (fun z => absurd z.1 (by decide))])
  have k168 : ∀ S1 u v (x3 : Int32) (x5 x7 : Int64) (x10 x11 : Option Nat), I7 o S S1 → w_X6_readRecord_168 P G mc ms S1 u v o x3 x5 x7 x10 x11 → w_X6_readRecord_168 Q G mc ms S1 u v o x3 x5 x7 x10 x11 := by
    intro S1 u v x3 x5 x7 x10 x11 hi h
    refine ⟨h.1, h.2.1, h.2.2.1, fun r44 e44 => m_chk (fun r45 hp => ⟨hp.1, m_next (fun r S' hi' hp => ⟨fun d => k208 S' _ _ _ _ _ _ (hi.trans hi') (hp.1 d), fun d => ⟨(hp.2 d).1, m_fail (by decide) (fun S'' hi'' hp => k208 S'' _ _ _ _ _ _ (hi.trans (hi'.trans hi'')) hp) (hp.2 d).2⟩⟩) hp.2⟩) (h.2.2.2 r44 e44)⟩
  have k91 : ∀ n S1 u v (x3 : Int32) (x5 x7 : Int64) (x9 : Int32) (x10 x11 : Option Nat) (x12 : Int64) (x14 : Int32), I7 o S S1 → w_X6_readRecord_91 P G mc ms n S1 u v o x3 x5 x7 x9 x10 x11 x12 x14 → w_X6_readRecord_91 Q G mc ms n S1 u v o x3 x5 x7 x9 x10 x11 x12 x14 := by
    intro n
    induction n with
    | zero => intro S1 u v x3 x5 x7 x9 x10 x11 x12 x14 _ h; exact h
    | succ n ih =>
      intro S1 u v x3 x5 x7 x9 x10 x11 x12 x14 hi h
      have k140 : ∀ S2 u v (x10 : Option Nat), I7 o S S2 → w_X6_readRecord_140 P G mc ms (w_X6_readRecord_91 P G mc ms n) S2 u v o x3 x5 x7 x9 x10 x11 x14 → w_X6_readRecord_140 Q G mc ms (w_X6_readRecord_91 Q G mc ms n) S2 u v o x3 x5 x7 x9 x10 x11 x14 := by
        intro S2 u v x10 hi h
        obtain ⟨g0, g1, b50, g2, g3, g4, g5, h⟩ := h
        refine ⟨g0, g1, b50, g2, g3, g4, g5, m_next (fun r S' hi' hp => ?_) h⟩
        obtain ⟨q0, m, n', q1, q2, hp⟩ := hp
        refine ⟨q0, m, n', q1, q2, m_val q0 (fun r S'' hi'' hp => ?_) hp⟩
        obtain ⟨b56, p0, p1, p2, p3, hp⟩ := hp
        exact ⟨b56, p0, p1, p2, p3, fun S58 e58 => ih S58 _ _ _ _ _ _ _ _ _ _ (hi.trans (hi'.trans (hi''.trans (by rw [e58]; exact I7.same (fun z => z) rfl rfl)))) (hp S58 e58)⟩
      refine ⟨h.1, h.2.1, fun c => k168 S1 _ _ _ _ _ _ _ hi (h.2.2.1 c), fun c => ⟨(h.2.2.2 c).1, fun d => k168 S1 _ _ _ _ _ _ _ hi ((h.2.2.2 c).2.1 d), fun d => m_word (fun r S' hi' hp => ?_) ((h.2.2.2 c).2.2 d)⟩⟩
      obtain ⟨b61, g0, g1, g2, hp⟩ := hp
      refine ⟨b61, g0, g1, g2, fun S63 e63 => ⟨(hp S63 e63).1, (hp S63 e63).2.1, fun d2 => ?_, fun d2 => ⟨((hp S63 e63).2.2.2 d2).1, ?_⟩⟩⟩
      · exact k140 S63 _ _ _ (hi.trans (hi'.trans (by rw [e63]; exact I7.same (fun z => z) rfl rfl))) ((hp S63 e63).2.2.1 d2)
      · exact m_fail (by decide) (fun S'' hi'' hp => k140 S'' _ _ _ (hi.trans (hi'.trans (I7.trans (by rw [e63]; exact I7.same (fun z => z) rfl rfl) hi''))) hp) ((hp S63 e63).2.2.2 d2).2
  have k55 : ∀ S1 u v (x3 : Int32) (x5 : Int64), I7 o S S1 → w_X6_readRecord_55 P G mc ms S1 u v o x3 x5 → w_X6_readRecord_55 Q G mc ms S1 u v o x3 x5 := by
    intro S1 u v x3 x5 hi h
    refine ⟨h.1, h.2.1, h.2.2.1, m_word (fun r S' hi' hp => ⟨hp.1, m_next (fun r2 S'' hi'' hp2 => ?_) hp.2⟩) h.2.2.2⟩
    obtain ⟨g0, g1, g2, g3, g4⟩ := hp2
    refine ⟨g0, g1, g2, g3, fun q71 hq71 S72 e72 => ?_⟩
    obtain ⟨f0, f1, f2, f3, f4⟩ := g4 q71 hq71 S72 e72
    refine ⟨f0, f1, f2, f3, fun q73 hq73 S74 e74 => ?_⟩
    obtain ⟨n, hp3⟩ := f4 q73 hq73 S74 e74
    have i2 := hi.trans (hi'.trans hi'')
    have i3 : I7 o S S72 := i2.trans (by rw [e72]; exact I7.newA (i2.1 ho) hq71)
    exact ⟨n, k91 n S74 _ _ _ _ _ _ _ _ _ _ (i3.trans (by rw [e74]; exact I7.newA (i3.1 ho) hq73)) hp3⟩
  have k48 : ∀ S1 u v (x3 x4 : Int32) (x5 : Int64), I7 o S S1 → w_X6_readRecord_48 P G mc ms S1 u v o x3 x4 x5 → w_X6_readRecord_48 Q G mc ms S1 u v o x3 x4 x5 := fun S1 u v x3 x4 x5 hi h => ⟨h.1, h.2.1, h.2.2.1, m_fail (by decide) (fun S' hi' hp => k55 S' u v x3 x5 (hi.trans hi') hp) h.2.2.2⟩
  exact ⟨h.1, m_next (fun r S' hi hp => ⟨hp.1, m_uns (fun r2 S'' hi' hp2 => ⟨fun c => k48 S'' _ _ _ _ _ (hi.trans hi') (hp2.1 c), fun c => ⟨fun d => k55 S'' _ _ _ _ (hi.trans hi') ((hp2.2 c).1 d), fun d => k48 S'' _ _ _ _ _ (hi.trans hi') ((hp2.2 c).2 d)⟩⟩) hp.2⟩) h.2⟩
theorem k7 {rc : Nat} : K7 G rc := fun S bs nw post h0 h => m_rec h.1 (fun r S' hi hp => hp (fun z => (hi.2 z).2)) h
end I7S
