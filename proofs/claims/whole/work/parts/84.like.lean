/-! ===== patterns: what is like what; the class's search ===== -/
/-- r places of the pattern from i on are like the text from j on, to its end n -/
def sfx (P T : Nat → Int32) (n : Nat) : Nat → Nat → Nat → Prop
  | 0, _, j => j = n
  | r + 1, i, j => (P i = 42 ∧ ∃ s, j ≤ s ∧ s ≤ n ∧ sfx P T n r (i + 1) s) ∨ (¬ P i = 42 ∧ j < n ∧ (P i = 63 ∨ P i = T j) ∧ sfx P T n r (i + 1) (j + 1))
section SFX
variable {P T : Nat → Int32} {n : Nat}
theorem sfx_star {r i j : Nat} (h : P i = 42) : sfx P T n (r + 1) i j ↔ ∃ s, j ≤ s ∧ s ≤ n ∧ sfx P T n r (i + 1) s := by
  rw [sfx]
  exact ⟨fun q => by
    rcases q with q | q
    · exact q.2
    · exact absurd h q.1, fun q => Or.inl ⟨h, q⟩⟩
theorem sfx_chr {r i j : Nat} (h : ¬ P i = 42) : sfx P T n (r + 1) i j ↔ j < n ∧ (P i = 63 ∨ P i = T j) ∧ sfx P T n r (i + 1) (j + 1) := by
  rw [sfx]
  exact ⟨fun q => by
    rcases q with q | q
    · exact absurd q.1 h
    · exact q.2, fun q => Or.inr ⟨h, q⟩⟩
theorem sfx_peel : ∀ len r i t, (∀ k, k < len → ¬ P (i + k) = 42) → sfx P T n (len + r) i t → (len = 0 ∨ t + len ≤ n) ∧ sfx P T n r (i + len) (t + len) := by
  intro len
  induction len with
  | zero => intro r i t _ h; rw [Nat.zero_add] at h; exact ⟨Or.inl rfl, h⟩
  | succ len ih =>
    intro r i t hp h
    rw [show len + 1 + r = (len + r) + 1 from by omega, sfx_chr (by have := hp 0 (by omega); exact this)] at h
    obtain ⟨h1, -, h3⟩ := h
    obtain ⟨g1, g2⟩ := ih r (i + 1) (t + 1) (fun k hk => by rw [show i + 1 + k = i + (k + 1) from by omega]; exact hp (k + 1) (by omega)) h3
    refine ⟨Or.inr (by omega), ?_⟩
    rw [show i + (len + 1) = i + 1 + len from by omega, show t + (len + 1) = t + 1 + len from by omega]
    exact g2
theorem sfx_end : ∀ r i, sfx P T n r i n ↔ ∀ k, k < r → P (i + k) = 42 := by
  intro r
  induction r with
  | zero => intro i; exact ⟨fun _ k hk => absurd hk (by omega), fun _ => rfl⟩
  | succ r ih =>
    intro i
    by_cases h : P i = 42
    · rw [sfx_star h]
      constructor
      · rintro ⟨s, h1, h2, h3⟩ k hk
        have : s = n := by omega
        rw [this, ih] at h3
        cases k with
        | zero => exact h
        | succ k => rw [show i + (k + 1) = i + 1 + k from by omega]; exact h3 k (by omega)
      · intro q
        exact ⟨n, Nat.le_refl _, Nat.le_refl _, (ih (i + 1)).mpr (fun k hk => by rw [show i + 1 + k = i + (k + 1) from by omega]; exact q (k + 1) (by omega))⟩
    · rw [sfx_chr h]
      exact ⟨fun q => absurd q.1 (by omega), fun q => absurd (q 0 (by omega)) h⟩
end SFX
section CLK
variable {G : Nat → Nat} {S : cs_S} {va vb tx ty n a : Nat} {post : Int32 → cs_S → Prop} {W : Prop}
/-- the stars that end a pattern -/
theorem clk_124 (hb : cvW S vb ty a) (hy : W → post 1 S) (hn : ¬ W → post 0 S) : ∀ r i, i + r = a → (W ↔ ∀ k, k < r → cs_ai S ty (i + k) = 42) → w_X9_like_124 post G (r + 1) S (some vb) (nI i) := by
  obtain ⟨b1, b2, b3, b4, b5, -, -⟩ := hb
  have h150 : ∀ i, i ≤ a → (W ↔ i = a) → w_X9_like_150 post G S (some vb) (nI i) := by
    intro i hi hw
    refine ⟨vb, rfl, b1, fun r29 e29 => ⟨ty, e29.trans b2, b3, fun hc => ⟨rfl, hn (fun q => hc ?_)⟩, fun hc => ⟨rfl, hy (hw.mpr ?_)⟩⟩⟩
    · rw [b4, hw.mp q]; rfl
    · rw [b4] at hc
      exact (nI_eq (by omega) (by omega)).mp hc
  intro r
  induction r with
  | zero =>
    intro i hi hw
    refine ⟨vb, rfl, b1, fun r34 e34 => ⟨ty, e34.trans b2, b3, fun _ => h150 i (by omega) ⟨fun _ => by omega, fun _ => hw.mpr (fun k hk => absurd hk (by omega))⟩, fun hc => ?_⟩⟩
    rw [b4] at hc
    exact absurd (nI_le (by omega) (by omega)) hc
  | succ r ih =>
    intro i hi hw
    refine ⟨vb, rfl, b1, fun r34 e34 => ⟨ty, e34.trans b2, b3, fun hc => ?_, fun _ r37 e37 => ⟨ty, e37.trans b2, b3, by rw [b4]; exact nI_in (by omega) (by omega), ?_⟩⟩⟩
    · rw [b4] at hc; exact absurd hc (nI_ge (by omega) (by omega))
    · rw [nI_clamp (by omega), nI_1]
      refine ⟨fun hc => h150 i (by omega) ⟨fun q => absurd (hw.mp q 0 (by omega)) hc, fun q => by omega⟩, fun hc => ih (i + 1) (by omega) ⟨fun q k hk => ?_, fun q => hw.mpr (fun k hk => ?_)⟩⟩
      · rw [show i + 1 + k = i + (k + 1) from by omega]; exact hw.mp q (k + 1) (by omega)
      · cases k with
        | zero => exact hc
        | succ k => rw [show i + (k + 1) = i + 1 + k from by omega]; exact q k (by omega)
/-- how far the search is: place of the star (none yet), where it began -/
def lkS : Option Nat → Int32
  | some s => nI s
  | none => -1
def lkI (P T : Nat → Int32) (n a : Nat) (W : Prop) (i j sA : Nat) : Option Nat → Prop
  | none => sA = 0 ∧ (W ↔ sfx P T n (a - i) i j)
  | some s => s < i ∧ P s = 42 ∧ sA ≤ j ∧ i = s + 1 + (j - sA) ∧ (∀ k, k < j - sA → ¬ P (s + 1 + k) = 42) ∧ (W ↔ (sfx P T n (a - i) i j ∨ ∃ t, sA < t ∧ t ≤ n ∧ sfx P T n (a - (s + 1)) (s + 1) t))
def lkR : Option Nat → Nat
  | some s => s + 1
  | none => 0
theorem clk_13 (ha : cvW S va tx n) (hb : cvW S vb ty a) (hm1 : ∀ k, k < n → ¬ cs_ai S tx k = -1) (hy : W → post 1 S) (hn : ¬ W → post 0 S) : ∀ f i j sA st x6, i ≤ a → j ≤ n → sA ≤ n → lkR st ≤ a → (a - lkR st) * 676 + (n - sA) * 26 + (n + 1 - j) ≤ f → x6 + ((a - lkR st) * 676 + (n - sA) * 26 + (n + 1 - j)) ≤ 20000 → lkI (cs_ai S ty) (cs_ai S tx) n a W i j sA st → w_X9_like_13 post G (f + 1) S va (some vb) (nI j) (nI i) (lkS st) (nI sA) (nI x6) := by
  obtain ⟨a1, a2, a3, a4, a5, -, -⟩ := id ha
  obtain ⟨b1, b2, b3, b4, b5, -, -⟩ := id hb
  intro f
  induction f with
  | zero =>
    intro i j sA st x6 hi hj hsA hst hf hx hI
    exfalso
    omega
  | succ f ih =>
    intro i j sA st x6 hi hj hsA hst hf hx hI
    have hend : j = n → ∃ n9, w_X9_like_124 post G n9 S (some vb) (nI i) := by
      intro ej
      refine ⟨a - i + 1, clk_124 hb hy hn (a - i) i (by omega) ?_⟩
      rw [← sfx_end (P := cs_ai S ty) (T := cs_ai S tx) (n := n)]
      cases st with
      | none => rw [ej] at hI; exact hI.2
      | some s =>
        obtain ⟨c1, c2, c3, c4, c5, c6⟩ := hI
        rw [ej] at c6 c4 c5 c3
        rw [c6]
        refine ⟨fun q => ?_, fun q => Or.inl q⟩
        rcases q with q | ⟨t, t1, t2, t3⟩
        · exact q
        · exfalso
          rw [show a - (s + 1) = (n - sA) + (a - i) from by omega] at t3
          have := (sfx_peel (n - sA) (a - i) (s + 1) t c5 t3).1
          omega
    refine ⟨fun hc => absurd hc (nI_ge (b := 1000000) (by omega) (by decide)), fun _ => ⟨a1, fun r45 e45 => ⟨tx, e45.trans a2, a3, fun hc => hend ?_, fun hc => ⟨vb, rfl, b1, fun r50 e50 => ⟨ty, e50.trans b2, b3, ?_⟩⟩⟩⟩⟩
    · rw [a4] at hc
      have := (nI_leI (by omega) (by omega)).mp hc
      omega
    · rw [a4] at hc
      have hjn : j < n := Nat.not_le.mp (fun q => hc (nI_le q (by omega)))
      -- a place that doesn't fit
      have hmis : (sfx (cs_ai S ty) (cs_ai S tx) n (a - i) i j → False) → (lkS st = -1 → post 0 S) ∧ (¬ lkS st = -1 → w_X9_like_118 post G (w_X9_like_13 post G (f + 1)) S va (some vb) (nI sA + 1) (lkS st + 1) (lkS st) (nI sA + 1) (nI x6)) := by
        intro hno
        cases st with
        | none => exact ⟨fun _ => hn (fun q => hno (hI.2.mp q)), fun q => absurd rfl q⟩
        | some s =>
          obtain ⟨c1, c2, c3, c4, c5, c6⟩ := hI
          have hs2 : s + 1 ≤ a := hst
          refine ⟨fun q => ?_, fun _ => ?_⟩
          · exfalso
            have h0 : (0 : Int32) ≤ nI s := nI_pos' (by omega)
            have q' : nI s = -1 := q
            rw [q'] at h0
            exact absurd h0 (by decide)
          · show w_X9_like_13 post G (f + 1) S va (some vb) (nI sA + 1) (nI s + 1) (nI s) (nI sA + 1) (nI x6 + 1)
            rw [nI_1, nI_1, nI_1]
            have hlk : lkR (some s) = s + 1 := rfl
            rw [hlk] at hf hx
            refine ih (s + 1) (sA + 1) (sA + 1) (some s) (x6 + 1) hs2 (by omega) (by omega) hs2 (by rw [hlk]; omega) (by rw [hlk]; omega) ⟨by omega, c2, Nat.le_refl _, by omega, fun k hk => absurd hk (by omega), ?_⟩
            rw [c6]
            constructor
            · intro q
              rcases q with q | ⟨t, t1, t2, t3⟩
              · exact absurd q (fun z => hno z)
              · by_cases et : t = sA + 1
                · rw [et] at t3; exact Or.inl t3
                · exact Or.inr ⟨t, by omega, t2, t3⟩
            · intro q
              rcases q with q | ⟨t, t1, t2, t3⟩
              · exact Or.inr ⟨sA + 1, by omega, by omega, q⟩
              · exact Or.inr ⟨t, by omega, t2, t3⟩
      -- a place that fits
      have hfit : i < a → ¬ cs_ai S ty i = 42 → (cs_ai S ty i = 63 ∨ cs_ai S ty i = cs_ai S tx j) → w_X9_like_87 post G (w_X9_like_13 post G (f + 1)) S va (some vb) (nI j) (nI i) (lkS st) (nI sA) (nI x6) := by
        intro hia h42 hch
        show w_X9_like_13 post G (f + 1) S va (some vb) (nI j + 1) (nI i + 1) (lkS st) (nI sA) (nI x6 + 1)
        rw [nI_1, nI_1, nI_1]
        have hstep : sfx (cs_ai S ty) (cs_ai S tx) n (a - i) i j ↔ sfx (cs_ai S ty) (cs_ai S tx) n (a - (i + 1)) (i + 1) (j + 1) := by
          rw [show a - i = (a - (i + 1)) + 1 from by omega, sfx_chr h42]
          exact ⟨fun q => q.2.2, fun q => ⟨hjn, hch, q⟩⟩
        refine ih (i + 1) (j + 1) sA st (x6 + 1) hia hjn hsA hst (by omega) (by omega) ?_
        cases st with
        | none => exact ⟨hI.1, hI.2.trans hstep⟩
        | some s =>
          obtain ⟨c1, c2, c3, c4, c5, c6⟩ := hI
          refine ⟨by omega, c2, by omega, by omega, fun k hk => ?_, ?_⟩
          · by_cases ek : k = j - sA
            · rw [ek, ← c4]; exact h42
            · exact c5 k (by omega)
          · rw [c6, hstep]
      refine ⟨fun hd => ?_, fun hd r53 e53 => ⟨ty, e53.trans b2, b3, ?_, ?_⟩⟩
      · -- the pattern is at its end
        rw [b4] at hd
        have hia : i = a := by
          have := (nI_leI (by omega) (by omega)).mp hd
          omega
        have hno : sfx (cs_ai S ty) (cs_ai S tx) n (a - i) i j → False := by
          intro q
          rw [hia, Nat.sub_self] at q
          have : j = n := q
          omega
        refine ⟨fun _ => ⟨fun q => absurd q (by decide), fun _ => ⟨a1, fun r41 e41 => ⟨tx, e41.trans a2, a3, by rw [a4]; exact nI_in hjn (by omega), fun _ => hmis hno, fun q => ?_⟩⟩⟩, fun q => absurd q (by decide)⟩
        rw [nI_clamp (by omega)] at q
        exact absurd q.symm (hm1 j hjn)
      · rw [b4] at hd ⊢
        exact nI_in (Nat.not_le.mp (fun q => hd (nI_le q (by omega)))) (by omega)
      · rw [b4] at hd
        have hia : i < a := Nat.not_le.mp (fun q => hd (nI_le q (by omega)))
        rw [nI_clamp (by omega)]
        refine ⟨fun h42 => ⟨fun h63 => hfit hia h42 (Or.inl h63), fun h63 => ⟨a1, fun r41 e41 => ⟨tx, e41.trans a2, a3, by rw [a4]; exact nI_in hjn (by omega), fun hq => hmis (fun q => ?_), fun hq => hfit hia h42 (Or.inr ?_)⟩⟩⟩, fun h42 => ?_⟩
        · rw [show a - i = (a - (i + 1)) + 1 from by omega, sfx_chr h42] at q
          rw [nI_clamp (by omega)] at hq
          rcases q.2.1 with q | q
          · exact h63 q
          · exact hq q
        · rw [nI_clamp (by omega)] at hq; exact hq
        · -- a star
          show w_X9_like_13 post G (f + 1) S va (some vb) (nI j) (nI i + 1) (nI i) (nI j) (nI x6 + 1)
          rw [nI_1, nI_1]
          have hle : lkR st ≤ i := by
            cases st with
            | none => exact Nat.zero_le _
            | some s => obtain ⟨c1, -⟩ := hI; show s + 1 ≤ i; omega
          have hlk : lkR (some i) = i + 1 := rfl
          have hmu : (a - (i + 1)) * 676 + (n - j) * 26 + (n + 1 - j) + 1 ≤ (a - lkR st) * 676 + (n - sA) * 26 + (n + 1 - j) := by
            clear hf hx ih hI hend hmis hfit
            generalize lkR st = R at hle hst ⊢
            omega
          have hm1' : (a - lkR (some i)) * 676 + (n - j) * 26 + (n + 1 - j) ≤ f := by
            rw [hlk]
            exact Nat.le_of_succ_le_succ (Nat.le_trans hmu hf)
          have hm2' : x6 + 1 + ((a - lkR (some i)) * 676 + (n - j) * 26 + (n + 1 - j)) ≤ 20000 := by
            rw [hlk, Nat.add_assoc, Nat.add_comm 1]
            exact Nat.le_trans (Nat.add_le_add_left hmu x6) hx
          refine ih (i + 1) j j (some i) (x6 + 1) hia hj hj hia hm1' hm2' ⟨by omega, h42, Nat.le_refl _, by omega, fun k hk => absurd hk (by omega), ?_⟩
          have hst1 : sfx (cs_ai S ty) (cs_ai S tx) n (a - i) i j ↔ (sfx (cs_ai S ty) (cs_ai S tx) n (a - (i + 1)) (i + 1) j ∨ ∃ t, j < t ∧ t ≤ n ∧ sfx (cs_ai S ty) (cs_ai S tx) n (a - (i + 1)) (i + 1) t) := by
            rw [show a - i = (a - (i + 1)) + 1 from by omega, sfx_star h42]
            constructor
            · rintro ⟨s, s1, s2, s3⟩
              by_cases es : s = j
              · rw [es] at s3; exact Or.inl s3
              · exact Or.inr ⟨s, by omega, s2, s3⟩
            · intro q
              rcases q with q | ⟨t, t1, t2, t3⟩
              · exact ⟨j, Nat.le_refl _, hj, q⟩
              · exact ⟨t, by omega, t2, t3⟩
          rw [← hst1]
          cases st with
          | none => exact hI.2
          | some s =>
            obtain ⟨c1, c2, c3, c4, c5, c6⟩ := hI
            rw [c6]
            refine ⟨fun q => ?_, fun q => Or.inl q⟩
            rcases q with q | ⟨t, t1, t2, t3⟩
            · exact q
            · rw [show a - (s + 1) = (j - sA) + (a - i) from by omega] at t3
              have h2 := (sfx_peel (j - sA) (a - i) (s + 1) t c5 t3).2
              rw [← c4, show a - i = (a - (i + 1)) + 1 from by omega, sfx_star h42] at h2
              obtain ⟨s', s1, s2, s3⟩ := h2
              rw [show a - i = (a - (i + 1)) + 1 from by omega, sfx_star h42]
              exact ⟨s', by omega, s2, s3⟩
theorem clk (ha : cvW S va tx n) (hb : cvW S vb ty a) (hm1 : ∀ k, k < n → ¬ cs_ai S tx k = -1) (hy : sfx (cs_ai S ty) (cs_ai S tx) n a 0 0 → post 1 S) (hn : ¬ sfx (cs_ai S ty) (cs_ai S tx) n a 0 0 → post 0 S) : wp_X9_like post G S va (some vb) := by
  have h1 := ha.2.2.2.2.1
  have h2 := hb.2.2.2.2.1
  exact ⟨20001, clk_13 ha hb hm1 hy hn 20000 0 0 0 none 0 (by omega) (by omega) (by omega) (Nat.zero_le _) (by show (a - 0) * 676 + (n - 0) * 26 + (n + 1 - 0) ≤ 20000; omega) (by show 0 + ((a - 0) * 676 + (n - 0) * 26 + (n + 1 - 0)) ≤ 20000; omega) ⟨rfl, Iff.rfl⟩⟩
end CLK
