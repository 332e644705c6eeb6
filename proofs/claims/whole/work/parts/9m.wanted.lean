/-! ===== the class: the key that holds what is wanted ===== -/
/-- a chain by field fi -/
def chn (S : cs_S) (fi : Nat) : List Nat → Option Nat → Prop
  | [], r => r = none
  | a :: l, r => r = some a ∧ chn S fi l (cs_r S fi a)
def hs (x : Int32) : Int32 := x ^^^ (((x.toUInt32 >>> ((15 : Int32).toUInt32 &&& Int32.toUInt32 31)).toInt32) ^^^ ((x.toUInt32 >>> ((7 : Int32).toUInt32 &&& Int32.toUInt32 31)).toInt32))
def kX (c : Nat → Int32 × Int32 × (Nat → Int32)) (n : Nat) : Int32 := hs (vh (nI n) (fun k => hX (c k)) n)
theorem kX_cong {c c' : Nat → Int32 × Int32 × (Nat → Int32)} {n : Nat} (h : ∀ k, k < n → c k = c' k) : kX c n = kX c' n := by
  unfold kX
  rw [vh_cong n (fun k hk => by rw [h k hk])]
/-- a key by itself -/
def kyW (S : cs_S) (a vs n : Nat) : Prop := cs_k S a = 6 ∧ cs_r S 500 a = some vs ∧ cs_k S vs = 26 ∧ cs_n S vs = n ∧ n ≤ 4 ∧ vRow S vs n ∧ cs_i S 501 a = kX (rX S vs) n
/-- the buckets of a rule -/
def bkW (S : cs_S) (ra bt nb : Nat) (bl : Nat → List Nat) : Prop := cs_k S ra = 9 ∧ cs_r S 816 ra = some bt ∧ cs_k S bt = 25 ∧ cs_n S bt = nb ∧ (nb = 1 ∨ nb = 128) ∧ ∀ i, i < nb → chn S 502 (bl i) (cs_ar S bt i) ∧ ∀ a, a ∈ bl i → ∃ vs n, kyW S a vs n ∧ fm (cs_i S 501 a) (nI nb) = nI i
/-- what is wanted -/
def wnW (S : cs_S) (ra wt m : Nat) : Prop := cs_r S 817 ra = some wt ∧ cs_k S wt = 26 ∧ cs_n S wt = 4 ∧ m ≤ 4 ∧ vRow S wt m
/-- a new key -/
def kNew (S S' : cs_S) (bt i q vs m wt : Nat) : Prop := cs_k S q = 0 ∧ cs_k S vs = 0 ∧ q ≠ vs ∧ fX (fun s f a => s = 5 ∧ f = i ∧ a = bt) S S' ∧ cs_k S' q = 6 ∧ cs_k S' vs = 26 ∧ cs_n S' vs = m ∧ (∀ k, k < m → cs_ar S' vs k = cs_ar S wt k) ∧ cs_r S' 500 q = some vs ∧ cs_i S' 501 q = kX (rX S wt) m ∧ cs_r S' 502 q = cs_ar S bt i ∧ cs_ar S' bt i = some q ∧ cs_i S' 503 q = -1 ∧ (∀ f, f ≠ 501 → f ≠ 503 → cs_i S' f q = 0) ∧ (∀ f, f ≠ 500 → f ≠ 502 → cs_r S' f q = none) ∧ ∀ f, cs_l S' f q = 0
section CKW
variable {G : Nat → Nat} {S : cs_S} {ra bt nb wt m mc ms : Nat} {bl : Nat → List Nat} {post : Option Nat → cs_S → Prop}
theorem ckw_new {i u v : Nat} {h : Int32} (hB : bkW S ra bt nb bl) (hW : wnW S ra wt m) (hi : i < nb) (hu : u + 2 ≤ mc) (hv : v + m + 15 ≤ ms) (hh : h = kX (rX S wt) m) (hp : ∀ q vs S', kNew S S' bt i q vs m wt → post (some q) S') {q1 : Nat} (hq1 : cs_k S q1 = 0) : ∀ r k (S1 : cs_S), k + r = m → fX (fun _ _ _ => False) S S1 → cs_k S1 q1 = 26 → cs_n S1 q1 = m → (∀ j, j < k → cs_ar S1 q1 j = cs_ar S wt j) → w_X7_keyOfWanted_130 post G mc ms (r + 1) S1 (u + 1) (v + m) ra (nI m) h (nI i) (some q1) (nI k) := by
  obtain ⟨b1, b2, b3, b4, b5, b6⟩ := hB
  obtain ⟨w1, w2, w3, w4, w5⟩ := hW
  have lra : cs_k S ra ≠ 0 := by rw [b1]; decide
  have lbt : cs_k S bt ≠ 0 := by rw [b3]; decide
  have lwt : cs_k S wt ≠ 0 := by rw [w2]; decide
  intro r
  induction r with
  | zero =>
    intro k S1 hk hF k1 n1 hrow
    have : k = m := by omega
    subst this
    refine ⟨by omega, by omega, fun _ => ⟨by omega, by omega, by omega, by omega, fun q2 hq2 S3 e3 => ⟨fun _ => ?_, fun c => absurd (nI_pos' (by omega)) c⟩⟩, fun c => absurd (nI_le (Nat.le_refl _) (by omega)) c⟩
    subst e3
    have hq2S : cs_k S q2 = 0 := hF.dead hq2
    have hq21 : q2 ≠ q1 := fun e => by rw [e, k1] at hq2; exact absurd hq2 (by decide)
    have hra2 : ra ≠ q2 := fun e => lra (by rw [e]; exact hq2S)
    have hbt2 : bt ≠ q2 := fun e => lbt (by rw [e]; exact hq2S)
    have hbt1 : bt ≠ q1 := fun e => lbt (by rw [e]; exact hq1)
    obtain ⟨fa1, fa2, fa3, fa4, fa5, fa6, fa7, fa8⟩ := hF ra lra
    obtain ⟨fb1, fb2, fb3, fb4, fb5, fb6, fb7, fb8⟩ := hF bt lbt
    have kra : cs_k (cs_new S1 q2 5) ra = 9 := by rw [knew, if_neg hra2, fa1]; exact b1
    have rra : cs_r (cs_new S1 q2 5) 816 ra = some bt := by rw [rnew, if_neg hra2, fa5 816 id]; exact b2
    have kbt : cs_k (cs_new S1 q2 5) bt = 25 := by rw [knew, if_neg hbt2, fb1]; exact b3
    have nbt : cs_n (cs_new S1 q2 5) bt = nb := by rw [nnew, fb2]; exact b4
    have abt : cs_ar (cs_new S1 q2 5) bt i = cs_ar S bt i := by rw [arnew]; exact fb8 i id
    refine ⟨kra, fun r65 e65 => ⟨bt, e65.trans rra, kbt, by rw [nbt]; exact nI_in hi (by omega), fun r68 e68 => ?_⟩⟩
    rw [nI_clamp (by omega), abt] at e68
    have kq2 : cs_k (cs_new S1 q2 5) q2 = 6 := by rw [knew, if_pos rfl]
    refine ⟨by omega, by omega, q2, rfl, kq2, fun S10 e10 => ?_⟩
    subst e10
    refine ⟨kq2, fun S12 e12 => ?_⟩
    subst e12
    refine ⟨kq2, fun S14 e14 => ?_⟩
    subst e14
    refine ⟨kq2, fun S16 e16 => ?_⟩
    subst e16
    refine ⟨fun c => absurd (nI_pos' (by omega)) (Int32.not_le.mpr c), fun _ => ⟨kra, fun r58 e58 => ⟨bt, ?_, kbt, ?_, fun b e => ?_, fun S61 e61 => ⟨by omega, by omega, ?_⟩⟩⟩⟩
    · rw [e58, rui, rur, if_neg (fun z => hra2 z.2), rui, rur, if_neg (fun z => hra2 z.2)]; exact rra
    · show vp_in (nI i) (cs_n (cs_new S1 q2 5) bt)
      rw [nbt]; exact nI_in hi (by omega)
    · have : q2 = b := Option.some.inj e
      rw [← this]; exact kq2
    · subst e61
      rw [nI_clamp (by omega)]
      refine hp q2 q1 _ ⟨hq2S, hq1, hq21, ?_, kq2, ?_, ?_, fun j hj => ?_, ?_, ?_, ?_, ?_, ?_, fun f h1 h2 => ?_, fun f h1 h2 => ?_, fun f => ?_⟩
      · have hF2 : fX (fun s f a => s = 5 ∧ f = i ∧ a = bt) S (cs_new S1 q2 5) := (hF.mono (fun _ _ _ z => z.elim)).new hq2
        exact ((((hF2.ur (Or.inr hq2S)).ui (Or.inr hq2S)).ur (Or.inr hq2S)).ui (Or.inr hq2S)).uar (Or.inl ⟨rfl, rfl, rfl⟩)
      · show cs_k (cs_new S1 q2 5) q1 = 26
        rw [knew, if_neg (Ne.symm hq21)]; exact k1
      · exact n1
      · rw [aruar, if_neg (fun z => hbt1 z.1.symm)]
        exact hrow j hj
      · rw [ruar, rui, rur, if_neg (fun z => absurd z.1 (by decide)), rui, rur, if_pos ⟨rfl, rfl⟩]
      · rw [iuar, iui, if_neg (fun z => absurd z.1 (by decide)), iur, iui, if_pos ⟨rfl, rfl⟩, hh]
      · rw [ruar, rui, rur, if_pos ⟨rfl, rfl⟩, e68]
      · rw [aruar, if_pos ⟨rfl, rfl⟩]
      · rw [iuar, iui, if_pos ⟨rfl, rfl⟩]
      · rw [iuar, iui, if_neg (fun z => h2 z.1), iur, iui, if_neg (fun z => h1 z.1), iur, inew, if_pos rfl]
      · rw [ruar, rui, rur, if_neg (fun z => h2 z.1), rui, rur, if_neg (fun z => h1 z.1), rnew, if_pos rfl]
      · show cs_l (cs_new S1 q2 5) f q2 = 0
        rw [lnew, if_pos rfl]
  | succ r ih =>
    intro k S1 hk hF k1 n1 hrow
    obtain ⟨fa1, fa2, fa3, fa4, fa5, fa6, fa7, fa8⟩ := hF ra lra
    obtain ⟨fb1, fb2, fb3, fb4, fb5, fb6, fb7, fb8⟩ := hF wt lwt
    obtain ⟨va, v1, tx, L, v2⟩ := w5 k (by omega)
    have lva : cs_k S va ≠ 0 := by rw [v2.1]; decide
    refine ⟨by omega, by omega, fun c => absurd c (nI_ge (by omega) (by omega)), fun _ => ⟨fa1.trans b1, fun r70 e70 => ⟨wt, e70.trans ((fa5 817 id).trans w1), fb1.trans w2, fun c => ?_, fun _ r73 e73 => ⟨wt, e73.trans ((fa5 817 id).trans w1), fb1.trans w2, by rw [fb2, w3]; exact nI_in (by omega) (by omega), fun r76 e76 => ⟨q1, rfl, k1, by rw [n1]; exact nI_in (by omega) (by omega), fun b e => ?_, fun S79 e79 => ?_⟩⟩⟩⟩⟩
    · rw [fb2, w3] at c; exact absurd c (nI_ge (b := 4) (by omega) (by omega))
    · rw [nI_clamp (by omega), fb8 k id, v1] at e76
      have : va = b := Option.some.inj (e76.symm.trans e)
      rw [← this, (hF va lva).1]; exact v2.1
    · subst e79
      rw [nI_clamp (by omega), nI_1]
      rw [nI_clamp (by omega), fb8 k id] at e76
      refine ih (k + 1) _ (by omega) (hF.uar (Or.inr hq1)) k1 n1 (fun j hj => ?_)
      rw [aruar]
      by_cases c : j = k
      · rw [if_pos ⟨rfl, c⟩, c, e76]
      · rw [if_neg (fun z => c z.2)]; exact hrow j (by omega)
theorem ckw (hB : bkW S ra bt nb bl) (hW : wnW S ra wt m) (hf : ∀ i a vs, i < nb → a ∈ bl i → kyW S a vs m → (∀ k, k < m → rX S vs k = rX S wt k) → post (some a) S)
    (hn : (∀ i a vs, i < nb → a ∈ bl i → kyW S a vs m → ¬ ∀ k, k < m → rX S vs k = rX S wt k) → 2 ≤ mc ∧ m + 15 ≤ ms ∧ ∀ i q vs S', i < nb → fm (kX (rX S wt) m) (nI nb) = nI i → kNew S S' bt i q vs m wt → post (some q) S') : wp_X7_keyOfWanted post G mc ms S ra (nI m) := by
  obtain ⟨b1, b2, b3, b4, b5, b6⟩ := id hB
  obtain ⟨w1, w2, w3, w4, w5⟩ := id hW
  obtain ⟨i, hi, hfi⟩ := fm_in (kX (rX S wt) m) b5
  -- along the chain
  have loop : ∀ l x, chn S 502 l x → (∀ a, a ∈ l → a ∈ bl i) → (∀ a, a ∈ bl i → a ∈ l ∨ ∀ vs, kyW S a vs m → ¬ ∀ k, k < m → rX S vs k = rX S wt k) → w_X7_keyOfWanted_89 post G mc ms (l.length + 1) S 0 0 ra (nI m) (kX (rX S wt) m) (nI i) x := by
    intro l
    induction l with
    | nil =>
      intro x hx hin hout
      have hx' : x = none := hx
      subst hx'
      obtain ⟨c1, c2, hN⟩ := hn (fun i' a vs hi' ha hky hall => by
        obtain ⟨vs', n', hk', hf'⟩ := (b6 i' hi').2 a ha
        have e1 : cs_i S 501 a = kX (rX S wt) m := hky.2.2.2.2.2.2.trans (kX_cong hall)
        rw [e1, hfi] at hf'
        have : i = i' := (nI_eq (by omega) (by omega)).mp hf'
        subst this
        rcases hout a ha with z | z
        · exact absurd z (by simp)
        · exact z vs hky hall)
      refine ⟨by omega, by omega, fun _ => ⟨nI_pos (by omega), by rw [nI_clamp (by omega)]; omega, by omega, by rw [nI_clamp (by omega)]; omega, fun q1 hq1 S82 e82 => ⟨m + 1, ?_⟩⟩, fun b e => (nomatch e)⟩
      subst e82
      rw [nI_clamp (by omega)]
      have h0 := ckw_new (G := G) (mc := mc) (ms := ms) (post := post) (i := i) (u := 0) (v := 0) (h := kX (rX S wt) m) hB hW hi (by omega) (by omega) rfl (fun q vs S' hk => hN i q vs S' hi hfi hk) hq1 m 0 (cs_newA S q1 26 m) (by omega) (fX.rfl.newA hq1) (by rw [knewA, if_pos rfl]) (by rw [nnewA, if_pos rfl]) (fun j hj => absurd hj (by omega))
      exact h0
    | cons a l ih =>
      intro x hx hin hout
      obtain ⟨hx1, hx2⟩ := hx
      subst hx1
      obtain ⟨vs, n, hky, -⟩ := (b6 i hi).2 a (hin a (by simp))
      obtain ⟨y1, y2, y3, y4, y5, y6, y7⟩ := id hky
      refine ⟨by omega, by omega, fun e => (nomatch e), fun b e => ?_⟩
      have : a = b := Option.some.inj e
      subst this
      refine ⟨b1, fun r84 e84 => ⟨y1, ?_⟩⟩
      rw [e84, w1]
      refine chv y1 y2 y3 y4 y5 y6 w2 w3 w5 w4 (fun z1 z2 z3 => ⟨fun q => absurd q (by decide), fun _ => hf i a vs hi (hin a (by simp)) (by rw [← z2]; exact hky) z3⟩) (fun z => ⟨fun _ => ⟨y1, fun r88 e88 => ?_⟩, fun q => absurd rfl q⟩)
      rw [e88]
      refine ih _ hx2 (fun b hb => hin b (by simp [hb])) (fun b hb => ?_)
      rcases hout b hb with q | q
      · rcases List.mem_cons.mp q with e1 | e1
        · refine Or.inr (fun vs' hk' hall => z ?_)
          rw [e1] at hk'
          have e2 : vs = vs' := Option.some.inj (y2.symm.trans hk'.2.1)
          subst e2
          have e3 : n = m := y4.symm.trans hk'.2.2.2.1
          exact ⟨hk'.2.2.2.2.2.2.trans (kX_cong hall), e3, hall⟩
        · exact Or.inl e1
      · exact Or.inr q
  have at39 : w_X7_keyOfWanted_39 post G mc ms S 0 0 ra (nI m) (vh (nI m) (fun k => hX (rX S wt k)) m) := by
    refine ⟨by omega, by omega, b1, fun r95 e95 => ⟨bt, e95.trans b2, b3, fun _ r98 e98 => ⟨bt, e98.trans b2, b3, cfm ?_ ?_⟩, fun c => ?_⟩⟩
    · rw [b4]
      intro c
      have := (nI_eq (a := nb) (b := 0) (by omega) (by omega)).mp c
      omega
    · rw [b4]
      show w_X7_keyOfWanted_72 post G mc ms S 0 0 ra (nI m) (kX (rX S wt) m) (fm (kX (rX S wt) m) (nI nb))
      rw [hfi]
      refine ⟨by omega, by omega, fun _ => ⟨b1, fun r90 e90 => ⟨bt, e90.trans b2, b3, by rw [b4]; exact nI_in hi (by omega), fun r93 e93 => ⟨by omega, by omega, (bl i).length + 1, ?_⟩⟩⟩, fun c => absurd (nI_pos' (by omega)) c⟩
      rw [e93, nI_clamp (by omega)]
      exact loop (bl i) _ (b6 i hi).1 (fun a h => h) (fun a h => Or.inl h)
    · rw [b4] at c
      have := (nI_eq (a := nb) (b := 0) (by omega) (by omega)).mp c
      omega
  have key : ∀ r k, k + r = m → w_X7_keyOfWanted_4 post G mc ms (r + 1) S 0 0 ra (nI m) (vh (nI m) (fun k => hX (rX S wt k)) k) (nI k) := by
    intro r
    induction r with
    | zero =>
      intro k hk
      have : k = m := by omega
      subst this
      exact ⟨by omega, by omega, fun _ => at39, fun c => absurd (nI_le (Nat.le_refl _) (by omega)) c⟩
    | succ r ih =>
      intro k hk
      obtain ⟨va, v1, tx, L, v2⟩ := w5 k (by omega)
      refine ⟨by omega, by omega, fun c => absurd c (nI_ge (by omega) (by omega)), fun _ => ⟨b1, fun r103 e103 => ⟨wt, e103.trans w1, w2, fun c => ?_, fun _ r106 e106 => ⟨wt, e106.trans w1, w2, by rw [w3]; exact nI_in (by omega) (by omega), fun r109 e109 => ⟨va, ?_, v2.1, ?_⟩⟩⟩⟩⟩
      · rw [w3] at c; exact absurd c (nI_ge (b := 4) (by omega) (by omega))
      · rw [e109, nI_clamp (by omega)]; exact v1
      · have hx : rX S wt k = vX S va := by unfold rX; rw [v1]; rfl
        rw [nI_1, vX_h v2, ← hx]
        exact ih (k + 1) (by omega)
  exact ⟨m + 1, key m 0 (by omega)⟩
end CKW
