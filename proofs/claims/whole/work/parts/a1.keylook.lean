/-! ===== the key of an event, and the look ===== -/
theorem b_iff {a b : Bool} (h : a = true ↔ b = true) : a = b := by cases a <;> cases b <;> simp_all
theorem bt_z : ∀ H, H < 32 → (∀ c, c < 5 → H.testBit c = false) → H = 0 := by decide +kernel
/-- the numbers of values: equal where the values are -/
def wqI (σ : rf_S) (ne : Nat) : Prop := ∀ x y i j, x < ne → y < ne → i < mN σ x → j < mN σ y → ((σ.2.2.1 17 (8 * x + i) = σ.2.2.1 17 (8 * y + j) ↔ vC σ (8 * x + i) = vC σ (8 * y + j)) ∧ ∃ v, v < 32000 ∧ σ.2.2.1 17 (8 * x + i) = nI v)
section WQ
variable {σ : rf_S} {ne b n x y : Nat}
theorem fO_mN {m k : Nat} {c : Int64} (hm : σ.2.2.1 9 x = nI m) (hm8 : m ≤ 8) (h : fO σ x c = some k) : k < mN σ x := by
  unfold mN
  rw [hm, nI_clamp (by omega)]
  exact (fO_lt hm hm8 h).1
theorem km_c (hq : wqI σ ne) (hx : x < ne) (hy : y < ne) (hmn : ∀ o, o < ne → ∃ m, m ≤ 8 ∧ σ.2.2.1 9 o = nI m) (kx : kH σ b n x) (ky : kH σ b n y) : kM σ b n x y ↔ ∀ k, k < n → kcO σ b x k = kcO σ b y k := by
  obtain ⟨m1, a1, a2⟩ := hmn x hx
  obtain ⟨m2, b1, b2⟩ := hmn y hy
  constructor
  · intro h k hk
    obtain ⟨i, j, z1, z2, z3⟩ := h k hk
    unfold kcO
    rw [z1, z2]
    exact (hq x y i j hx hy (fO_mN a2 a1 z1) (fO_mN b2 b1 z2)).1.mp z3
  · intro h k hk
    obtain ⟨i, z1⟩ := kx k hk
    obtain ⟨j, z2⟩ := ky k hk
    have := h k hk
    unfold kcO at this
    rw [z1, z2] at this
    exact ⟨i, j, z1, z2, (hq x y i j hx hy (fO_mN a2 a1 z1) (fO_mN b2 b1 z2)).1.mpr this⟩
theorem vv_lt (hq : wqI σ ne) (hx : x < ne) (hmn : ∀ o, o < ne → ∃ m, m ≤ 8 ∧ σ.2.2.1 9 o = nI m) : vV σ b x < 32000 := by
  obtain ⟨m1, a1, a2⟩ := hmn x hx
  unfold vV
  cases c : fO σ x (σ.2.2.2 36 b) with
  | none => show 0 < 32000; omega
  | some k =>
    have hk := fO_mN a2 a1 c
    obtain ⟨v, v1, v2⟩ := (hq x x k k hx hx hk hk).2
    show (σ.2.2.1 17 (8 * x + k)).toNatClampNeg < 32000
    rw [v2, nI_clamp (by omega)]; exact v1
theorem vv_c (hq : wqI σ ne) (hx : x < ne) (hy : y < ne) (hmn : ∀ o, o < ne → ∃ m, m ≤ 8 ∧ σ.2.2.1 9 o = nI m) {i j : Nat} (h1 : fO σ x (σ.2.2.2 36 b) = some i) (h2 : fO σ y (σ.2.2.2 36 b) = some j) : scO σ b x = scO σ b y ↔ vV σ b x = vV σ b y := by
  obtain ⟨m1, a1, a2⟩ := hmn x hx
  obtain ⟨m2, b1, b2⟩ := hmn y hy
  have k1 := fO_mN a2 a1 h1
  have k2 := fO_mN b2 b1 h2
  obtain ⟨z, v, v1, v2⟩ := hq x y i j hx hy k1 k2
  obtain ⟨-, v', v3, v4⟩ := hq y x j i hy hx k2 k1
  unfold scO vV
  rw [h1, h2]
  show vC σ (8 * x + i) = vC σ (8 * y + j) ↔ (σ.2.2.1 17 (8 * x + i)).toNatClampNeg = (σ.2.2.1 17 (8 * y + j)).toNatClampNeg
  rw [← z, v2, v4, nI_clamp (by omega), nI_clamp (by omega)]
  exact nI_eq (by omega) (by omega)
end WQ
section JKR
variable {S S' : cs_S} {σ : rf_S} {Ow : Nat → Prop} {r ra b x k n w L wt bt nb lo now p : Nat} {tm ev ko eo sr an : Nat → Nat} {bl : Nat → List Nat} {so : Nat → Option Nat} {Kf Kc : Nat → Prop}
theorem JK.row {E : Nat → Nat → Nat → Prop} (h : JK S σ Ow r ra b x k n w L tm ev wt bt nb bl ko eo so lo sr an Kf Kc now p) (hF : fX E S S') (hE : ∀ s f a, E s f a → a = wt ∨ a = bt) (hb : bI S' ra wt bt nb n bl Ow ko Kf (kcO σ b) (kfO σ r) (cO σ r b) so (scO σ b) p) : JK S' σ Ow r ra b x k n w L tm ev wt bt nb bl ko eo so lo sr an Kf Kc now p := by
  obtain ⟨h1, h2, h3, h4, h5, h6, h7, h8, h9, h10⟩ := h
  have kw : cs_k S wt = 26 := h3.1.2.2.2.1
  have kb : cs_k S bt = 25 := h3.1.1.2.2.1
  have kr : cs_k S ra = 9 := h3.1.1.1
  have kE : ∀ s f a, E s f a → cs_k S a = 26 ∨ cs_k S a = 25 := fun s f a z => by
    rcases hE s f a z with y | y
    · rw [y]; exact Or.inl kw
    · rw [y]; exact Or.inr kb
  have kk : ∀ f, Kf f → cs_k S (ko f) = 6 := fun f hf => by
    obtain ⟨i, vs, k1, k2, -⟩ := h3.2.1 f hf
    exact (h3.2.2.2 i _ k1 k2).2.1
  refine ⟨fun a ha => hF.live (h1 a ha), h2, hb, fun f hf => ?_, h5, ?_, h7, fun hx => ?_, fun hx => (h9 hx).fx hF (fun s f a z _ => ⟨fun y => by have := kE s f a z; omega, by have := kE s f a z; omega⟩), fun hx => (h10 hx).fx hF (fun s f a z _ => Or.inr (Or.inr (by have := kE s f a z; omega)))⟩
  · have k1 := kk f hf
    obtain ⟨-, -, a3, -⟩ := hF (ko f) (by omega)
    rw [a3 503 (fun z => by have := kE _ _ _ z; omega), a3 504 (fun z => by have := kE _ _ _ z; omega)]; exact h4 f hf
  · obtain ⟨-, -, a3, -⟩ := hF ra (by omega)
    rw [a3 812 (fun z => by have := kE _ _ _ z; omega)]; exact h6
  · obtain ⟨j1, j2, j3, j4, j5⟩ := h8 hx
    refine ⟨j1.fx hF (fun s f a z _ => Or.inr (Or.inr (by have := kE s f a z; omega))), fun hx0 => (j2 hx0).fx (fun f hf => ?_), j3, j4, j5⟩
    have k1 := kk f hf
    obtain ⟨-, -, a3, -, a5, -⟩ := hF (ko f) (by omega)
    exact ⟨a3 508 (fun z => by have := kE _ _ _ z; omega), a5 507 (fun z => by have := kE _ _ _ z; omega)⟩
/-- a key more: it is new -/
theorem JK.key {i q vs f0 : Nat} {Kf' : Nat → Prop} (h : JK S σ Ow r ra b x k n w L tm ev wt bt nb bl ko eo so lo sr an Kf Kf now p) (hK : ∀ f, Kf' f ↔ Kf f ∨ f = f0) (h0 : ¬ Kf f0) (hW : wnW S ra wt n) (hi : i < nb) (hfi : fm (kX (rX S wt) n) (nI nb) = nI i) (hN : kNew S S' bt i q vs n wt) (hc : ∀ k, k < n → rX S wt k = kcO σ b f0 k) (h65 : σ.2.2.1 65 (4000 * r + f0) = -1 ∧ σ.2.2.1 66 (4000 * r + f0) = 0) (hno : ∀ o, o < p → hkO σ r o → kfO σ r o ≠ f0) : JK S' σ (oV Ow q vs) r ra b x k n w L tm ev wt bt nb (blU bl i q) (prU ko f0 q) eo so lo sr (prU an f0 0) Kf' Kf now p ∧ (x = 3 → cs_r S' 512 q = none ∧ ∀ f, Kf f → prU ko f0 q f ≠ q) := by
  obtain ⟨h1, h2, h3, h4, h5, h6, h7, h8, h9, h10⟩ := h
  have kw : cs_k S wt = 26 := h3.1.2.2.2.1
  have kb : cs_k S bt = 25 := h3.1.1.2.2.1
  have kr : cs_k S ra = 9 := h3.1.1.1
  obtain ⟨n1, n2, n3, hF, n5, n6, n7, n8, n9, n10, n11, n12, n13, n14, n15, n16⟩ := id hN
  have kE : ∀ s f a, (s = 5 ∧ f = i ∧ a = bt) → cs_k S a = 25 := fun s f a z => by rw [z.2.2]; exact kb
  have kk : ∀ f, Kf f → cs_k S (ko f) = 6 := fun f hf => by
    obtain ⟨i, vs, k1, k2, -⟩ := h3.2.1 f hf
    exact (h3.2.2.2 i _ k1 k2).2.1
  have ne : ∀ f, Kf f → f ≠ f0 := fun f hf e => h0 (by rw [← e]; exact hf)
  have nq : ∀ f, Kf f → ko f ≠ q := fun f hf e => by have := kk f hf; rw [e, n1] at this; cases this
  have hOv : ∀ a, cs_k S' a ≠ 0 → Ow a → oV Ow q vs a := fun a _ z => Or.inl z
  have pk : ∀ f, Kf f → ko f = prU ko f0 q f := fun f hf => (prU_o (ne f hf)).symm
  refine ⟨⟨fun a ha => ?_, Or.inl h2, h3.key hW hi hfi hN hK h0 hc, fun f hf => ?_, fun f f' z1 z2 z3 => ?_, ?_, h7, fun hx => ?_, fun hx => ?_, fun hx => ?_⟩, fun hx => ⟨n15 512 (by decide) (by decide), fun f hf => by rw [prU_o (ne f hf)]; exact nq f hf⟩⟩
  · rcases ha with z | z | z
    · exact hF.live (h1 a z)
    · rw [z, n5]; decide
    · rw [z, n6]; decide
  · rcases (hK f).mp hf with z | z
    · have k1 := kk f z
      obtain ⟨-, -, a3, -⟩ := hF (ko f) (by omega)
      rw [prU_o (ne f z), a3 503 (fun y => by have := kE _ _ _ y; omega), a3 504 (fun y => by have := kE _ _ _ y; omega)]; exact h4 f z
    · rw [z, prU_r, n13, n14 504 (by decide) (by decide), h65.1, h65.2]
      exact ⟨rfl, rfl⟩
  · rcases (hK f).mp z1 with y1 | y1
    · rcases (hK f').mp z2 with y2 | y2
      · rw [prU_o (ne f y1), prU_o (ne f' y2)] at z3
        exact h5 f f' y1 y2 z3
      · rw [y2, prU_r, prU_o (ne f y1)] at z3
        exact absurd z3 (nq f y1)
    · rcases (hK f').mp z2 with y2 | y2
      · rw [y1, prU_r, prU_o (ne f' y2)] at z3
        exact absurd z3.symm (nq f' y2)
      · rw [y1, y2]
  · obtain ⟨-, -, a3, -⟩ := hF ra (by omega)
    rw [a3 812 (fun z => by have := kE _ _ _ z; omega)]; exact h6
  · obtain ⟨j1, j2, j3, j4, j5⟩ := h8 hx
    have hc1 := (j1.fx hF (fun s f a z _ => Or.inr (Or.inr (by have := kE s f a z; omega)))).cong (Ow' := oV Ow q vs) (ko' := prU ko f0 q) (fun _ _ => Iff.rfl) (fun _ _ _ => ⟨rfl, rfl, rfl, rfl, rfl, rfl⟩) (fun _ => Iff.rfl) pk hOv
    refine ⟨hc1.key hK (by rw [prU_r]; exact ⟨n5, Or.inr (Or.inl rfl)⟩) (fun f hf => by rw [prU_r, prU_o (ne f hf)]; exact nq f hf) (fun o ho hc => hno o ho hc.1) (by rw [prU_r]; exact n15 505 (by decide) (by decide)) (by rw [prU_r]; exact n15 506 (by decide) (by decide)) (by rw [prU_r]; exact n16 509) (by rw [prU_r]; exact n14 510 (by decide) (by decide)), fun hx0 f hf => ?_, j3, j4, j5⟩
    rcases (hK f).mp hf with z | z
    · have k1 := kk f z
      obtain ⟨-, -, a3, -, a5, -⟩ := hF (ko f) (by omega)
      rw [prU_o (ne f z), a3 508 (fun y => by have := kE _ _ _ y; omega), a5 507 (fun y => by have := kE _ _ _ y; omega)]
      exact j2 hx0 f z
    · have e0 : sS (cK (cO σ r b) (kfO σ r) f) (fun _ => 1) 0 p = 0 := sS_zero _ (fun o _ ho y => hno o (by omega) y.1.1 (by rw [← z]; exact y.2))
      rw [e0, z, prU_r]
      exact ⟨by rw [n14 508 (by decide) (by decide)]; rfl, fun y => absurd y (by decide)⟩
  · refine ((h9 hx).fx hF (fun s f a z _ => ⟨fun y => by have := kE s f a z; omega, by have := kE s f a z; omega⟩)).cong hOv (fun _ => Iff.rfl) pk (fun _ _ _ _ _ => Iff.rfl) (fun _ _ _ _ => Iff.rfl)
  · have hc1 := ((h10 hx).fx hF (fun s f a z _ => Or.inr (Or.inr (by have := kE s f a z; omega)))).cong (Ow' := oV Ow q vs) (ko' := prU ko f0 q) (an' := prU an f0 0) (fun _ _ => Iff.rfl) (fun _ _ _ => ⟨rfl, rfl, rfl⟩) (fun _ => Iff.rfl) (fun f hf => ⟨pk f hf, (prU_o (ne f hf)).symm⟩) hOv
    exact hc1.key hK (by rw [prU_r]; exact ⟨n5, Or.inr (Or.inl rfl)⟩) (fun f hf => by rw [prU_r, prU_o (ne f hf)]; exact nq f hf) (fun o ho hc => hno o ho hc.1) (by rw [prU_r]; exact n14 513 (by decide) (by decide)) (by rw [prU_r]; exact n14 514 (by decide) (by decide)) prU_r
end JKR
section CKL
variable {G : Nat → Nat} {S : cs_S} {σ σ1 : rf_S} {Ow : Nat → Prop} {r ra b x k n w q L wt bt nb lo e f0 B te m mK sK mL sL : Nat} {tm ev ko eo sr an : Nat → Nat} {bl : Nat → List Nat} {so : Nat → Option Nat} {dp : Nat → Nat} {tr : (c : Nat) → cT (dp c)} {ud : Nat} {ut : Option (cT ud)} {res : Option Nat} {post : Nat → Int32 → cs_S → Prop} {Z : cs_S → Prop} {Q : Nat → cs_S → Prop}
theorem ckl (hJ : JK S σ Ow r ra b x k n w L tm ev wt bt nb bl ko eo so lo sr an (KfO σ r e) (KfO σ r e) (tm e) e) (hR : ruC S σ r ra b x k n w q dp tr ud ut) (hW : ruW σ b x k n w q dp tr ud ut) (hL : x = 0 ∨ x = 1 → 1 ≤ L ∧ L ≤ 1000 ∧ σ.2.2.1 39 b = nI L) (he : e < 4000) (hK : kI σ r b n 4000) (h65 : ∀ f, f < 4000 → ¬ KfO σ r e f → σ.2.2.1 65 (4000 * r + f) = -1 ∧ σ.2.2.1 66 (4000 * r + f) = 0)
    (hkh : kH σ b n e) (hf : (f0 < e ∧ σ.2.2.1 63 (4000 * r + f0) = nI f0 ∧ kM σ b n f0 e) ∨ (f0 = e ∧ ∀ g, g < e → σ.2.2.1 63 (4000 * r + g) = nI g → ¬ kM σ b n g e)) (hU : upD σ σ1 r e f0 B) (hB : B < 64) (hbits : ∀ c, c < k → (B.testBit c = true ↔ cTr σ e (dp c) (tr c))) (hb5 : B.testBit 5 = true ↔ unT σ e ud ut)
    (hres : x ≠ 4 → (B.testBit (k - 1) = true → stO σ1 r b e f0 w tm res) ∧ (B.testBit (k - 1) = false → res = none)) (hres4 : x = 4 → res = none) (hq : wqI σ (e + 1)) (hmn : ∀ o, o < e + 1 → ∃ m, m ≤ 8 ∧ σ.2.2.1 9 o = nI m)
    (hev : evR S σ te (ev e) e m) (hte : te ≤ 24000) (hmk : cs_i S 402 (ev e) = σ.2.2.1 10 e) (hvs : ∀ vs, cs_r S 404 (ev e) = some vs → vs ≠ wt) (hevs : ∀ o, o ≤ e → cs_k S (ev o) = 5 ∧ cs_i S 400 (ev o) = nI (tm o) ∧ tm o ≤ 2000000000 ∧ cs_i S 405 (ev o) = nI o) (hm : ∀ o o', o ≤ o' → o' ≤ e → tm o ≤ tm o')
    (hmK : f0 = e → 2 ≤ mK ∧ n + 15 ≤ sK) (hmL : 1 ≤ mL ∧ 6 ≤ sL) (hmd : x = 1 → hI σ b e → 3 ≤ mL ∧ 25 ≤ sL)
    (hpost : ∀ S' Ow' bl' ko' eo' so' lo' sr' an', fX (rE S wt bt Ow) S S' → oX S Ow Ow' → (∀ f, KfO σ r e f → ko' f = ko f) → KfO σ1 r (e + 1) f0 → (x = 4 → lo' = lo ∧ an' = (if B.testBit 1 = true then prU (if f0 = e then prU an e 0 else an) f0 e else (if f0 = e then prU an e 0 else an))) → JK S' σ1 Ow' r ra b x k n w L tm ev wt bt nb bl' ko' eo' so' lo' sr' an' (KfO σ1 r (e + 1)) (KfO σ1 r (e + 1)) (tm e) (e + 1) → post (ko' f0) (oI res) S') (hQ : ∀ a S1, cs_k S1 ra = 9 → wp_X7_look (fun r39 S39 => post a r39 S39) G mL sL S1 ra (some a) (some (ev e)) → Q a S1) :
    wp_X7_keyOf (fun key S1 => (key = none → Z S1) ∧ ∀ a, key = some a → Q a S1) G mK sK S ra (some (ev e)) := by
  obtain ⟨h1, h2, h3, h4, h5, h6, h7, h8, h9, h10⟩ := id hJ
  obtain ⟨g1, g2, g3, g4, g5, g6, g7, g8, g9, g10, g11, g12, g13, g14, g15⟩ := id hW
  obtain ⟨g40, gk1, gk5, gcs⟩ := id g10
  obtain ⟨⟨b1, b2, b3, b4, b5, b6, b6'⟩, b7, b8, b9⟩ := id h3
  have kbt : cs_k S bt = 25 := b1.2.2.1
  have hf0 : f0 ≤ e := by rcases hf with z | z <;> omega
  have kfl : ∀ o, o < e → hkO σ r o → kfO σ r o ≤ o ∧ KfO σ r e (kfO σ r o) := fun o ho hk => by
    rcases hK.1 o (by omega) with z | ⟨f, z1, z2, z3, -⟩
    · exact absurd z hk
    · have : kfO σ r o = f := by unfold kfO; rw [z2, nI_clamp (by omega)]
      rw [this]
      exact ⟨z1, by omega, z3⟩
  have kHf : ∀ f, KfO σ r e f → kH σ b n f := fun f hf' => by
    rcases hK.1 f (by have := hf'.1; omega) with z | ⟨f', z1, z2, z3, z4, z5⟩
    · rw [hf'.2] at z; exact absurd z (nI_m f (by have := hf'.1; omega))
    · exact z4
  have hK1 : ∀ f, KfO σ1 r (e + 1) f ↔ KfO σ r e f ∨ f = f0 := fun f => by
    unfold KfO
    by_cases c : f = e
    · subst c
      rw [hU.e63]
      constructor
      · rintro ⟨-, z⟩
        exact Or.inr ((nI_eq (by omega) (by omega)).mp z).symm
      · rintro (z | z)
        · omega
        · exact ⟨by omega, by rw [← z]⟩
    · rw [hU.o63 c]
      constructor
      · rintro ⟨z1, z2⟩; exact Or.inl ⟨by omega, z2⟩
      · rintro (z | z)
        · exact ⟨by omega, z.2⟩
        · rcases hf with ⟨y1, y2, -⟩ | ⟨y1, -⟩
          · rw [z]; exact ⟨by omega, y2⟩
          · omega
  have hKf0 : KfO σ1 r (e + 1) f0 := (hK1 f0).mpr (Or.inr rfl)
  have hkyO : kyO σ1 r (e + 1) := fun o ho => by
    by_cases c : o = e
    · subst c
      exact Or.inr ⟨f0, hf0, hU.e63, ((hK1 f0).mpr (Or.inr rfl)).2⟩
    · rw [hU.o63 c]
      rcases hK.1 o (by omega) with z | ⟨f, z1, z2, z3, -⟩
      · exact Or.inl z
      · exact Or.inr ⟨f, z1, z2, by rw [hU.o63 (by omega)]; exact z3⟩
  -- contents and keys
  have ceq : ∀ f, KfO σ r e f → (∀ k', k' < n → kcO σ b f k' = kcO σ b e k') → f = f0 := fun f hf' hc => by
    have hkm : kM σ b n f e := (km_c hq (by have := hf'.1; omega) (by omega) hmn (kHf f hf') hkh).mpr hc
    rcases hf with ⟨y1, y2, y3⟩ | ⟨y1, y2⟩
    · refine hK.2 f f0 (by have := hf'.1; omega) (by omega) hf'.2 y2 ?_
      have k0 := kHf f0 ⟨y1, y2⟩
      refine (km_c hq (by have := hf'.1; omega) (by omega) hmn (kHf f hf') k0).mpr (fun k' hk' => ?_)
      rw [hc k' hk', (km_c hq (by omega) (by omega) hmn k0 hkh).mp y3 k' hk']
    · exact absurd hkm (y2 f hf'.1 hf'.2)
  have ke0 : ∀ k', k' < n → kcO σ b e k' = kcO σ b f0 k' := fun k' hk' => by
    rcases hf with ⟨y1, y2, y3⟩ | ⟨y1, y2⟩
    · exact ((km_c hq (by omega) (by omega) hmn (kHf f0 ⟨y1, y2⟩) hkh).mp y3 k' hk').symm
    · rw [y1]
  have hku : ∀ f f', KfO σ1 r (e + 1) f → KfO σ1 r (e + 1) f' → (∀ k', k' < n → kcO σ1 b f k' = kcO σ1 b f' k') → f = f' := fun f f' z1 z2 z3 => by
    have z3' : ∀ k', k' < n → kcO σ b f k' = kcO σ b f' k' := fun k' hk' => by
      have := z3 k' hk'
      rw [hU.ev.kc, hU.ev.kc] at this
      exact this
    rcases (hK1 f).mp z1 with y1 | y1
    · rcases (hK1 f').mp z2 with y2 | y2
      · exact hK.2 f f' (by have := y1.1; omega) (by have := y2.1; omega) y1.2 y2.2 ((km_c hq (by have := y1.1; omega) (by have := y2.1; omega) hmn (kHf f y1) (kHf f' y2)).mpr z3')
      · rw [y2] at z3' ⊢
        exact ceq f y1 (fun k' hk' => by rw [z3' k' hk', ke0 k' hk'])
    · rcases (hK1 f').mp z2 with y2 | y2
      · rw [y1] at z3' ⊢
        exact (ceq f' y2 (fun k' hk' => by rw [← z3' k' hk', ke0 k' hk'])).symm
      · rw [y1, y2]
  -- once the key is there
  have go : ∀ S2 Ow2 bl2 ko2 an2, fX (rE S wt bt Ow) S S2 → oX S Ow Ow2 → (∀ f, KfO σ r e f → ko2 f = ko f) → wnW S2 ra wt n → (∀ k', k' < n → rX S2 wt k' = kcO σ b f0 k') → JK S2 σ Ow2 r ra b x k n w L tm ev wt bt nb bl2 ko2 eo so lo sr an2 (KfO σ1 r (e + 1)) (KfO σ r e) (tm e) e → (x = 4 → an2 = (if f0 = e then prU an e 0 else an)) → (x = 3 → ¬ KfO σ r e f0 → cs_r S2 512 (ko2 f0) = none ∧ ∀ f, KfO σ r e f → ko2 f ≠ ko2 f0) → cs_k S2 ra = 9 ∧ wp_X7_look (fun r39 S39 => post (ko2 f0) r39 S39) G mL sL S2 ra (some (ko2 f0)) (some (ev e)) := by
    intro S2 Ow2 bl2 ko2 an2 hF2 hO2 hko2 hwn hrx hJ2 han hch
    have hs2 : sh S wt (rE S wt bt Ow) := rE.sh kbt
    have hR2 := hR.fx hs2 hF2 b4
    have hev2 := hs2.evr hF2 b4 hvs hev
    have hevs2 : ∀ o, o ≤ e → cs_k S2 (ev o) = 5 ∧ cs_i S2 400 (ev o) = nI (tm o) ∧ tm o ≤ 2000000000 ∧ cs_i S2 405 (ev o) = nI o := fun o ho => by
      obtain ⟨z1, z2, z3, z4⟩ := hevs o ho
      obtain ⟨a1, -, a3, -⟩ := hF2 (ev o) (by omega)
      have hno : ∀ s f, ¬ rE S wt bt Ow s f (ev o) := fun s f y => by
        rcases y.2 with y | y | y | y | y | y
        · rw [y] at z1; omega
        · rw [y] at z1; omega
        all_goals omega
      exact ⟨a1.trans z1, (a3 400 (hno _ _)).trans z2, z3, (a3 405 (hno _ _)).trans z4⟩
    have hmk2 : cs_i S2 402 (ev e) = σ.2.2.1 10 e := by
      have := (hs2.ev hF2 b4 hev.1).2.1 402 (by omega)
      rw [this]; exact hmk
    refine ⟨hR2.1, clb hR2 gk5 (fun c hc => (gcs c hc).1) hev2 (by omega) hte hmk2 (fun H hH1 hH2 hH3 => ?_)⟩
    have hHB : ∀ c, c < k → H.testBit c = B.testBit c := fun c hc => b_iff ((hH2 c hc).trans (hbits c hc).symm)
    have hlo : x ≤ 2 → lo ≤ e := fun hx => (h8 hx).1.1.1
    obtain ⟨j1, j2, j3, j4, j5, j6, j7, j8, j9, j10⟩ := hJ2.on (σ' := σ1) hU.ev (fun o ho => hU.o63 (by omega)) (fun o ho => hU.o64 (by omega)) (fun f hf' => ⟨by rw [hU.2.2.2.1 65 (by decide) (by decide) (by decide)], by rw [hU.2.2.2.1 66 (by decide) (by decide) (by decide)]⟩) (by rw [hU.2.2.2.1 67 (by decide) (by decide) (by decide)]) (by omega) hlo
    have hR1 := hR2.ev hU.ev
    have hev1 := hU.ev.evr hev2
    have e38 : σ1.2.2.1 38 b = nI x := by rw [hU.ev.1 38 (by decide)]; exact g1
    have frm : ∀ S', fX (rE S2 wt bt Ow2) S2 S' → fX (rE S wt bt Ow) S S' := fun S' hF3 => hF2.tr hF3 (fun s f a ha z => rE.sub hF2 hO2 s f a ha z)
    -- the end: only what lives is owned
    have fin : ∀ S' Ow' bl' eo' so' lo' sr' an', fX (rE S2 wt bt Ow2) S2 S' → oX S2 Ow2 Ow' → bI S' ra wt bt nb n bl' Ow' ko2 (KfO σ1 r (e + 1)) (kcO σ1 b) (kfO σ1 r) (cO σ1 r b) so' (scO σ1 b) (e + 1) → (x ≠ 1 → ∀ o, so' o = none) → (x ≤ 2 → jC S' σ1 r ra b x w L Ow' ko2 ev (KfO σ1 r (e + 1)) so' tm eo' lo' (e + 1) (tm e)) → (x = 3 → chI S' Ow' ko2 ev sr' (KfO σ1 r (e + 1)) (bM σ1 r) (bU σ1 r) k (e + 1)) → (x = 4 → lcI S' ra Ow' ko2 eo' ev (kfO σ1 r) an' (c4O σ1 r) (KfO σ1 r (e + 1)) lo' (e + 1)) → (x = 4 → lo' = lo ∧ an' = (if B.testBit 1 = true then prU (if f0 = e then prU an e 0 else an) f0 e else (if f0 = e then prU an e 0 else an))) → post (ko2 f0) (oI res) S' := by
      intro S' Ow' bl' eo' so' lo' sr' an' hF3 hO3 z1 z2 z3 z4 z5 z6
      have hOw : ∀ a, cs_k S' a ≠ 0 → Ow' a → Ow' a ∧ cs_k S' a ≠ 0 := fun a z y => ⟨y, z⟩
      have kk : ∀ f, KfO σ1 r (e + 1) f → cs_k S2 (ko2 f) = 6 := fun f hf' => by
        obtain ⟨i, vs, k1, k2, -⟩ := j3.2.1 f hf'
        exact (j3.2.2.2 i _ k1 k2).2.1
      refine hpost S' (fun a => Ow' a ∧ cs_k S' a ≠ 0) bl' ko2 eo' so' lo' sr' an' (frm S' hF3) ⟨fun a z => ⟨hO3.1 a (hO2.1 a z), hF3.live (hF2.live (h1 a z))⟩, fun a ha z => (hO2.trans hF2 hO3).2 a ha z.1⟩ hko2 hKf0 z6 ⟨fun a z => z.2, ⟨hO3.1 _ j2, hF3.live (j1 _ j2)⟩, z1.cong hOw (fun _ => Iff.rfl) (fun _ _ => ⟨rfl, fun _ _ => rfl⟩) (Nat.le_refl _) (fun o y1 y2 _ => ⟨y1, y2⟩) (fun o y1 y2 _ => ⟨y2, rfl, rfl, fun _ _ => rfl⟩) (fun o a _ _ y => y), fun f hf' => ?_, j5, ?_, z2, fun hx => ?_, fun hx => (z4 hx).cong hOw (fun _ => Iff.rfl) (fun _ _ => rfl) (fun _ _ _ _ _ => Iff.rfl) (fun _ _ _ _ => Iff.rfl), fun hx => (z5 hx).cong (fun _ _ => Iff.rfl) (fun o y1 _ => ⟨rfl, rfl, rfl⟩) (fun _ => Iff.rfl) (fun _ _ => ⟨rfl, rfl⟩) hOw⟩
      · obtain ⟨-, -, a3, -⟩ := hF3 (ko2 f) (by rw [kk f hf']; decide)
        have k6 := kk f hf'
        have hno : ∀ s g, g < 505 → ¬ rE S2 wt bt Ow2 s g (ko2 f) := fun s g hg y => by
          have w1 := j3.1.2.2.2.1
          have w2 := j3.1.1.2.2.1
          rcases y.2 with y | y | y | y | y | y
          · rw [y] at k6; omega
          · rw [y] at k6; omega
          all_goals omega
        rw [a3 503 (hno _ _ (by omega)), a3 504 (hno _ _ (by omega))]
        exact j4 f hf'
      · have k9 := hR2.1
        obtain ⟨-, -, a3, -⟩ := hF3 ra (by omega)
        have hno : ∀ s, ¬ rE S2 wt bt Ow2 s 812 ra := fun s y => by
          have w1 := j3.1.2.2.2.1
          have w2 := j3.1.1.2.2.1
          rcases y.2 with y | y | y | y | y | y
          · rw [y] at k9; omega
          · rw [y] at k9; omega
          all_goals omega
        rw [a3 812 (hno _)]; exact j6
      · obtain ⟨y1, y2, y3, y4, y5⟩ := z3 hx
        exact ⟨y1.cong (fun _ _ => Iff.rfl) (fun _ _ _ => ⟨rfl, rfl, rfl, rfl, rfl, rfl⟩) (fun _ => Iff.rfl) (fun _ _ => rfl) hOw, y2, y3, y4, y5⟩
    by_cases hx2 : x ≤ 2
    · have hk1 : k = 1 := g12 hx2
      have hHz : H = 0 ↔ B.testBit 0 = false := by
        rw [← hHB 0 (by omega)]
        constructor
        · intro z; rw [z]; rfl
        · intro z
          have hall : ∀ c, c < 5 → H.testBit c = false := fun c hc => by
            by_cases c0 : c = 0
            · rw [c0]; exact z
            · exact hH3 c hc (by omega)
          exact bt_z H hH1 hall
      have e39 : x = 0 ∨ x = 1 → 1 ≤ L ∧ L ≤ 1000 ∧ σ1.2.2.1 39 b = nI L := fun z => by rw [hU.ev.1 39 (by decide)]; exact hL z
      have hrs := hres (by omega)
      rw [hk1] at hrs
      refine clC (k := k) (q := q) (dp := dp) (tr := tr) (ud := ud) (ut := ut) hR1 hx2 e38 e39 g6 g7 he hf0 hU.e63 hU.e64 hB hkyO hH1 hHz j3 hKf0 (fun o ho hk => ?_) (j8 hx2) ⟨hwn, fun k' hk' => by rw [hrx k' hk', hU.ev.kc]⟩ hku (fun hx1 o o' z1 z2 z3 z4 => ?_) (fun o ho => by rw [hU.ev.vv]; exact vv_lt hq (by omega) hmn) hev1 hte (fun vs hv => hvs vs (by rw [← (hs2.ev hF2 b4 hev.1).2.2.2 404 (by omega)]; exact hv)) hevs2 hm hrs.1 hrs.2 hmL (fun z1 z2 => hmd z1 (hU.ev.hi.mp z2)) (fun S' Ow' eo' so' lo' bl' z1 z2 z3 z4 => ?_)
      · have hk' : hkO σ r o := by unfold hkO at hk ⊢; rw [← hU.o63 (show o ≠ e by omega)]; exact hk
        rw [hU.kf (by omega)]
        exact (hK1 _).mpr (Or.inl (kfl o ho hk').2)
      · rw [hU.ev.sc, hU.ev.sc, hU.ev.vv, hU.ev.vv]
        have fld : ∀ o, hI σ1 b o → ∃ i, fO σ o (σ.2.2.2 36 b) = some i := fun o z => by
          rcases hU.ev.hi.mp z with ⟨y, -⟩ | ⟨i, y, -⟩
          · exact absurd (by rw [g1, hx1]; rfl) y
          · exact ⟨i, y⟩
        obtain ⟨i, z5⟩ := fld o z3
        obtain ⟨i', z6⟩ := fld o' z4
        exact vv_c hq (by omega) (by omega) hmn z5 z6
      · exact fin S' Ow' bl' eo' so' lo' sr an2 z1 z2 z3 (fun z => z4.2.2.1 z) (fun _ => z4) (fun z => by omega) (fun z => by omega) (fun z => by omega)
    · by_cases hx3 : x = 3
      · have kk := (j9 hx3)
        have hk0 : cs_k S2 (ko2 f0) = 6 ∧ Ow2 (ko2 f0) := by
          obtain ⟨i, vs, k1, k2, -⟩ := j3.2.1 f0 hKf0
          exact ⟨(j3.2.2.2 i _ k1 k2).2.1, (j3.2.2.2 i _ k1 k2).1⟩
        have hrs := hres (by omega)
        refine clH (k := k) (q := q) (dp := dp) (tr := tr) (ud := ud) (ut := ut) hR1 hx3 (by rw [e38, hx3]; rfl) (by rw [hU.ev.1 40 (by decide)]; exact g40) gk1 gk5 (fun z => ?_) g6 g7 he hf0 hU.e63 hU.e64 hB hkyO hH1 hHB (by rw [hb5, hU.ev.ut]) j3 (j7 (by omega)) hK1 (fun f hf' => hf'.1) (fun z => ?_) kk hk0 (fun z => hch hx3 z) hev1 hte (by rw [hU.ev.1 10 (by decide)]; exact hmk2) hevs2 hrs.1 hrs.2 ⟨hmL.1, by omega⟩ (fun S' Ow' sr' z1 z2 z3 z4 => ?_)
        · rcases g11 with ⟨y, -⟩ | ⟨t, n', y1, y2, -⟩
          · exact absurd y z
          · exact y2
        · rcases hf with ⟨y1, y2, -⟩ | ⟨y1, -⟩
          · exact absurd ⟨y1, y2⟩ z
          · exact y1
        · exact fin S' Ow' bl2 eo so lo sr' an2 z1 z2 z3 j7 (fun z => by omega) (fun _ => z4) (fun z => by omega) (fun z => by omega)
      · have hx4 : x = 4 := by omega
        have hk2 : k = 2 := g13 hx4
        refine clL (k := k) (q := q) (dp := dp) (tr := tr) (ud := ud) (ut := ut) hR1 hx4 he hf0 hU.e63 hU.e64 hB hH1 (fun c hc => hHB c (by omega)) j3 (j7 (by omega)) hKf0 (j10 hx4) ⟨(hevs2 e (Nat.le_refl _)).1, (hevs2 e (Nat.le_refl _)).2.2.2⟩ hmL (fun S' Ow' eo' z1 z2 z3 z4 => ?_)
        have hp := fin S' Ow' bl2 eo' so lo sr (if B.testBit 1 = true then prU an2 f0 e else an2) z1 z2 z3 j7 (fun z => by omega) (fun z => by omega) (fun _ => z4) (fun _ => ⟨rfl, by rw [han hx4]⟩)
        rw [hres4 hx4] at hp
        exact hp
  refine cko hR.2.2.2.2.2.2.2.2.1 b3 b4 b5 hev hvs hte (fun z => absurd hkh z) (fun _ S1 hF1 hwn1 hall => ?_)
  have hb1 := h3.fx rowE.sh b4 hF1 (fun f z => by have := kbt; rw [z.2, b4] at this; cases this) (fun vs _ hne => hne)
  have hJ1 := hJ.row hF1 (fun s f a z => Or.inl z.2) hb1
  have rx1 : ∀ k', k' < n → rX S1 wt k' = kcO σ b e k' := fun k' hk' => by
    obtain ⟨i, va, z1, z2, z3⟩ := hall k' hk'
    unfold rX kcO
    rw [z2, z1]
    exact (z3.x hte).2
  have hFr1 : fX (rE S wt bt Ow) S S1 := hF1.mono (fun s f a z => ⟨by rw [z.2]; exact b6, Or.inl z.2⟩)
  refine ckw hb1.1.1 hwn1 (fun i a vs hi ha hkw hcont => ⟨fun z => (nomatch z), fun a' ea => ?_⟩) (fun hnn => ?_)
  · -- the key is there
    cases ea
    have hao : ∃ f, KfO σ r e f ∧ a = ko f := by
      rcases (hb1.2.2.2 i a hi ha).2.2.2 with y | ⟨o, y1, y2, y3⟩
      · exact y
      · exfalso
        obtain ⟨i', vs2, y4, y5, y6, -⟩ := hb1.2.2.1 o a y1 y2 y3
        have q1 : vs2 = vs := Option.some.inj (y6.2.1.symm.trans hkw.2.1)
        have q2 := y6.2.2.2.1
        have q3 := hkw.2.2.2.1
        rw [q1] at q2
        omega
    obtain ⟨f, f1, f2⟩ := hao
    have hff : f = f0 := by
      refine ceq f f1 (fun k' hk' => ?_)
      obtain ⟨i', vs2, y4, y5, y6, y7⟩ := hb1.2.1 f f1
      rw [← f2] at y6
      have q1 : vs2 = vs := Option.some.inj (y6.2.1.symm.trans hkw.2.1)
      rw [← y7 k' hk', q1, hcont k' hk', rx1 k' hk']
    subst hff
    have hfe : ¬ f = e := fun z => by have := f1.1; omega
    rw [f2]
    have hKe : ∀ g, KfO σ1 r (e + 1) g ↔ KfO σ r e g := fun g => by
      rw [hK1 g]
      exact ⟨fun z => by
        rcases z with z | z
        · exact z
        · rw [z]; exact f1, fun z => Or.inl z⟩
    have hJ2 : JK S1 σ Ow r ra b x k n w L tm ev wt bt nb bl ko eo so lo sr an (KfO σ1 r (e + 1)) (KfO σ r e) (tm e) e := by
      have : KfO σ1 r (e + 1) = KfO σ r e := funext fun g => propext (hKe g)
      rw [this]; exact hJ1
    have hgo := go S1 Ow bl ko an hFr1 oX.rfl (fun _ _ => rfl) hwn1 (fun k' hk' => by rw [rx1 k' hk', ke0 k' hk']) hJ2 (fun _ => by rw [if_neg hfe]) (fun _ z => absurd f1 z)
    exact hQ _ _ hgo.1 hgo.2
  · -- it is new
    have hfe : f0 = e := by
      rcases hf with ⟨y1, y2, y3⟩ | ⟨y1, -⟩
      · exfalso
        obtain ⟨i', vs2, y4, y5, y6, y7⟩ := hb1.2.1 f0 ⟨y1, y2⟩
        exact hnn i' _ vs2 y4 y5 y6 (fun k' hk' => by rw [y7 k' hk', rx1 k' hk', ke0 k' hk'])
      · exact y1
    obtain ⟨hm1, hm2⟩ := hmK hfe
    refine ⟨hm1, hm2, fun i q' vs S2 hi hfi hN => ⟨fun z => (nomatch z), fun a' ea => ?_⟩⟩
    cases ea
    have hnk : ¬ KfO σ r e f0 := fun z => by have := z.1; omega
    obtain ⟨hJ2, hch⟩ := hJ1.key hK1 hnk hwn1 hi hfi hN (fun k' hk' => by rw [rx1 k' hk', ke0 k' hk']) (h65 f0 (by omega) hnk) (fun o ho hk => by have := (kfl o ho hk).1; omega)
    have hFN := hN.2.2.2.1
    have hsN : sh S1 wt (fun s f a => s = 5 ∧ f = i ∧ a = bt) := (hb1.ins hwn1 hi hfi hN).1
    have hFr2 : fX (rE S wt bt Ow) S S2 := hFr1.tr hFN (fun s f a ha z => ⟨by rw [z.2.2]; exact b2, Or.inr (Or.inl z.2.2)⟩)
    have hO2 : oX S Ow (oV Ow q' vs) := ⟨fun a z => Or.inl z, fun a ha z => by
      rcases z with z | z | z
      · exact z
      · rw [z] at ha; exact absurd (hFr1.dead hN.1) ha
      · rw [z] at ha; exact absurd (hFr1.dead hN.2.1) ha⟩
    have w1 : cs_k S1 wt = 26 := hb1.1.2.2.2.1
    have kbt1 : cs_k S1 bt = 25 := hb1.1.1.2.2.1
    have row2 : ∀ j, cs_ar S2 wt j = cs_ar S1 wt j := fun j => (hFN wt (by omega)).2.2.2.2.2.2.2 j (fun z => by rw [z.2.2] at w1; omega)
    have rx2 : ∀ k', k' < n → (∃ va, cs_ar S2 wt k' = some va ∧ vK S2 va) ∧ rX S2 wt k' = rX S1 wt k' := fun k' hk' => by
      obtain ⟨va, v1, v2⟩ := hwn1.2.2.2.2 k' hk'
      obtain ⟨y1, y2⟩ := hsN.vk hFN w1 v2
      refine ⟨⟨va, by rw [row2]; exact v1, y1⟩, ?_⟩
      unfold rX
      rw [row2, v1]
      exact y2
    have hgo := go S2 (oV Ow q' vs) (blU bl i q') (prU ko f0 q') (prU an f0 0) hFr2 hO2 (fun f hf' => prU_o (fun z => hnk (by rw [← z]; exact hf'))) ⟨hJ2.2.2.1.1.2.2.1, hJ2.2.2.1.1.2.2.2.1, hJ2.2.2.1.1.2.2.2.2.1, by omega, fun k' hk' => (rx2 k' hk').1⟩ (fun k' hk' => by rw [(rx2 k' hk').2, rx1 k' hk', ke0 k' hk']) hJ2 (fun _ => by rw [if_pos hfe, hfe]) (fun hx _ => by rw [prU_r]; exact hch hx)
    rw [prU_r] at hgo
    exact hQ _ _ hgo.1 hgo.2
end CKL
