/-! ===== a fresh log ===== -/
theorem rE3 {σ : rf_S} (k j : Nat) : (rf_E σ).2.2.1 k j = if j < 48000 ∧ (k = 63 ∨ k = 65) then -1 else if j < 48000 ∧ k = 66 then 0 else if k = 67 ∧ j < 12 then 0 else if k = 25 ∧ j < 65536 then 0 else σ.2.2.1 k j := rfl
theorem rE4 {σ : rf_S} : (rf_E σ).2.2.2 = σ.2.2.2 := rfl
theorem rE2 {σ : rf_S} : (rf_E σ).2.1 = σ.2.1 := rfl
theorem rE3o {σ : rf_S} {k : Nat} (j : Nat) (h : k ≠ 63 ∧ k ≠ 65 ∧ k ≠ 66 ∧ k ≠ 67 ∧ k ≠ 25) : (rf_E σ).2.2.1 k j = σ.2.2.1 k j := by
  rw [rE3, if_neg (by omega), if_neg (by omega), if_neg (by omega), if_neg (by omega)]
/-- a rule that has looked at nothing -/
theorem JK0 {S : cs_S} {σ : rf_S} {Ow : Nat → Prop} {r ra b x k n w L wt bt nb now : Nat} {tm ev : Nat → Nat} (hO : ∀ a, Ow a → cs_k S a ≠ 0) (o1 : Ow ra) (o2 : Ow bt) (o3 : Ow wt) (k9 : cs_k S ra = 9) (hn : n ≤ 3) (h : cs_i S 813 ra = 0 ∧ cs_r S 814 ra = none ∧ cs_r S 816 ra = some bt ∧ cs_k S bt = 25 ∧ cs_n S bt = nb ∧ (nb = 1 ∨ nb = 128) ∧ ∀ j, cs_ar S bt j = none) (hw : cs_r S 817 ra = some wt ∧ cs_k S wt = 26 ∧ cs_n S wt = 4) (h12 : cs_i S 812 ra = σ.2.2.1 67 r) : JK S σ Ow r ra b x k n w L tm ev wt bt nb (fun _ => []) (fun _ => 0) (fun _ => 0) (fun _ => none) 0 (fun _ => 0) (fun _ => 0) (KfO σ r 0) (KfO σ r 0) now 0 := by
  obtain ⟨d2, d3, d4, d5, d6, d7, d8⟩ := h
  have nK : ∀ f, ¬ KfO σ r 0 f := fun f q => absurd q.1 (Nat.not_lt_zero _)
  have n0 : ∀ {o : Nat}, ¬ o < 0 := fun {o} => Nat.not_lt_zero o
  refine ⟨hO, o1, ⟨⟨⟨k9, d4, d5, d6, d7, fun i hi => ⟨d8 i, fun a ha => absurd ha (by simp)⟩⟩, o2, hw.1, hw.2.1, hw.2.2, o3, hn⟩, fun f q => absurd q (nK f), fun o a q => absurd q n0, fun i a _ ha => absurd ha (by simp)⟩, fun f q => absurd q (nK f), fun f f' q => absurd q (nK f), h12, fun _ _ => rfl, fun _ => ⟨⟨⟨Nat.le_refl _, by omega, k9, o1⟩, ⟨fun f q => absurd q (nK f), fun f f' q => absurd q (nK f)⟩, fun o q => absurd q n0, fun o o' q => absurd q n0, ⟨d3, fun o q => absurd q n0, fun z hz => by simp [lst] at hz, d2⟩, ⟨fun f q => absurd q (nK f), fun o q => absurd q n0⟩, fun o a q => absurd q n0, fun o o' a q => absurd q n0⟩, fun _ f q => absurd q (nK f), fun _ _ => rfl, fun _ o q => absurd q n0, fun o q => absurd q n0⟩, fun _ => ⟨fun f q => absurd q (nK f), fun f f' q => absurd q (nK f), fun f f' q => absurd q (nK f)⟩, fun _ => ⟨⟨Nat.le_refl _, by omega, k9, o1⟩, ⟨fun f q => absurd q (nK f), fun f f' q => absurd q (nK f)⟩, fun o q => absurd q n0, fun o o' q => absurd q n0, d3, fun o q => absurd q n0, fun z hz => by simp [lst] at hz, d2⟩⟩
theorem sS_kc {P : Nat → Prop} {kc : Nat} : ∀ m, sS P (fun _ => (kc : Int)) 0 m ≤ kc * m := by
  intro m
  induction m with
  | zero => exact Int.le_refl _
  | succ m ih =>
    rw [sS]
    have h1 : (oneIf (P (0 + m)) : Int) * (kc : Int) ≤ kc := by
      by_cases c : P (0 + m)
      · rw [one_y c]; omega
      · rw [one_n c]; omega
    have h2 : (kc : Int) * ((m + 1 : Nat) : Int) = kc * m + kc := by
      rw [Int.natCast_add, Int.mul_add]; simp
    omega
abbrev dTp : Type := Nat × Nat × Nat × Nat × Nat × Nat × Nat × Nat × Nat × (Nat → cT 14) × Option (cT 14)
def fiD (S0 S : cs_S) (σ : rf_S) (bk cn r a : Nat) (D : dTp) : Prop := fin S0 S σ bk cn r a D.1 D.2.1 D.2.2.1 D.2.2.2.1 D.2.2.2.2.1 D.2.2.2.2.2.1 D.2.2.2.2.2.2.1 D.2.2.2.2.2.2.2.1 D.2.2.2.2.2.2.2.2.1 D.2.2.2.2.2.2.2.2.2.1 D.2.2.2.2.2.2.2.2.2.2
/-- the watch, new -/
def wNew (G : Nat → Nat) (S : cs_S) (wt rr lt tl nr : Nat) (ra : Nat → Nat) : Prop := (cs_k S wt = 12 ∧ cs_r S 1100 wt = some rr ∧ cs_k S rr = 22 ∧ (nr ≤ cs_n S rr ∧ cs_n S rr ≤ 12) ∧ cs_i S 1101 wt = nI nr ∧ cs_r S 1102 wt = some lt ∧ cs_k S lt = 23 ∧ cs_n S lt = 64 ∧ cs_r S 1103 wt = some tl ∧ ∀ r, r < nr → cs_ar S rr r = some (ra r)) ∧ (cs_i S 1104 wt = 0 ∧ cs_i S 1105 wt = 0 ∧ cs_i S 1106 wt = 0 ∧ cs_i S 1107 wt = 0 ∧ cs_i S 1108 wt = 0 ∧ cs_i S 1109 wt = 0 ∧ cs_r S 1110 wt = none) ∧ (cs_k S tl = 1 ∧ cs_r S 1 tl = some (G 1) ∧ cs_i S 2 tl = 0) ∧ cs_k S (G 1) = 27 ∧ cs_n S (G 1) = 0
theorem LG_new {G : Nat → Nat} {PX : Nat → Prop} {wt rr lt tl bk nr cn : Nat} {S S0 : cs_S} {σ : rf_S} {ra : Nat → Nat} (h32 : σ.1 32 = nI bk) (hbk : bk ≤ 1) (h33 : σ.1 33 = nI nr) (hnr : nr ≤ 12) (hT : TX S0 S σ bk cn nr ra) (hc : cn ≤ 1100) (hN : RN σ bk cn) (hRT : RT σ bk cn) (h59 : ∀ j, σ.2.2.2 59 j = rf_i0.2.2.2 59 j) (h68 : ∀ v, σ.2.2.1 68 v = 0) (h83 : σ.1 83 = 0) (hW : wNew G S wt rr lt tl nr ra) (hPX : ∀ a, PX a → cs_k S a ≠ 0 ∧ cs_k S a ≠ 1 ∧ cs_k S a ≠ 4 ∧ cs_k S a ≠ 6 ∧ cs_k S a ≠ 9 ∧ cs_k S a ≠ 12 ∧ cs_k S a ≠ 23 ∧ cs_k S a ≠ 25 ∧ cs_k S a ≠ 27 ∧ cs_k S a ≠ 26) : LG G PX wt S (rf_E σ) 0 35 1813 := by
  obtain ⟨hW1, ⟨i1, i2, i3, i4, i5, i6, i7⟩, ⟨t1, t2, t3⟩, g1, g2⟩ := hW
  have hE : eK σ (rf_E σ) bk cn := ⟨fun k n h1 h2 hn => rE3o n (by omega), fun n hn => by rw [rE4], fun j _ _ => rE3o j (by omega)⟩
  have hP : prS σ (rf_E σ) bk cn := fun d m t hm hl hr => ⟨rR_bk hN hbk hc (fun k n h1 h2 hn => hE.1 k n h1 (by omega) hn) d m t hm hl hr, rLv_bk hN hbk hc hE d m t hm hl hr, fun S hc' => cLv_bk hN hbk hc hE hRT d m t hm hl hr hc'⟩
  have key : ∀ r, ∃ D : dTp, r < nr → fiD S0 S (rf_E σ) bk cn r (ra r) D := fun r => by
    by_cases hr : r < nr
    · obtain ⟨bt, wt, nb, x, k, n, w, q, L, tr, ut, hf⟩ := hT.1 r hr
      exact ⟨(bt, wt, nb, x, k, n, w, q, L, tr, ut), fun _ => hf.on0 hbk hP (fun kk h1 h2 h3 => rE3o _ (by omega)) (fun c hc => rE3o _ (by omega)) (by rw [rE4]) (fun j hj => by rw [rE4]) (Nat.le_refl _) hc (E := fun _ _ _ => False) fX.rfl (fun s f b e => e.elim)⟩
    · exact ⟨(0, 0, 0, 0, 0, 0, 0, 0, 0, fun _ => .inr (.inr []), none), fun q => absurd q hr⟩
  obtain ⟨D, hD⟩ : ∃ D : Nat → dTp, ∀ r, r < nr → fiD S0 S (rf_E σ) bk cn r (ra r) (D r) := ⟨fun r => Classical.choose (key r), fun r => Classical.choose_spec (key r)⟩
  have e63 : ∀ r o, r < 12 → o < 4000 → (rf_E σ).2.2.1 63 (4000 * r + o) = -1 := fun r o hr ho => by rw [rE3, if_pos ⟨by omega, Or.inl rfl⟩]
  have e65 : ∀ r o, r < 12 → o < 4000 → (rf_E σ).2.2.1 65 (4000 * r + o) = -1 := fun r o hr ho => by rw [rE3, if_pos ⟨by omega, Or.inr rfl⟩]
  have e66 : ∀ r o, r < 12 → o < 4000 → (rf_E σ).2.2.1 66 (4000 * r + o) = 0 := fun r o hr ho => by rw [rE3, if_neg (by omega), if_pos ⟨by omega, rfl⟩]
  have e67 : ∀ r, r < 12 → (rf_E σ).2.2.1 67 r = 0 := fun r hr => by rw [rE3, if_neg (by omega), if_neg (by omega), if_pos ⟨rfl, hr⟩]
  have e25 : ∀ s, s < 65536 → (rf_E σ).2.2.1 25 s = 0 := fun s hs => by rw [rE3, if_neg (by omega), if_neg (by omega), if_neg (by omega), if_pos ⟨rfl, hs⟩]
  have eI : ∀ k, k ≠ 72 → k ≠ 79 → k ≠ 78 → k ≠ 26 → k ≠ 23 → k ≠ 22 → k ≠ 21 → k ≠ 20 → k ≠ 19 → (rf_E σ).1 k = σ.1 k := fun k a b c d e f g h i => by rw [rf_E1, if_neg (by omega)]
  have e0 : ∀ k, (k = 72 ∨ k = 79 ∨ k = 78 ∨ k = 26 ∨ k = 23 ∨ k = 22 ∨ k = 21 ∨ k = 20 ∨ k = 19) → (rf_E σ).1 k = 0 := fun k hk => by rw [rf_E1, if_pos hk]
  have fc : fct (rf_E σ) nr = 0 := by
    have : ∀ m, m ≤ 12 → sS (fun _ => True) (fun r => ((rf_E σ).2.2.1 67 r).toInt) 0 m = 0 := by
      intro m
      induction m with
      | zero => intro _; rfl
      | succ m ih =>
        intro hm
        rw [sS, ih (by omega), Nat.zero_add, e67 m (by omega)]
        simp
    exact this nr hnr
  have n0 : ∀ {o : Nat}, ¬ o < 0 := fun {o} => Nat.not_lt_zero o
  have nI0 : (0 : Int32) = nI 0 := rfl
  refine ⟨bk, nr, fun r => (D r).2.2.2.1, fun r => (D r).2.2.2.2.1, fun r => (D r).2.2.2.2.2.1, fun r => (D r).2.2.2.2.2.2.1, fun r => (D r).2.2.2.2.2.2.2.1, fun r => (D r).2.2.2.2.2.2.2.2.1, fun _ _ => 14, fun r => (D r).2.2.2.2.2.2.2.2.2.1, fun _ => 14, fun r => (D r).2.2.2.2.2.2.2.2.2.2, 0, 0, 0, 0, 0, fun _ => 0, fun _ => 0, fun _ => 0, fun _ => 0, fun _ => 0, ra, rr, lt, tl, S, ?_, ?_, ?_, ?_, ?_, ?_, ?_, ?_⟩
  · exact ⟨by rw [eI 32 (by decide) (by decide) (by decide) (by decide) (by decide) (by decide) (by decide) (by decide) (by decide)]; exact h32, hbk, by rw [eI 33 (by decide) (by decide) (by decide) (by decide) (by decide) (by decide) (by decide) (by decide) (by decide)]; exact h33, hnr, fun r hr => ⟨(hD r hr).1, (hD r hr).2.1⟩⟩
  · exact fun r hr => (hD r hr).2.2.2.2.1
  · refine ⟨⟨e0 19 (by omega), by omega, by omega, e0 21 (by omega), by omega⟩, fun o q => absurd q n0, fun o o' _ q => absurd q n0, ⟨⟨e0 26 (by omega), by omega, fun s hs => ⟨0, Nat.le_refl _, e25 s hs⟩, fun v q => absurd q n0, fun v q => absurd q n0, fun s s' hs _ _ q => absurd (e25 s hs) q, fun v v' q => absurd q n0⟩, fun x y i j q => absurd q n0, fun o i q => absurd q n0, by omega, fun v q => absurd q n0⟩, fun v => by rw [rE3o v (by omega)]; exact h68 v, ⟨fun r hr => ?_, ⟨e0 72 (by omega), ?_, fun j q => absurd q n0⟩, e0 78 (by omega), by rw [fc]; exact Int.le_refl _, by rw [eI 83 (by decide) (by decide) (by decide) (by decide) (by decide) (by decide) (by decide) (by decide) (by decide)]; exact h83, by rw [fc]; exact Int.le_refl _⟩, fun r _ => Nat.le_refl _, fun r f hr hf _ => ⟨e65 r f (by omega) hf, e66 r f (by omega) hf⟩, fun j q => absurd q n0, fun j q => absurd q n0⟩
    · refine ⟨Nat.zero_le 4000, ⟨fun o ho => Or.inl (e63 r o (by omega) ho), fun f g hf _ q => absurd ((e63 r f (by omega) hf).symm.trans q) (fun w => nI_m f (by omega) w.symm)⟩, fun o _ ho => e63 r o (by omega) ho, fun o ho q => absurd (e63 r o (by omega) ho) q, 0, e67 r (by omega), ?_, fun f hf => ⟨Or.inl (e65 r f (by omega) hf), 0, Nat.le_refl _, e66 r f (by omega) hf⟩⟩
      exact Int.le_refl _
    · have : ∀ m, sS (fun _ => True) (fun _ => ((0 : Nat) : Int)) 0 m = 0 := fun m => sS_t0 m
      rw [this nr]; exact Int.le_refl _
  · refine ⟨fun _ _ => 0, fun r a => a = ra r ∨ cs_r S 816 (ra r) = some a ∨ cs_r S 817 (ra r) = some a, fun _ => 0, G 1, [], ?_, fun r hr => ?_, hT.2, ⟨fun a ha => ⟨rfl, rfl⟩, fun a ha => ?_⟩⟩
    · refine ⟨hW1, ⟨i1, i2.trans (e0 23 (by omega)).symm, i3, i4.trans (e0 79 (by omega)).symm, i5, i6.trans (e0 22 (by omega)).symm⟩, fun o q => absurd q n0, fun o q => absurd q n0, ⟨⟨t1, t2, g1, g2, t3, fun _ => rfl, fun i q => absurd q (by omega)⟩, fun i q => absurd q (by omega)⟩, fun r hr q => ?_, i7, rfl, fun i q re w => by simp at w, fun i j q w => by simp at w, fun q w => by simp at w, fun o q => absurd q n0⟩
      obtain ⟨-, -, hC, -, -, -, ⟨-, -, -, d4, d5, -⟩, ⟨w1, w2, -⟩, -⟩ := hD r hr
      have k23 := hW1.2.2.2.2.2.2.1
      rcases q with q | q | q
      · rw [q] at k23; have := hC.1; omega
      · rw [d4] at q; rw [← Option.some.inj q] at k23; omega
      · rw [w1] at q; rw [← Option.some.inj q] at k23; omega
    · obtain ⟨f1, f2, hC, f4, f5, f6, ⟨d1, d2, d3, d4, d5, d6, d7, d8⟩, ⟨w1, w2, w3⟩, -⟩ := hD r hr
      refine ⟨hC, f4, (D r).2.1, (D r).1, (D r).2.2.1, _, _, _, 0, _, _, JK0 (fun a ha => ?_) (Or.inl rfl) (Or.inr (Or.inl d4)) (Or.inr (Or.inr w1)) hC.1 f1.2.2.2.1 ⟨d2, d3, d4, d5, d6, d7, d8⟩ ⟨w1, w2, w3⟩ (d1.trans (e67 r (by omega)).symm), fun _ => ⟨fun j q => absurd q n0, fun o q => absurd q n0, fun j j' _ q => absurd q n0⟩⟩
      rcases ha with q | q | q
      · rw [q]; have := hC.1; omega
      · rw [d4] at q; rw [← Option.some.inj q]; omega
      · rw [w1] at q; rw [← Option.some.inj q]; omega
    · obtain ⟨p1, p2, p3, p4, p5, p6, p7, p8, p9, p10⟩ := hPX a ha
      exact ⟨⟨p1, p2, p3, p4, p5, p6, p7, p8, p9⟩, ⟨rfl, rfl, fun f _ => ⟨rfl, rfl, rfl⟩, fun _ j => ⟨rfl, rfl, rfl⟩⟩, fun q => absurd q p10, fun o q => absurd q n0, by simp⟩
  · exact e0 20 (by omega)
  · have := sS_kc (P := fun r => (D r).2.2.2.2.2.1 = 0 ∧ ∀ f, ¬ KfO (rf_E σ) r 0 f) (kc := 2) nr
    show (gP (min 0 500) : Int) + sS _ _ 0 nr + 0 + 0 ≤ 35
    have e : (gP (min 0 500) : Int) = 11 := rfl
    rw [e]
    show 11 + sS (fun r => (D r).2.2.2.2.2.1 = 0 ∧ ∀ f, ¬ KfO (rf_E σ) r 0 f) (fun _ => ((2 : Nat) : Int)) 0 nr + 0 + 0 ≤ 35
    omega
  · have := sS_kc (P := fun r => (D r).2.2.2.2.2.1 = 0 ∧ ∀ f, ¬ KfO (rf_E σ) r 0 f) (kc := 15) nr
    show (gT (min 0 500) : Int) + sS _ _ 0 nr + 0 + 0 ≤ 1813
    have e : (gT (min 0 500) : Int) = 1633 := rfl
    rw [e]
    show 1633 + sS (fun r => (D r).2.2.2.2.2.1 = 0 ∧ ∀ f, ¬ KfO (rf_E σ) r 0 f) (fun _ => ((15 : Nat) : Int)) 0 nr + 0 + 0 ≤ 1813
    omega
  · refine ⟨⟨cn, hc, ?_, ?_, fun r hr => ?_⟩, fun j => by rw [rE4]; exact h59 j⟩
    · intro n hn
      rw [rE3o n (by omega), rE3o n (by omega), rE3o n (by omega)]
      exact hN n hn
    · intro n hn
      rw [rE3o n (by omega), rE3o n (by omega), rE3o n (by omega), rE3o n (by omega)]
      exact hRT n hn
    · obtain ⟨-, -, -, -, -, ⟨f6, f7⟩, -⟩ := hD r hr
      refine ⟨fun j n hj hn e => ?_, fun n hn e => ?_⟩
      · obtain ⟨m, m1, m2, -⟩ := f6 j hj
        have := m2.2
        have : m = n := (nI_eq (by omega) (by omega)).mp (m1.symm.trans e)
        rw [← this]; exact m2
      · rcases f7 with ⟨-, m1⟩ | ⟨t, m, -, m1, m2, -⟩
        · exact absurd (e.symm.trans m1) (nI_m n (by omega))
        · have := m2.2
          have : m = n := (nI_eq (by omega) (by omega)).mp (m1.symm.trans e)
          rw [← this]; exact m2
