/-! ===== the class: what is due ===== -/
section LCP
variable {G : Nat → Nat} {S S' : cs_S} {ra w : Nat} {Ow : Nat → Prop} {ko eo ev kf an tm : Nat → Nat} {C Kf : Nat → Prop} {lo p : Nat}
theorem nI_pl (a b : Nat) : nI a + nI b = nI (a + b) := (Int32.ofNat_add a b).symm
/-- what heads the queue goes -/
theorem lcI.pop (h : lcI S ra Ow ko eo ev kf an C Kf lo p) {o : Nat} (ho : nx C lo p = some o) (hF : fX (fun s f a => (s = 2 ∧ a = ra ∧ f = 814) ∨ (s = 0 ∧ a = ra ∧ f = 813) ∨ (s = 0 ∧ a = ko (kf o) ∧ f = 513)) S S') (h814 : cs_r S' 814 ra = cs_r S 304 (eo o))
    (hc : (o < an (kf o) ∧ cs_i S' 813 ra = cs_i S 813 ra ∧ cs_i S' 513 (ko (kf o)) = cs_i S 513 (ko (kf o))) ∨ (¬ o < an (kf o) ∧ cs_i S' 813 ra = cs_i S 813 ra - 1 ∧ cs_i S' 513 (ko (kf o)) = cs_i S 513 (ko (kf o)) - 1)) : lcI S' ra Ow ko eo ev kf an C Kf (o + 1) p := by
  obtain ⟨⟨i0, i00, i1, i2⟩, ⟨i3, i4⟩, i5, i6, ⟨i7, i8, i9, i10⟩⟩ := h
  obtain ⟨n1, n2, n3, n4⟩ := nx_some p o ho
  obtain ⟨o1, o2, o3, o4, o5, o6⟩ := i5 o n2 n3
  have k6 := (i3 _ o1).1
  have nrk : ra ≠ ko (kf o) := fun z => by rw [← z, i1] at k6; cases k6
  have lv : ∀ a, cs_k S a ≠ 0 → cs_k S' a = cs_k S a := fun a ha => (hF a ha).1
  have rr : ∀ a f, cs_k S a ≠ 0 → ¬ (a = ra ∧ f = 814) → cs_r S' f a = cs_r S f a := fun a f ha hn => (hF a ha).2.2.2.2.1 f (fun z => by
    rcases z with ⟨-, z⟩ | ⟨z, -⟩ | ⟨z, -⟩
    · exact hn z
    · exact absurd z (by decide)
    · exact absurd z (by decide))
  have ii : ∀ a f, cs_k S a ≠ 0 → ¬ (a = ra ∧ f = 813) → ¬ (a = ko (kf o) ∧ f = 513) → cs_i S' f a = cs_i S f a := fun a f ha h1 h2 => (hF a ha).2.2.1 f (fun z => by
    rcases z with ⟨z, -⟩ | ⟨-, z⟩ | ⟨-, z⟩
    · exact absurd z (by decide)
    · exact h1 z
    · exact h2 z)
  have step : ∀ (P : Nat → Prop), (∀ y, lo ≤ y → y < o → ¬ P y) → sS P (fun _ => 1) lo (p - lo) = (oneIf (P o) : Int) + sS P (fun _ => 1) (o + 1) (p - (o + 1)) := fun P hP => by
    rw [sS_skip n1 (by omega) hP]
    by_cases c : P o
    · rw [sS_fst n2 c, one_y c]; rfl
    · rw [sS_skip (m := o + 1) (by omega) (by omega) (fun y h1 h2 h3 => c (by rw [show o = y from by omega]; exact h3)), one_n c]; simp
  refine ⟨⟨by omega, i00, (lv ra (by omega)).trans i1, i2⟩, ⟨fun f hf => ?_, i4⟩, fun o' ho' hc' => ?_, i6, ⟨?_, fun o' ho' hl hc' => ?_, fun z hz hl => ?_, ?_⟩⟩
  · obtain ⟨y1, y2, y3, y4, y5⟩ := i3 f hf
    have nkr : ko f ≠ ra := fun z => by rw [z, i1] at y1; cases y1
    refine ⟨(lv _ (by omega)).trans y1, y2, (ii _ _ (by omega) (fun z => nkr z.1) (fun z => absurd z.2 (by decide))).trans y3, y4, ?_⟩
    have st := step (lW C kf an f) (fun y a b z => n4 y a b z.1)
    by_cases c : f = kf o
    · subst c
      rcases hc with ⟨c1, c2, c3⟩ | ⟨c1, c2, c3⟩
      · rw [one_n (fun z => z.2.2 c1)] at st
        rw [c3, y5, st]
        simp
      · rw [one_y ⟨n3, rfl, c1⟩] at st
        rw [c3, y5, st, yI_m]
        refine congrArg yI ?_
        simp only [Int.natCast_one]
        omega
    · rw [one_n (fun z => c z.2.1.symm)] at st
      rw [ii _ _ (by omega) (fun z => nkr z.1) (fun z => c (i4 _ _ hf o1 z.1)), y5, st]
      simp
  · obtain ⟨y1, y2, y3, y4, y5, y6⟩ := i5 o' ho' hc'
    have ner : eo o' ≠ ra := fun z => by rw [z, i1] at y2; cases y2
    exact ⟨y1, (lv _ (by omega)).trans y2, y3, (lv _ (by omega)).trans y4, (rr _ _ (by omega) (fun z => ner z.1)).trans y5, (rr _ _ (by omega) (fun z => ner z.1)).trans y6⟩
  · rw [h814, i8 o n2 n1 n3]
  · have y2 := (i5 o' ho' hc').2.1
    have ner : eo o' ≠ ra := fun z => by rw [z, i1] at y2; cases y2
    rw [rr _ _ (by omega) (fun z => ner z.1)]
    exact i8 o' ho' (by omega) hc'
  · rw [rr _ _ (by omega) (fun z => absurd z.2 (by decide))]
    exact i9 z hz (by omega)
  · have st := step (lA C kf an) (fun y a b z => n4 y a b z.1)
    rcases hc with ⟨c1, c2, c3⟩ | ⟨c1, c2, c3⟩
    · rw [one_n (fun z => z.2 c1)] at st
      rw [c2, i10, st]
      simp
    · rw [one_y ⟨n3, c1⟩] at st
      rw [c2, i10, st, yI_m]
      refine congrArg yI ?_
      simp only [Int.natCast_one]
      omega
/-- nextDue of a lack -/
theorem cnd_11 {post : Int32 → cs_S → Prop} (hw : w ≤ 1000000) : ∀ d (S : cs_S) lo, p - lo ≤ d → lcI S ra Ow ko eo ev kf an C Kf lo p → (∀ o, o < p → C o → cs_i S 405 (ev o) = nI o ∧ cs_i S 400 (ev o) = nI (tm o) ∧ tm o ≤ 2000000000) → cs_i S 810 ra = nI w →
    (∀ S' lo', lo ≤ lo' → (∀ o, lo ≤ o → o < lo' → C o → o < an (kf o)) → fX (fun s f a => s = 2 ∧ a = ra ∧ f = 814) S S' → lcI S' ra Ow ko eo ev kf an C Kf lo' p → (nx C lo' p = none → post (-1) S') ∧ (∀ o, nx C lo' p = some o → ¬ o < an (kf o) → post (nI (tm o + w)) S')) → w_X7_nextDue_11 post G (d + 1) S ra := by
  intro d
  induction d with
  | zero =>
    intro S lo hd hL hev h810 hp
    have e0 : nx C lo p = none := nx_no (fun y h1 h2 => absurd h1 (by omega))
    obtain ⟨h1, h2⟩ := hp S lo (Nat.le_refl _) (fun o z1 z2 => absurd z1 (by omega)) fX.rfl hL
    have e814 : cs_r S 814 ra = none := by rw [hL.2.2.2.2.1, e0]; rfl
    refine ⟨hL.1.2.2.1, fun r37 e37 => ⟨fun _ => ⟨hL.1.2.2.1, fun r28 e28 => ⟨fun _ => h1 e0, fun b z => ?_⟩⟩, fun b z => ?_⟩⟩
    · rw [e28, e814] at z; cases z
    · rw [e37, e814] at z; cases z
  | succ d ih =>
    intro S lo hd hL hev h810 hp
    obtain ⟨⟨i0, i00, i1, i2⟩, ⟨i3, i4⟩, i5, i6, ⟨i7, i8, i9, i10⟩⟩ := id hL
    cases e0 : nx C lo p with
    | none =>
      obtain ⟨h1, h2⟩ := hp S lo (Nat.le_refl _) (fun o z1 z2 => absurd z1 (by omega)) fX.rfl hL
      have e814 : cs_r S 814 ra = none := by rw [i7, e0]; rfl
      refine ⟨i1, fun r37 e37 => ⟨fun _ => ⟨i1, fun r28 e28 => ⟨fun _ => h1 e0, fun b z => ?_⟩⟩, fun b z => ?_⟩⟩
      · rw [e28, e814] at z; cases z
      · rw [e37, e814] at z; cases z
    | some o =>
      obtain ⟨n1, n2, n3, n4⟩ := nx_some p o e0
      obtain ⟨o1, o2, o3, o4, o5, o6⟩ := i5 o n2 n3
      obtain ⟨y1, y2, y3, y4, y5⟩ := i3 _ o1
      obtain ⟨v1, v2, v3⟩ := hev o n2 n3
      have e814 : cs_r S 814 ra = some (eo o) := by rw [i7, e0]; rfl
      refine ⟨i1, fun r37 e37 => ⟨fun z => ?_, fun b z r39 e39 => ⟨eo o, e39.trans e814, o2, fun r42 e42 => ⟨ev o, e42.trans o5, o4, fun r45 e45 => ⟨eo o, e45.trans e814, o2, fun r48 e48 => ⟨ko (kf o), e48.trans o6, y1, ?_⟩⟩⟩⟩⟩⟩
      · rw [e37, e814] at z; cases z
      · rw [y3, v1]
        refine ⟨fun z => ⟨i1, fun r28 e28 => ⟨fun y => ?_, fun b _ r30 e30 => ⟨eo o, e30.trans e814, o2, fun r33 e33 => ⟨ev o, e33.trans o5, o4, ?_⟩⟩⟩⟩, fun z r51 e51 => ⟨eo o, e51.trans e814, o2, fun r54 e54 S55 e55 => ?_⟩⟩
        · rw [e28, e814] at y; cases y
        · have hna : ¬ o < an (kf o) := fun y => absurd z (nI_ge y (by omega))
          obtain ⟨h1, h2⟩ := hp S lo (Nat.le_refl _) (fun o z1 z2 => absurd z1 (by omega)) fX.rfl hL
          show post (cs_i S 400 (ev o) + cs_i S 810 ra) S
          rw [v2, h810, nI_pl]
          exact h2 o e0 hna
        · have ha : o < an (kf o) := by
            by_cases c : o < an (kf o)
            · exact c
            · exact absurd (nI_le (by omega) (by omega)) z
          have hF : fX (fun s f a => s = 2 ∧ a = ra ∧ f = 814) S S55 := by rw [e55]; exact fX.rfl.ur (Or.inl ⟨rfl, rfl, rfl⟩)
          have hL' := hL.pop (S' := S55) e0 (hF.mono (fun s f a z => Or.inl z)) (by rw [e55, rur, if_pos ⟨rfl, rfl⟩, e54]) (Or.inl ⟨ha, by rw [e55]; rfl, by rw [e55]; rfl⟩)
          refine ih S55 (o + 1) (by omega) hL' (fun o' z1 z2 => ?_) (by rw [e55]; exact h810) (fun S' lo' q1 q2 q3 q4 => hp S' lo' (by omega) (fun o' z1 z2 z3 => ?_) (hF.trans q3) q4)
          · rw [e55]; exact hev o' z1 z2
          · by_cases c : o' < o
            · exact absurd z3 (n4 o' z1 c)
            · by_cases c2 : o' = o
              · rw [c2]; exact ha
              · exact q2 o' (by omega) z2 z3
theorem cnd {post : Int32 → cs_S → Prop} (hw : w ≤ 1000000) (hx : cs_i S 802 ra = 31) (hL : lcI S ra Ow ko eo ev kf an C Kf lo p) (hev : ∀ o, o < p → C o → cs_i S 405 (ev o) = nI o ∧ cs_i S 400 (ev o) = nI (tm o) ∧ tm o ≤ 2000000000) (h810 : cs_i S 810 ra = nI w)
    (hp : ∀ S' lo', lo ≤ lo' → (∀ o, lo ≤ o → o < lo' → C o → o < an (kf o)) → fX (fun s f a => s = 2 ∧ a = ra ∧ f = 814) S S' → lcI S' ra Ow ko eo ev kf an C Kf lo' p → (nx C lo' p = none → post (-1) S') ∧ (∀ o, nx C lo' p = some o → ¬ o < an (kf o) → post (nI (tm o + w)) S')) : wp_X7_nextDue post G S ra :=
  ⟨hL.1.2.2.1, fun _ => ⟨_, cnd_11 hw (p - lo) S lo (Nat.le_refl _) hL hev h810 hp⟩, fun z => absurd hx z⟩
/-- takeDue of a lack -/
theorem ctk {post : Option Nat → cs_S → Prop} {due : Nat} (hw : w ≤ 1000000) (hdue : due < 2 ^ 31) (hx : cs_i S 802 ra = 31) (hL : lcI S ra Ow ko eo ev kf an C Kf lo p) (hev : ∀ o, o < p → C o → cs_i S 405 (ev o) = nI o ∧ cs_i S 400 (ev o) = nI (tm o) ∧ tm o ≤ 2000000000) (h810 : cs_i S 810 ra = nI w)
    (hN : ∀ S' lo', lo ≤ lo' → (∀ o, lo ≤ o → o < lo' → C o → o < an (kf o)) → fX (fun s f a => s = 2 ∧ a = ra ∧ f = 814) S S' → lcI S' ra Ow ko eo ev kf an C Kf lo' p → (∀ o, nx C lo' p = some o → ¬ o < an (kf o) ∧ tm o + w ≠ due) → post none S')
    (hT : ∀ S' lo' o, lo ≤ lo' → (∀ o, lo ≤ o → o < lo' → C o → o < an (kf o)) → nx C lo' p = some o → ¬ o < an (kf o) → tm o + w = due → fX (fun s f a => (s = 2 ∧ a = ra ∧ f = 814) ∨ (s = 0 ∧ a = ra ∧ f = 813) ∨ (s = 0 ∧ a = ko (kf o) ∧ f = 513)) S S' → lcI S' ra Ow ko eo ev kf an C Kf (o + 1) p → post (some (eo o)) S') : wp_X7_takeDue post G S ra (nI due) := by
  have k9 := hL.1.2.2.1
  refine ⟨k9, cnd hw hx hL hev h810 (fun S' lo' q1 q2 q3 q4 => ⟨fun e0 => ⟨fun _ => ?_, fun z => ?_⟩, fun o e0 hna => ?_⟩)⟩
  · exact hN S' lo' q1 q2 q3 q4 (fun o z => by rw [e0] at z; cases z)
  · exact absurd z.symm (nI_m due hdue)
  · obtain ⟨n1, n2, n3, n4⟩ := nx_some p o e0
    have ht := (hev o n2 n3).2.2
    obtain ⟨⟨i0, i00, i1, i2⟩, ⟨i3, i4⟩, i5, i6, ⟨i7, i8, i9, i10⟩⟩ := id q4
    obtain ⟨o1, o2, o3, o4, o5, o6⟩ := i5 o n2 n3
    have k6 := (i3 _ o1).1
    have e814 : cs_r S' 814 ra = some (eo o) := by rw [i7, e0]; rfl
    refine ⟨fun z => hN S' lo' q1 q2 q3 q4 (fun o' z' => ?_), fun z => ⟨i1, fun r20 e20 => ⟨fun y => ?_, fun b21 _ r22 e22 => ⟨eo o, e22.trans e814, o2, fun r25 e25 S26 e26 => ⟨by rw [e26]; exact o2, fun r28 e28 => ⟨ko (kf o), ?_, by rw [e26]; exact k6, fun S31 e31 => ⟨by rw [e31, e26]; exact i1, fun S33 e33 => ?_⟩⟩⟩⟩⟩⟩⟩
    · rw [e0] at z'
      cases z'
      exact ⟨hna, fun y => z (by rw [y])⟩
    · rw [e20, e814] at y; cases y
    · have neo : eo o ≠ ra := fun y => by rw [y, i1] at o2; cases o2
      rw [e28, e26, rur, if_neg (fun y => neo y.2)]
      exact o6
    · have hd : tm o + w = due := (nI_eq (by omega) hdue).mp z
      have nrk : ra ≠ ko (kf o) := fun y => by rw [← y, i1] at k6; cases k6
      have i813 : cs_i S33 813 ra = cs_i S' 813 ra - 1 := by
        rw [e33, iui, if_pos ⟨rfl, rfl⟩, e31, iui, if_neg (fun y => absurd y.1 (by decide)), e26, iur]
      have i513 : cs_i S33 513 (ko (kf o)) = cs_i S' 513 (ko (kf o)) - 1 := by
        rw [e33, iui, if_neg (fun y => absurd y.1 (by decide)), e31, iui, if_pos ⟨rfl, rfl⟩, e26, iur]
      have r814 : cs_r S33 814 ra = cs_r S' 304 (eo o) := by rw [e33, rui, e31, rui, e26, rur, if_pos ⟨rfl, rfl⟩, e25]
      have hF : fX (fun s f a => (s = 2 ∧ a = ra ∧ f = 814) ∨ (s = 0 ∧ a = ra ∧ f = 813) ∨ (s = 0 ∧ a = ko (kf o) ∧ f = 513)) S' S33 := by
        rw [e33, e31, e26]
        exact ((fX.rfl.ur (Or.inl (Or.inl ⟨rfl, rfl, rfl⟩))).ui (Or.inl (Or.inr (Or.inr ⟨rfl, rfl, rfl⟩)))).ui (Or.inl (Or.inr (Or.inl ⟨rfl, rfl, rfl⟩)))
      exact hT S33 lo' o q1 q2 e0 hna hd ((q3.mono (fun s f a y => Or.inl y)).trans hF) (q4.pop e0 hF r814 (Or.inr ⟨hna, i813, i513⟩))
end LCP
