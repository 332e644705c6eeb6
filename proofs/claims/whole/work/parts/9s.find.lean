/-! ===== the class: what a count, a sum, a distinct finds ===== -/
/-- what a rule may change of its own -/
def ruE (S : cs_S) (Ow : Nat → Prop) (_s f a : Nat) : Prop := Ow a ∧ ((cs_k S a = 9 ∧ (f = 813 ∨ f = 814 ∨ f = 815)) ∨ (cs_k S a = 6 ∧ 505 ≤ f) ∨ (cs_k S a = 4 ∧ (f = 304 ∨ f = 305)))
theorem fgE.ru {S : cs_S} {Ow : Nat → Prop} : ∀ s f a, fgE S Ow s f a → ruE S Ow s f a := fun s f a h => ⟨h.1, by
  rcases h.2 with ⟨z, y⟩ | ⟨z, y⟩
  · exact Or.inl ⟨z, by omega⟩
  · exact Or.inr (Or.inl ⟨z, by omega⟩)⟩
theorem ruE.sub {S S1 : cs_S} {E : Nat → Nat → Nat → Prop} {Ow : Nat → Prop} (hF : fX E S S1) : ∀ s f a, cs_k S a ≠ 0 → ruE S1 Ow s f a → ruE S Ow s f a := fun s f a ha z => by
  unfold ruE at z ⊢
  rw [(hF a ha).1] at z
  exact z
theorem cen {G : Nat → Nat} {S : cs_S} {q ea a : Nat} {x : Int32} {s : Option Nat} {post : cs_S → Prop} (hq : cs_k S q = 0) (h : ∀ S', enD S S' q ea a x s → post S') : wp_X2_init post G (cs_new S q 3) q (some ea) (some a) x s := by
  have k4 : cs_k (cs_new S q 3) q = 4 := by rw [knew, if_pos rfl]
  refine ⟨k4, fun S10 e10 => ?_⟩
  subst e10
  refine ⟨k4, fun S12 e12 => ?_⟩
  subst e12
  refine ⟨k4, fun S14 e14 => ?_⟩
  subst e14
  refine ⟨k4, fun S16 e16 => ?_⟩
  subst e16
  refine h _ ⟨hq, ((((fX.rfl.new hq).ur (Or.inr hq)).ur (Or.inr hq)).ui (Or.inr hq)).ur (Or.inr hq), k4, ?_, ?_, ?_, ?_, ?_, ?_⟩
  · rw [rur, if_neg (fun z => absurd z.1 (by decide)), rui, rur, if_neg (fun z => absurd z.1 (by decide)), rur, if_pos ⟨rfl, rfl⟩]
  · rw [rur, if_neg (fun z => absurd z.1 (by decide)), rui, rur, if_pos ⟨rfl, rfl⟩]
  · rw [iur, iui, if_pos ⟨rfl, rfl⟩]
  · rw [rur, if_pos ⟨rfl, rfl⟩]
  · rw [rur, if_neg (fun z => absurd z.1 (by decide)), rui, rur, if_neg (fun z => absurd z.1 (by decide)), rur, if_neg (fun z => absurd z.1 (by decide)), rnew, if_pos rfl]
  · rw [rur, if_neg (fun z => absurd z.1 (by decide)), rui, rur, if_neg (fun z => absurd z.1 (by decide)), rur, if_neg (fun z => absurd z.1 (by decide)), rnew, if_pos rfl]
section FND
variable {G : Nat → Nat} {S S1 S2 S3 : cs_S} {ra : Nat} {Ow : Nat → Prop} {ko eo ev kf : Nat → Nat} {C Kf : Nat → Prop} {am : Nat → Int32} {so : Nat → Option Nat} {vv : Nat → Nat} {lo p : Nat}
/-- the last entries -/
theorem cI.z815 (h : cI S ra Ow ko eo ev kf C Kf am so vv lo p) {z : Nat} (h1 : cs_r S 815 ra = some z) (h2 : cs_r S 814 ra ≠ none) : cs_k S z = 4 ∧ Ow z := by
  obtain ⟨⟨i0, i00, i1, i2⟩, ⟨i3, i4⟩, i5, i6, ⟨i7, i8, i9, i10⟩, ⟨i11, i12⟩, i13, i14⟩ := id h
  cases ho : nx C lo p with
  | none => rw [ho] at i7; exact absurd i7 h2
  | some o =>
    obtain ⟨n1, n2, n3, n4⟩ := nx_some p o ho
    cases hl : lst C p with
    | none => exact absurd n3 (lst_none p hl o n2)
    | some y =>
      obtain ⟨l1, l2, l3⟩ := lst_some p y hl
      have hly : lo ≤ y := by
        have : ¬ y < o := fun q => l3 o q n2 n3
        omega
      have e := i9 y hl hly
      rw [h1] at e
      cases e
      exact ⟨(i5 y l1 l2).2.2.2.1, (i5 y l1 l2).2.2.2.2.1⟩
theorem cI.z506 (h : cI S ra Ow ko eo ev kf C Kf am so vv lo p) {f z : Nat} (hf : Kf f) (h1 : cs_r S 506 (ko f) = some z) : cs_k S z = 4 ∧ Ow z := by
  obtain ⟨⟨i0, i00, i1, i2⟩, ⟨i3, i4⟩, i5, i6, ⟨i7, i8, i9, i10⟩, ⟨i11, i12⟩, i13, i14⟩ := id h
  have e := (i11 f hf).2.1
  rw [h1] at e
  cases hl : lst (cK C kf f) p with
  | none => rw [hl] at e; cases e
  | some y =>
    rw [hl] at e
    cases e
    obtain ⟨l1, l2, l3⟩ := lst_some p y hl
    exact ⟨(i5 y l1 l2.1).2.2.2.1, (i5 y l1 l2.1).2.2.2.2.1⟩
theorem cI.kp (h : cI S ra Ow ko eo ev kf C Kf am so vv lo p) {f q ea : Nat} {x : Int32} {s : Option Nat} (hf : Kf f) (he : enD S S1 q ea (ko f) x s) {post : cs_S → Prop} (hp : ∀ S2, kpD S1 S2 ra (ko f) q → post S2) : wp_X7_keep post G S1 ra (some q) := by
  obtain ⟨⟨i0, i00, i1, i2⟩, ⟨i3, i4⟩, i5, i6, ⟨i7, i8, i9, i10⟩, ⟨i11, i12⟩, i13, i14⟩ := id h
  obtain ⟨e1, e2, e3, e4, e5, e6, e7, e8, e9⟩ := he
  obtain ⟨a1, -, -, -, a5, -⟩ := e2 ra (by omega)
  obtain ⟨b1, -, -, -, b5, -⟩ := e2 (ko f) (by rw [(i3 f hf).1]; decide)
  refine ckp (a1.trans i1) e3 e5 (b1.trans (i3 f hf).1) (fun z z1 z2 => ?_) (fun z z1 => ?_) hp
  · have := (h.z815 ((a5 815 id).symm.trans z1) (by rw [← a5 814 id]; exact z2)).1
    exact (e2 z (by omega)).1.trans this
  · have := (h.z506 hf ((b5 506 id).symm.trans z1)).1
    exact (e2 z (by omega)).1.trans this
theorem cI.adx (h : cI S ra Ow ko eo ev kf C Kf am so vv lo p) {f q ea : Nat} {x : Int32} {s : Option Nat} (hf : Kf f) (hs : ∀ c, s = some c → cs_k S c = 6 ∧ Ow c) (h1 : enD S S1 q ea (ko f) x s) (h2 : kpD S1 S2 ra (ko f) q) (h3 : ufD S2 S3 (ko f) x s) : fX (ruE S Ow) S S3 := by
  obtain ⟨⟨i0, i00, i1, i2⟩, ⟨i3, i4⟩, i5, i6, ⟨i7, i8, i9, i10⟩, ⟨i11, i12⟩, i13, i14⟩ := id h
  obtain ⟨e1, e2, e3, e4, e5, e6, e7, e8, e9⟩ := h1
  obtain ⟨k1, k2, k3, k4, k5, k6, k7, k8, k9, k10, k11, k12, k13, k14⟩ := h2
  obtain ⟨u1, u2, u3, u4, u5, u6⟩ := h3
  obtain ⟨s1, s2, s3, s4, s5, s6⟩ := k1
  obtain ⟨t1, t2, t3, t4, t5, t6⟩ := u1
  obtain ⟨c1, c2, c3, c4, c5, -⟩ := e2 ra (by omega)
  obtain ⟨b1, -, -, -, b5, -⟩ := e2 (ko f) (by rw [(i3 f hf).1]; decide)
  have kk := i3 f hf
  intro a ha
  obtain ⟨a1, a2, a3, a4, a5, a6, a7, a8⟩ := e2 a ha
  refine ⟨((t1 a).trans (s1 a)).trans a1, ((t2 a).trans (s2 a)).trans a2, fun g hg => ?_, fun g hg => ?_, fun g hg => ?_, fun j _ => ((t4 a j).trans (s4 a j)).trans (a6 j id), fun j _ => ((t5 a j).trans (s5 a j)).trans (a7 j id), fun j _ => ((t6 a j).trans (s6 a j)).trans (a8 j id)⟩
  · rw [t3 g a (fun z => hg ?_), s3 g a (fun z => hg ?_), a3 g id]
    · obtain ⟨rfl, rfl⟩ := z
      exact ⟨i2, Or.inl ⟨i1, by omega⟩⟩
    · rcases z with ⟨rfl, rfl⟩ | ⟨rfl, rfl⟩ | ⟨rfl, z⟩
      · exact ⟨kk.2, Or.inr (Or.inl ⟨kk.1, by omega⟩)⟩
      · exact ⟨kk.2, Or.inr (Or.inl ⟨kk.1, by omega⟩)⟩
      · exact ⟨(hs a z).2, Or.inr (Or.inl ⟨(hs a z).1, by omega⟩)⟩
  · rw [u2 g a (fun z => hg ?_), k2, a4 g id]
    obtain ⟨rfl, rfl⟩ := z
    exact ⟨kk.2, Or.inr (Or.inl ⟨kk.1, by omega⟩)⟩
  · have hra : a = ra → g ≠ 813 ∧ g ≠ 814 ∧ g ≠ 815 := fun e => ⟨fun z => hg ⟨by rw [e]; exact i2, Or.inl ⟨by rw [e]; exact i1, by omega⟩⟩, fun z => hg ⟨by rw [e]; exact i2, Or.inl ⟨by rw [e]; exact i1, by omega⟩⟩, fun z => hg ⟨by rw [e]; exact i2, Or.inl ⟨by rw [e]; exact i1, by omega⟩⟩⟩
    have hka : a = ko f → g < 505 := fun e => Nat.not_le.mp (fun z => hg ⟨by rw [e]; exact kk.2, Or.inr (Or.inl ⟨by rw [e]; exact kk.1, z⟩)⟩)
    rw [u4 g a (fun z => by have := hka z.2; omega)]
    by_cases g4 : g = 304
    · subst g4
      rw [← a5 304 id]
      by_cases hc : cs_r S1 815 ra = none ∨ cs_r S1 814 ra = none
      · exact (k6 hc).2 a
      · cases hz : cs_r S1 815 ra with
        | none => exact absurd (Or.inl hz) hc
        | some z =>
          have hn : cs_r S1 814 ra ≠ none := fun q => hc (Or.inr q)
          refine (k7 z hz hn).2.2 a (fun e => hg ?_)
          obtain ⟨y1, y2⟩ := h.z815 ((c5 815 id).symm.trans hz) (by rw [← c5 814 id]; exact hn)
          rw [e]
          exact ⟨y2, Or.inr (Or.inr ⟨y1, by omega⟩)⟩
    · by_cases g5 : g = 305
      · subst g5
        rw [← a5 305 id]
        cases hz : cs_r S1 506 (ko f) with
        | none => exact k13 hz a
        | some z =>
          refine (k14 z hz).2 a (fun e => hg ?_)
          obtain ⟨y1, y2⟩ := h.z506 hf ((b5 506 id).symm.trans hz)
          rw [e]
          exact ⟨y2, Or.inr (Or.inr ⟨y1, by omega⟩)⟩
      · rw [← a5 g id]
        by_cases g14 : g = 814
        · subst g14
          exact (k4 a (fun e => (hra e).2.1 rfl)).1
        · by_cases g15 : g = 815
          · subst g15
            exact (k4 a (fun e => (hra e).2.2 rfl)).2
          · by_cases g05 : g = 505
            · subst g05
              exact (k9 a (fun e => by have := hka e; omega)).1
            · by_cases g06 : g = 506
              · subst g06
                exact (k9 a (fun e => by have := hka e; omega)).2
              · exact k3 g a g4 g5 g05 g06 g14 g15
/-- a count: how many of each key, and the entry that the window is measured by -/
def nthI (S : cs_S) (ko eo kf : Nat → Nat) (C Kf : Nat → Prop) (L p : Nat) : Prop := ∀ f, Kf f → cs_i S 508 (ko f) = yI (sS (cK C kf f) (fun _ => 1) 0 p) ∧ (1 ≤ sS (cK C kf f) (fun _ => 1) 0 p → ∃ o, o < p ∧ cK C kf f o ∧ cs_r S 507 (ko f) = some (eo o) ∧ sS (cK C kf f) (fun _ => 1) o (p - o) = min (sS (cK C kf f) (fun _ => 1) 0 p) L)
end FND
def oU (Ow : Nat → Prop) (q a : Nat) : Prop := Ow a ∨ a = q
section FND2
variable {G : Nat → Nat} {S S1 S2 S3 : cs_S} {ra : Nat} {Ow : Nat → Prop} {ko eo ev kf : Nat → Nat} {C Kf : Nat → Prop} {am : Nat → Int32} {so : Nat → Option Nat} {vv : Nat → Nat} {lo p : Nat}
theorem cI.join (h : cI S ra Ow ko eo ev kf C Kf am so vv lo p) (hp : p < 4000) (hc : C p) (hkf : Kf (kf p)) (hvv : vv p < 32000) (hev : cs_k S (ev p) = 5)
    (hso : ∀ c, so p = some c → cs_k S c = 6 ∧ Ow c ∧ cs_i S 511 c = yI (sS (cA C so c) (fun _ => 1) lo (p - lo)) ∧ ∀ o, o < p → C o → (so o = some c ↔ kf o = kf p ∧ vv o = vv p)) (hsn : so p = none → ∀ o, o < p → C o → so o = none) {q : Nat}
    (h1 : enD S S1 q (ev p) (ko (kf p)) (am p) (so p)) (h2 : kpD S1 S2 ra (ko (kf p)) q) (h3 : ufD S2 S3 (ko (kf p)) (am p) (so p)) : cI S3 ra (oU Ow q) ko (prU eo p q) ev kf C Kf am so vv lo (p + 1) ∧ fX (ruE S Ow) S S3 := by
  refine ⟨?_, h.adx hkf (fun c hc' => ⟨(hso c hc').1, (hso c hc').2.1⟩) h1 h2 h3⟩
  have h' : cI S ra (oU Ow q) ko (prU eo p q) ev kf C Kf am so vv lo p := h.cong (fun _ _ => Iff.rfl) (fun o ho _ => ⟨rfl, (prU_o (by omega)).symm, rfl, rfl, rfl, rfl⟩) (fun _ => Iff.rfl) (fun _ _ => rfl) (fun a _ ho => Or.inl ho)
  refine h'.ad hp hc hkf hvv hev (Or.inr prU_r) (fun c hc' => ?_) hsn (by rw [prU_r]; exact h1) (by rw [prU_r]; exact h2) h3
  obtain ⟨x1, x2, x3, x4⟩ := hso c hc'
  exact ⟨x1, Or.inl x2, x3, x4⟩
/-- what the frame of a rule leaves of it and of events -/
theorem ruE.keep (hF : fX (ruE S Ow) S S3) : (∀ a, cs_k S a = 9 → cs_k S3 a = 9 ∧ (∀ f, f < 813 → cs_i S3 f a = cs_i S f a) ∧ (∀ f, f < 813 → cs_l S3 f a = cs_l S f a) ∧ ∀ f, f < 813 ∨ 815 < f → cs_r S3 f a = cs_r S f a) ∧ (∀ a, cs_k S a = 5 → cs_k S3 a = 5 ∧ (∀ f, cs_i S3 f a = cs_i S f a)) ∧ ∀ a, cs_k S a = 6 → cs_k S3 a = 6 := by
  refine ⟨fun a ha => ?_, fun a ha => ?_, fun a ha => (hF a (by omega)).1.trans ha⟩
  · obtain ⟨a1, a2, a3, a4, a5, -⟩ := hF a (by omega)
    have hno : ∀ s f, f < 813 ∨ 815 < f → ¬ ruE S Ow s f a := fun s f hf z => by
      have := z.2
      omega
    exact ⟨a1.trans ha, fun f hf => a3 f (hno _ _ (Or.inl hf)), fun f hf => a4 f (hno _ _ (Or.inl hf)), fun f hf => a5 f (hno _ _ hf)⟩
  · obtain ⟨a1, a2, a3, -⟩ := hF a (by omega)
    exact ⟨a1.trans ha, fun f => a3 f (fun z => by have := z.2; omega)⟩
theorem cfc {L w mc ms : Nat} {tm : Nat → Nat} {post : Int32 → cs_S → Prop} (h : cI S ra Ow ko eo ev kf C Kf am so vv lo p) (hn : nthI S ko eo kf C Kf L p) (hp : p < 4000) (hc : C p) (hkf : Kf (kf p)) (hvv : vv p < 32000) (ham : am p = 0) (hs0 : ∀ o, o ≤ p → so o = none) (hm : 1 ≤ mc) (hms : 6 ≤ ms) (hL : 1 ≤ L) (hL2 : L ≤ 1000) (h803 : cs_i S 803 ra = nI L) (h810 : cs_i S 810 ra = nI w) (hw : w ≤ 1000000) (hev : ∀ o, o ≤ p → cs_k S (ev o) = 5 ∧ cs_i S 400 (ev o) = nI (tm o) ∧ tm o ≤ 2000000000 ∧ cs_i S 405 (ev o) = nI o)
    (hpost : ∀ S3 q o, cs_k S q = 0 → cs_k S3 q = 4 → cI S3 ra (oU Ow q) ko (prU eo p q) ev kf C Kf am so vv lo (p + 1) → nthI S3 ko (prU eo p q) kf C Kf L (p + 1) → fX (ruE S Ow) S S3 → o ≤ p → cK C kf (kf p) o → sS (cK C kf (kf p)) (fun _ => 1) o (p + 1 - o) = min (sS (cK C kf (kf p)) (fun _ => 1) 0 (p + 1)) L → post (if (L : Int) ≤ sS (cK C kf (kf p)) (fun _ => 1) 0 (p + 1) ∧ tm p < tm o + w then nI o else -1) S3) : wp_X7_findCount post G mc ms S ra (some (ko (kf p))) (some (ev p)) := by
  obtain ⟨⟨i0, i00, i1, i2⟩, ⟨i3, i4⟩, i5, i6, ⟨i7, i8, i9, i10⟩, ⟨i11, i12⟩, i13, i14⟩ := id h
  have cKp : cK C kf (kf p) p := ⟨hc, rfl⟩
  have hT : sS (cK C kf (kf p)) (fun _ => 1) 0 (p + 1) = sS (cK C kf (kf p)) (fun _ => 1) 0 p + 1 := by
    have := sS_lst (P := cK C kf (kf p)) (v := fun _ => 1) (lo := 0) (p := p) (by omega) cKp
    simpa using this
  obtain ⟨t508, t507⟩ := hn _ hkf
  have tb := sS_cn (P := cK C kf (kf p)) (lo := 0) (r := p)
  refine ⟨by omega, by omega, fun q hq S56 e56 => ?_⟩
  subst e56
  refine cen hq (fun S1 h1 => ?_)
  obtain ⟨b1, b2, b3, b4, b5, -⟩ := h1.2.1 (ko (kf p)) (by rw [(i3 _ hkf).1]; decide)
  refine ⟨(h1.2.1 ra (by omega)).1.trans i1, h.kp hkf h1 (fun S2 h2 => ⟨ko (kf p), rfl, (h2.1.1 _).trans (b1.trans (i3 _ hkf).1), fun S62 e62 => ?_⟩)⟩
  have hso : ∀ c, so p = some c → cs_k S c = 6 ∧ Ow c ∧ cs_i S 511 c = yI (sS (cA C so c) (fun _ => 1) lo (p - lo)) ∧ ∀ o, o < p → C o → (so o = some c ↔ kf o = kf p ∧ vv o = vv p) := fun c q => by rw [hs0 p (Nat.le_refl _)] at q; cases q
  have h1' : enD S S1 q (ev p) (ko (kf p)) (am p) (so p) := by rw [ham, hs0 p (Nat.le_refl _)]; exact h1
  have all : ∀ S3, ufD S2 S3 (ko (kf p)) (am p) (so p) → cI S3 ra (oU Ow q) ko (prU eo p q) ev kf C Kf am so vv lo (p + 1) ∧ fX (ruE S Ow) S S3 := fun S3 h3 => h.join hp hc hkf hvv (hev p (Nat.le_refl _)).1 hso (fun _ o ho _ => hs0 o (by omega)) h1' h2 h3
  have i508 : cs_i S2 508 (ko (kf p)) = yI (sS (cK C kf (kf p)) (fun _ => 1) 0 p) := by
    rw [h2.1.2.2.1 508 _ (fun z => absurd z.1 (by decide)), b3 508 id, t508]
  have k62 : ∀ x, cs_k S62 x = cs_k S2 x := fun x => by rw [e62]; rfl
  have i62 : cs_i S62 508 (ko (kf p)) = yI (sS (cK C kf (kf p)) (fun _ => 1) 0 (p + 1)) := by
    rw [e62, iui, if_pos ⟨rfl, rfl⟩, i508, yI_1, hT]
  have uf62 : ufD S2 S62 (ko (kf p)) (am p) (so p) := by
    rw [e62, ham, hs0 p (Nat.le_refl _)]
    refine ⟨sI.rfl.ui (Or.inl ⟨rfl, rfl⟩), fun _ _ _ => rfl, ?_, fun _ _ _ => rfl, fun _ => ?_, fun c hc' => nomatch hc'⟩
    · show cs_l S2 509 _ = cs_l S2 509 _ + (0 : Int32).toInt64
      rw [show (0 : Int32).toInt64 = 0 from by decide, Int64.add_zero]
    · rw [iui, if_neg (fun z => absurd z.1 (by decide))]
  have uf7 : ∀ x, ufD S2 (cs_ur S62 507 (ko (kf p)) x) (ko (kf p)) (am p) (so p) := fun x => by
    obtain ⟨u1, u2, u3, u4, u5, u6⟩ := uf62
    exact ⟨u1.ur, u2, u3, fun f y hy => by rw [rur, if_neg hy]; exact u4 f y hy, u5, u6⟩
  have h2q : cs_k S2 q = 4 := (h2.1.1 q).trans h1.2.2.1
  have r507 : ∀ f, cs_r S2 507 f = cs_r S1 507 f := fun f => h2.2.2.1 507 f (by decide) (by decide) (by decide) (by decide) (by decide) (by decide)
  have fin : ∀ S3 o, ufD S2 S3 (ko (kf p)) (am p) (so p) → cs_i S3 508 (ko (kf p)) = yI (sS (cK C kf (kf p)) (fun _ => 1) 0 (p + 1)) → o ≤ p → cK C kf (kf p) o → cs_r S3 507 (ko (kf p)) = some (prU eo p q o) → sS (cK C kf (kf p)) (fun _ => 1) o (p + 1 - o) = min (sS (cK C kf (kf p)) (fun _ => 1) 0 (p + 1)) L → w_X7_findCount_73 post G mc ms S3 (0 + 1) (0 + 6) ra (some (ko (kf p))) (some (ev p)) := by
    intro S3 o hu g508 ho hco g507 hmin
    obtain ⟨hI, hF⟩ := all S3 hu
    obtain ⟨kr, ke, kk⟩ := ruE.keep hF
    obtain ⟨r1, r2, r3, r4⟩ := kr ra i1
    have hN : nthI S3 ko (prU eo p q) kf C Kf L (p + 1) := by
      intro f hf
      by_cases c : f = kf p
      · subst c
        exact ⟨g508, fun _ => ⟨o, by omega, hco, g507, hmin⟩⟩
      · have nc : ¬ cK C kf f p := fun z => c z.2.symm
        have hne : ko f ≠ ko (kf p) := fun z => c (i4 _ _ hf hkf z)
        have e0 : sS (cK C kf f) (fun _ => 1) 0 (p + 1) = sS (cK C kf f) (fun _ => 1) 0 p := by
          have := sS_nst (P := cK C kf f) (v := fun _ => 1) (lo := 0) (p := p) (by omega) nc
          simpa using this
        obtain ⟨d1, -, d3, -, d5, -⟩ := h1.2.1 (ko f) (by rw [(i3 _ hf).1]; decide)
        obtain ⟨y1, y2⟩ := hn f hf
        rw [e0, hu.1.2.2.1 508 _ (fun z => by rcases z with z | z | z <;> first | exact hne z.2 | exact absurd z.1 (by decide)), h2.1.2.2.1 508 _ (fun z => absurd z.1 (by decide)), d3 508 id]
        refine ⟨y1, fun z => ?_⟩
        obtain ⟨x, x1, x2, x3, x4⟩ := y2 z
        refine ⟨x, by omega, x2, ?_, ?_⟩
        · rw [hu.2.2.2.1 507 _ (fun z => hne z.2), r507, d5 507 id, prU_o (by omega)]; exact x3
        · rw [sS_nst (by omega) nc]; exact x4
    have hpo := hpost S3 q o hq ((hu.1.1 q).trans h2q) hI hN hF ho hco hmin
    have hco' := hco.1
    obtain ⟨o1, o2, o3, o4, o5, o6, o7, o8, o9, o10⟩ := hI.2.2.1 o (by omega) hco'
    obtain ⟨v1, v2, v3, v4⟩ := hev o ho
    obtain ⟨w1, w2, w3, w4⟩ := hev p (Nat.le_refl _)
    obtain ⟨ev1, ev2⟩ := ke _ v1
    obtain ⟨ep1, ep2⟩ := ke _ w1
    have LI : (nI L).toInt = (L : Int) := nI_toInt (by omega)
    have a117 : ¬ ((L : Int) ≤ sS (cK C kf (kf p)) (fun _ => 1) 0 (p + 1) ∧ tm p < tm o + w) → w_X7_findCount_117 post G mc ms S3 (0 + 1) (0 + 6) (some (ko (kf p))) := fun z => by
      rw [if_neg z] at hpo
      exact ⟨by omega, by omega, by omega, by omega, fun _ => ⟨by omega, by omega, hpo⟩, fun z => absurd rfl z⟩
    refine ⟨by omega, by omega, ko (kf p), rfl, kk _ (i3 _ hkf).1, r1, fun z => a117 (fun y => ?_), fun z r45 e45 => ⟨fun q => ?_, fun b46 e46 r47 e47 => ⟨prU eo p q o, e47.trans g507, o4, fun r50 e50 => ⟨ev o, e50.trans o7, ev1, ev p, rfl, ep1, fun z1 => a117 (fun y => ?_), fun z1 => ⟨by omega, by omega, fun z => absurd z (by decide), fun _ => ⟨ko (kf p), rfl, kk _ (i3 _ hkf).1, fun r36 e36 => ⟨prU eo p q o, e36.trans g507, o4, fun r39 e39 => ⟨ev o, e39.trans o7, ev1, by omega, by omega, ?_⟩⟩⟩⟩⟩⟩⟩⟩
    · rw [g508, r2 803 (by decide), h803, yI_l (by omega) (by omega), LI] at z
      omega
    · rw [e45, g507] at q; cases q
    · rw [ev2 400, ep2 400, r2 810 (by decide), v2, w2, h810] at z1
      have := (win w3 v3 hw).2.mp z1
      omega
    · rw [ev2 400, ep2 400, r2 810 (by decide), v2, w2, h810] at z1
      rw [g508, r2 803 (by decide), h803, yI_l (by omega) (by omega), LI] at z
      have z2 : tm p < tm o + w := Nat.not_le.mp (fun y => z1 ((win w3 v3 hw).2.mpr y))
      rw [if_pos ⟨by omega, z2⟩] at hpo
      rw [ev2 405, v4]
      exact hpo
  refine ⟨(k62 _).trans ((h2.1.1 _).trans (b1.trans (i3 _ hkf).1)), fun z1 => ⟨(k62 _).trans ((h2.1.1 _).trans ((h1.2.1 ra (by omega)).1.trans i1)), fun z2 => ?_, fun z2 r65 e65 => ⟨fun z3 => ?_, fun b66 e66 r67 e67 => ?_⟩⟩, fun z1 r72 e72 S73 e73 => ?_⟩
  · -- as many as were asked for, or fewer
    rw [i62, yI_e (by omega) (by omega), hT] at z1
    have z1' : ¬ sS (cK C kf (kf p)) (fun _ => 1) 0 p + 1 = 1 := z1
    obtain ⟨o, o1, o2, o3, o4⟩ := t507 (by omega)
    have r3 : cs_i S62 803 ra = nI L := by
      have := (ruE.keep (all S62 uf62).2).1 ra i1
      rw [this.2.1 803 (by decide)]; exact h803
    rw [i62, r3] at z2
    have z3 : sS (cK C kf (kf p)) (fun _ => 1) 0 (p + 1) ≤ L := by
      have h9 := Int32.le_iff_toInt_le.mp z2
      rw [yI_i (by omega) (by omega), nI_toInt (by omega)] at h9
      exact h9
    refine fin S62 o uf62 i62 (by omega) o2 ?_ ?_
    · rw [e62, rui, r507, b5 507 id, prU_o (by omega)]; exact o3
    · rw [sS_lst (by omega) cKp, o4, hT]
      omega
  · rw [i62, yI_e (by omega) (by omega), hT] at z1
    have z1' : ¬ sS (cK C kf (kf p)) (fun _ => 1) 0 p + 1 = 1 := z1
    obtain ⟨o, o1, o2, o3, o4⟩ := t507 (by omega)
    rw [e65, e62, rui, r507, b5 507 id, o3] at z3
    cases z3
  · rw [i62, yI_e (by omega) (by omega), hT] at z1
    have z1' : ¬ sS (cK C kf (kf p)) (fun _ => 1) 0 p + 1 = 1 := z1
    obtain ⟨o, o1, o2, o3, o4⟩ := t507 (by omega)
    have r3 : cs_i S62 803 ra = nI L := by
      have := (ruE.keep (all S62 uf62).2).1 ra i1
      rw [this.2.1 803 (by decide)]; exact h803
    rw [i62, r3] at z2
    have z3 : ¬ sS (cK C kf (kf p)) (fun _ => 1) 0 (p + 1) ≤ L := by
      intro y
      refine z2 (Int32.le_iff_toInt_le.mpr ?_)
      rw [yI_i (by omega) (by omega), nI_toInt (by omega)]
      exact y
    have e507 : cs_r S62 507 (ko (kf p)) = some (eo o) := by rw [e62, rui, r507, b5 507 id]; exact o3
    obtain ⟨hI, hF⟩ := all S62 uf62
    have hco := hI.2.2.1 o (by omega) o2.1
    rw [prU_o (by omega)] at hco
    refine ⟨eo o, e67.trans e507, hco.2.2.2.1, fun r70 e70 S71 e71 => ?_⟩
    have e305 := hI.2.2.2.2.2.1.2 o (by omega) o2.1
    rw [prU_o (by omega), o2.2] at e305
    cases hy : nx (cK C kf (kf p)) (o + 1) (p + 1) with
    | none => exact absurd cKp (nx_none _ hy p (by omega) (by omega))
    | some y =>
      obtain ⟨y1, y2, y3, y4⟩ := nx_some _ _ hy
      rw [hy] at e305
      subst e71
      refine fin _ y (uf7 _) i62 (by omega) y3 ?_ ?_
      · rw [rur, if_pos ⟨rfl, rfl⟩, e70]; exact e305
      · have g1 := sS_lst (P := cK C kf (kf p)) (v := fun _ => 1) (lo := o) (p := p) (by omega) cKp
        have g2 := sS_fst (P := cK C kf (kf p)) (v := fun _ => 1) (lo := o) (p := p + 1) (by omega) o2
        have g3 := sS_skip (P := cK C kf (kf p)) (v := fun _ => 1) (lo := o + 1) (p := p + 1) (m := y) (by omega) (by omega) y4
        omega
  · rw [i62, yI_e (by omega) (by omega), hT] at z1
    have z1' : sS (cK C kf (kf p)) (fun _ => 1) 0 p + 1 = 1 := z1
    subst e73
    refine fin _ p (uf7 _) i62 (Nat.le_refl _) cKp ?_ ?_
    · rw [rur, if_pos ⟨rfl, rfl⟩, e72, e62, rui, h2.2.2.2.2.2.2.2.2.2.1, prU_r]
    · rw [sS_lst (by omega) cKp, Nat.sub_self, hT]
      show (0 : Int) + 1 = _
      omega
end FND2
section FND3
variable {G : Nat → Nat} {S : cs_S} {ra : Nat} {Ow : Nat → Prop} {ko eo ev kf : Nat → Nat} {C Kf : Nat → Prop} {am : Nat → Int32} {so : Nat → Option Nat} {vv : Nat → Nat} {lo p mc ms : Nat} {post : Int32 → cs_S → Prop}
theorem cfs {va : Nat} {Ls : Int32} (h : cI S ra Ow ko eo ev kf C Kf am so vv lo p) (hp : p < 4000) (hc : C p) (hkf : Kf (kf p)) (hvv : vv p < 32000) (hva : cs_k S va = 11) (hi : cs_i S 1000 va = 0) (ham : cs_i S 1001 va = am p) (hs0 : ∀ o, o ≤ p → so o = none) (hm : 1 ≤ mc) (hms : 6 ≤ ms) (h803 : cs_i S 803 ra = Ls) (hev : ∀ o, o ≤ p → cs_k S (ev o) = 5 ∧ cs_i S 405 (ev o) = nI o)
    (hpost : ∀ S3 q o, cs_k S q = 0 → cs_k S3 q = 4 → cI S3 ra (oU Ow q) ko (prU eo p q) ev kf C Kf am so vv lo (p + 1) → fX (ruE S Ow) S S3 → nx (cK C kf (kf p)) lo (p + 1) = some o → post (if Ls.toInt ≤ sS (cK C kf (kf p)) (fun o => (am o).toInt) lo (p + 1 - lo) then nI o else -1) S3) : wp_X7_findSum post G mc ms S ra (some (ko (kf p))) (some (ev p)) (some va) := by
  obtain ⟨⟨i0, i00, i1, i2⟩, ⟨i3, i4⟩, i5, i6, ⟨i7, i8, i9, i10⟩, ⟨i11, i12⟩, i13, i14⟩ := id h
  have cKp : cK C kf (kf p) p := ⟨hc, rfl⟩
  refine ⟨va, rfl, hva, fun _ => ⟨by omega, by omega, fun q hq S25 e25 => ?_⟩, fun z => absurd hi z⟩
  subst e25
  have hvq : va ≠ q := fun e => by rw [e, hq] at hva; cases hva
  have e1001 : cs_i (cs_new S q 3) 1001 va = am p := by rw [inew, if_neg hvq]; exact ham
  refine ⟨by rw [knew, if_neg hvq]; exact hva, ?_⟩
  rw [e1001]
  refine cen hq (fun S1 h1 => ?_)
  obtain ⟨b1, b2, b3, b4, b5, -⟩ := h1.2.1 (ko (kf p)) (by rw [(i3 _ hkf).1]; decide)
  obtain ⟨v1, v2, v3, -⟩ := h1.2.1 va (by omega)
  have h1' : enD S S1 q (ev p) (ko (kf p)) (am p) (so p) := by rw [hs0 p (Nat.le_refl _)]; exact h1
  refine ⟨(h1.2.1 ra (by omega)).1.trans i1, h.kp hkf h1 (fun S2 h2 => ⟨ko (kf p), rfl, (h2.1.1 _).trans (b1.trans (i3 _ hkf).1), (h2.1.1 _).trans (v1.trans hva), fun S33 e33 => ?_⟩)⟩
  have hso : ∀ c, so p = some c → cs_k S c = 6 ∧ Ow c ∧ cs_i S 511 c = yI (sS (cA C so c) (fun _ => 1) lo (p - lo)) ∧ ∀ o, o < p → C o → (so o = some c ↔ kf o = kf p ∧ vv o = vv p) := fun c q => by rw [hs0 p (Nat.le_refl _)] at q; cases q
  have e28 : cs_i S2 1001 va = am p := by rw [h2.1.2.2.1 1001 va (fun z => absurd z.1 (by decide)), v3 1001 id]; exact ham
  have hu : ufD S2 S33 (ko (kf p)) (am p) (so p) := by
    rw [e33, hs0 p (Nat.le_refl _), e28]
    exact ⟨sI.rfl.ul, fun f y hy => by rw [lul, if_neg hy], by rw [lul, if_pos ⟨rfl, rfl⟩], fun _ _ _ => rfl, fun _ => rfl, fun c hc' => nomatch hc'⟩
  obtain ⟨hI, hF⟩ := h.join hp hc hkf hvv (hev p (Nat.le_refl _)).1 hso (fun _ o ho _ => hs0 o (by omega)) h1' h2 hu
  obtain ⟨kr, ke, kk⟩ := ruE.keep hF
  obtain ⟨r1, r2, r3, r4⟩ := kr ra i1
  obtain ⟨g505, g506, g509, g510⟩ := hI.2.2.2.2.2.1.1 _ hkf
  cases ho : nx (cK C kf (kf p)) lo (p + 1) with
  | none => exact absurd cKp (nx_none _ ho p i0 (by omega))
  | some o =>
    obtain ⟨n1, n2, n3, n4⟩ := nx_some _ _ ho
    have hpo := hpost S33 q o hq ((hu.1.1 q).trans ((h2.1.1 q).trans h1.2.2.1)) hI hF ho
    rw [ho] at g505
    have g505' : cs_r S33 505 (ko (kf p)) = some (prU eo p q o) := g505
    obtain ⟨o1, o2, o3, o4, o5, o6, o7, -⟩ := hI.2.2.1 o n2 n3.1
    obtain ⟨w1, w2⟩ := hev o (by omega)
    have bd := sS_bd (P := cK C kf (kf p)) (v := fun o => (am o).toInt) (lo := lo) (B := 2 ^ 31) (by decide) (fun x _ => by
      have h8 := Int32.le_toInt (am x)
      have h9 := Int32.toInt_lt (am x)
      show -(2 ^ 31) ≤ (am x).toInt ∧ (am x).toInt ≤ 2 ^ 31
      omega) (p + 1 - lo)
    have bp : ((p + 1 - lo : Nat) : Int) ≤ 4000 := by omega
    have lgz := lg_z (z := sS (cK C kf (kf p)) (fun o => (am o).toInt) lo (p + 1 - lo)) (y := Ls) (by omega) (by omega)
    refine ⟨kk _ (i3 _ hkf).1, r1, fun z => ?_, fun z r36 e36 => ⟨fun y => ?_, fun b37 e37 r38 e38 => ⟨prU eo p q o, e38.trans g505', o4, fun r41 e41 => ⟨ev o, e41.trans o7, (ke _ w1).1, by omega, by omega, ?_⟩⟩⟩⟩
    · rw [g509, r2 803 (by decide), h803] at z
      rw [if_neg (fun y => absurd z (Int32.not_lt.mpr (lgz.mpr y)))] at hpo
      exact ⟨by omega, by omega, by omega, by omega, hpo⟩
    · rw [e36, g505'] at y; cases y
    · rw [g509, r2 803 (by decide), h803] at z
      rw [if_pos (lgz.mp (Int32.not_lt.mp z))] at hpo
      rw [(ke _ w1).2, w2]
      exact hpo
theorem cfd {c L : Nat} (h : cI S ra Ow ko eo ev kf C Kf am so vv lo p) (hp : p < 4000) (hc : C p) (hkf : Kf (kf p)) (hvv : vv p < 32000) (ham : am p = 0) (hcs : so p = some c) (hso : cs_k S c = 6 ∧ Ow c ∧ cs_i S 511 c = yI (sS (cA C so c) (fun _ => 1) lo (p - lo)) ∧ ∀ o, o < p → C o → (so o = some c ↔ kf o = kf p ∧ vv o = vv p)) (hm : 1 ≤ mc) (hms : 6 ≤ ms) (h803 : cs_i S 803 ra = nI L) (hL : L ≤ 1000) (hev : ∀ o, o ≤ p → cs_k S (ev o) = 5 ∧ cs_i S 405 (ev o) = nI o)
    (hpost : ∀ S3 q o, cs_k S q = 0 → cs_k S3 q = 4 → cI S3 ra (oU Ow q) ko (prU eo p q) ev kf C Kf am so vv lo (p + 1) → fX (ruE S Ow) S S3 → nx (cK C kf (kf p)) lo (p + 1) = some o → post (if (L : Int) ≤ sS (dV C kf so vv lo (p + 1) (kf p)) (fun _ => 1) 0 32000 then nI o else -1) S3) : wp_X7_findDistinct post G mc ms S ra (some (ko (kf p))) (some (ev p)) (some c) := by
  obtain ⟨⟨i0, i00, i1, i2⟩, ⟨i3, i4⟩, i5, i6, ⟨i7, i8, i9, i10⟩, ⟨i11, i12⟩, i13, i14⟩ := id h
  have cKp : cK C kf (kf p) p := ⟨hc, rfl⟩
  refine ⟨by omega, by omega, fun q hq S35 e35 => ?_⟩
  subst e35
  refine cen hq (fun S1 h1 => ?_)
  obtain ⟨b1, b2, b3, b4, b5, -⟩ := h1.2.1 (ko (kf p)) (by rw [(i3 _ hkf).1]; decide)
  obtain ⟨v1, v2, v3, -⟩ := h1.2.1 c (by omega)
  have h1' : enD S S1 q (ev p) (ko (kf p)) (am p) (so p) := by rw [ham, hcs]; exact h1
  refine ⟨(h1.2.1 ra (by omega)).1.trans i1, h.kp hkf h1 (fun S2 h2 => ⟨c, rfl, (h2.1.1 _).trans (v1.trans hso.1), fun S41 e41 => ?_⟩)⟩
  have fin : ∀ S3, ufD S2 S3 (ko (kf p)) (am p) (so p) → w_X7_findDistinct_43 post G mc ms S3 (0 + 1) (0 + 6) ra (some (ko (kf p))) := fun S3 hu => by
    obtain ⟨hI, hF⟩ := h.join hp hc hkf hvv (hev p (Nat.le_refl _)).1 (fun c' hc' => by rw [hcs] at hc'; cases hc'; exact hso) (fun z => by rw [hcs] at z; cases z) h1' h2 hu
    obtain ⟨kr, ke, kk⟩ := ruE.keep hF
    obtain ⟨r1, r2, r3, r4⟩ := kr ra i1
    obtain ⟨g505, g506, g509, g510⟩ := hI.2.2.2.2.2.1.1 _ hkf
    cases ho : nx (cK C kf (kf p)) lo (p + 1) with
    | none => exact absurd cKp (nx_none _ ho p i0 (by omega))
    | some o =>
      obtain ⟨n1, n2, n3, n4⟩ := nx_some _ _ ho
      have hpo := hpost S3 q o hq ((hu.1.1 q).trans ((h2.1.1 q).trans h1.2.2.1)) hI hF ho
      rw [ho] at g505
      have g505' : cs_r S3 505 (ko (kf p)) = some (prU eo p q o) := g505
      obtain ⟨o1, o2, o3, o4, o5, o6, o7, -⟩ := hI.2.2.1 o n2 n3.1
      obtain ⟨w1, w2⟩ := hev o (by omega)
      have bd := sS_cn (P := dV C kf so vv lo (p + 1) (kf p)) (lo := 0) (r := 32000)
      have LI : (nI L).toInt = (L : Int) := nI_toInt (by omega)
      generalize sS (dV C kf so vv lo (p + 1) (kf p)) (fun _ => 1) 0 32000 = D at g510 hpo bd
      refine ⟨by omega, by omega, ko (kf p), rfl, kk _ (i3 _ hkf).1, r1, fun z => ?_, fun z r26 e26 => ⟨fun y => ?_, fun b27 e27 r28 e28 => ⟨prU eo p q o, e28.trans g505', o4, fun r31 e31 => ⟨ev o, e31.trans o7, (ke _ w1).1, by omega, by omega, ?_⟩⟩⟩⟩
      · rw [g510, r2 803 (by decide), h803, yI_l (by omega) (by omega), LI] at z
        rw [if_neg (by omega)] at hpo
        exact ⟨by omega, by omega, by omega, by omega, hpo⟩
      · rw [e26, g505'] at y; cases y
      · rw [g510, r2 803 (by decide), h803, yI_l (by omega) (by omega), LI] at z
        rw [if_pos (by omega)] at hpo
        rw [(ke _ w1).2, w2]
        exact hpo
  have z64 : (0 : Int32).toInt64 = 0 := by decide
  have e511 : cs_i S41 511 c = cs_i S2 511 c + 1 := by rw [e41, iui, if_pos ⟨rfl, rfl⟩]
  refine ⟨by rw [e41]; exact (h2.1.1 _).trans (v1.trans hso.1), fun z => fin S41 ?_, fun z => ⟨ko (kf p), rfl, by rw [e41]; exact (h2.1.1 _).trans (b1.trans (i3 _ hkf).1), fun S45 e45 => fin S45 ?_⟩⟩
  · rw [e511] at z
    rw [e41, ham, hcs]
    refine ⟨sI.rfl.ui (Or.inr (Or.inr ⟨rfl, rfl⟩)), fun _ _ _ => rfl, ?_, fun _ _ _ => rfl, fun y => (nomatch y), fun c' hc' => ?_⟩
    · show cs_l S2 509 _ = _
      rw [z64, Int64.add_zero]
    · cases hc'
      exact ⟨by rw [iui, if_pos ⟨rfl, rfl⟩], fun y => absurd y z, fun _ => by rw [iui, if_neg (fun z => absurd z.1 (by decide))]⟩
  · rw [e511] at z
    rw [e45, e41, ham, hcs]
    refine ⟨(sI.rfl.ui (Or.inr (Or.inr ⟨rfl, rfl⟩))).ui (Or.inr (Or.inl ⟨rfl, rfl⟩)), fun _ _ _ => rfl, ?_, fun _ _ _ => rfl, fun y => (nomatch y), fun c' hc' => ?_⟩
    · show cs_l S2 509 _ = _
      rw [z64, Int64.add_zero]
    · cases hc'
      exact ⟨by rw [iui, if_neg (fun z => absurd z.1 (by decide)), iui, if_pos ⟨rfl, rfl⟩], fun y => by rw [iui, if_pos ⟨rfl, rfl⟩, iui, if_neg (fun z => absurd z.1 (by decide))], fun y => absurd z y⟩
end FND3
