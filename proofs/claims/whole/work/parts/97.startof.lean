/-! ===== the reference alone: startOf ===== -/
section NTH
variable {C : Nat → Prop} {e L : Nat}
theorem cn_step {t : Nat} (ht : t ≤ e) : sS C (fun _ => 1) t (e + 1 - t) = (oneIf (C t) : Int) + sS C (fun _ => 1) (t + 1) (e + 1 - (t + 1)) := by
  rw [show e + 1 - t = (e + 1 - (t + 1)) + 1 from by omega, sS_down]
  omega
theorem cn_nth (hL : 1 ≤ L) : ∀ r t, t + r = e + 1 → (L : Int) ≤ sS C (fun _ => 1) t (e + 1 - t) → ∃ o, t ≤ o ∧ o ≤ e ∧ C o ∧ sS C (fun _ => 1) o (e + 1 - o) = L := by
  intro r
  induction r with
  | zero =>
    intro t ht h
    rw [show e + 1 - t = 0 from by omega] at h
    have : (L : Int) ≤ 0 := h
    omega
  | succ r ih =>
    intro t ht h
    rw [cn_step (by omega)] at h
    by_cases c : (L : Int) ≤ sS C (fun _ => 1) (t + 1) (e + 1 - (t + 1))
    · obtain ⟨o, h1, h2⟩ := ih (t + 1) (by omega) c
      exact ⟨o, by omega, h2⟩
    · by_cases ct : C t
      · rw [one_y ct] at h
        refine ⟨t, Nat.le_refl _, by omega, ct, ?_⟩
        rw [cn_step (by omega), one_y ct]
        omega
      · rw [one_n ct] at h
        omega
theorem cn_mono : ∀ d t, t + d ≤ e + 1 → sS C (fun _ => 1) (t + d) (e + 1 - (t + d)) ≤ sS C (fun _ => 1) t (e + 1 - t) := by
  intro d
  induction d with
  | zero => intro t _; exact Int.le_refl _
  | succ d ih =>
    intro t h
    have h1 := ih t (by omega)
    have h2 := cn_step (C := C) (e := e) (t := t + d) (by omega)
    rw [show t + (d + 1) = t + d + 1 from rfl]
    omega
theorem cn_uni {o o' : Nat} (h : o < o') (ho : o' ≤ e) (hc : C o) (h1 : sS C (fun _ => 1) o (e + 1 - o) = L) : ¬ sS C (fun _ => 1) o' (e + 1 - o') = L := by
  have h2 := cn_step (C := C) (e := e) (t := o) (by omega)
  rw [one_y hc] at h2
  have h3 := cn_mono (C := C) (e := e) (o' - (o + 1)) (o + 1) (by omega)
  rw [show o + 1 + (o' - (o + 1)) = o' from by omega] at h3
  omega
end NTH
/-- what startOf finds -/
def stO (σ : rf_S) (r b e f w : Nat) (tm : Nat → Nat) (res : Option Nat) : Prop :=
  (σ.2.2.1 38 b = 3 ∧ ∃ k, k ≤ 5 ∧ σ.2.2.1 40 b = nI k ∧ ((∃ o, res = some o ∧ csF σ r f k e = some o ∧ tm e < tm o + w ∧ clr σ r f o e) ∨ (res = none ∧ ∀ o, csF σ r f k e = some o → tm e < tm o + w → ¬ clr σ r f o e))) ∨
  (¬ σ.2.2.1 38 b = 3 ∧ ¬ hI σ b e ∧ res = none) ∨
  (hI σ b e ∧ σ.2.2.1 38 b = 0 ∧ ((∃ o, res = some o ∧ o ≤ e ∧ wC σ r b f e w tm o ∧ sS (wC σ r b f e w tm) (fun _ => 1) o (e + 1 - o) = (σ.2.2.1 39 b).toInt) ∨ (res = none ∧ sS (wC σ r b f e w tm) (fun _ => 1) 0 (e + 1) < (σ.2.2.1 39 b).toInt))) ∨
  (hI σ b e ∧ (σ.2.2.1 38 b = 1 ∨ σ.2.2.1 38 b = 2) ∧ ((∃ o, res = some o ∧ o ≤ e ∧ wC σ r b f e w tm o ∧ (∀ x, x < o → ¬ wC σ r b f e w tm x) ∧ (σ.2.2.1 38 b = 2 → (σ.2.2.1 39 b).toInt ≤ sS (wC σ r b f e w tm) (vS σ b) 0 (e + 1)) ∧ (σ.2.2.1 38 b = 1 → (σ.2.2.1 39 b).toInt ≤ sS (pV σ r b f e w tm 0) (fun _ => 1) 0 32000)) ∨
    (res = none ∧ (σ.2.2.1 38 b = 2 → ¬ (σ.2.2.1 39 b).toInt ≤ sS (wC σ r b f e w tm) (vS σ b) 0 (e + 1)) ∧ (σ.2.2.1 38 b = 1 → ¬ (σ.2.2.1 39 b).toInt ≤ sS (pV σ r b f e w tm 0) (fun _ => 1) 0 32000))))
theorem rst {σ : rf_S} {r b bk e f w : Nat} {tm : Nat → Nat} (hP : sP σ r b bk e w tm) (hw1 : 1 ≤ w) (hf : f < 4000) (hkey : σ.2.2.1 63 (4000 * r + e) = nI f) (hwh : ∃ x, x ≤ 3 ∧ σ.2.2.1 38 b = nI x) (hbit : ¬ σ.2.2.1 38 b = 3 → (σ.2.2.1 64 (4000 * r + e)) &&& 1 = 1) (hk : ∃ k, 1 ≤ k ∧ k ≤ 5 ∧ σ.2.2.1 40 b = nI k) (hL : ¬ σ.2.2.1 38 b = 2 → ¬ σ.2.2.1 38 b = 3 → ∃ L, 1 ≤ L ∧ L ≤ 1000 ∧ σ.2.2.1 39 b = nI L) (hM : ∀ v, σ.2.2.1 68 v = 0) (hV : ∀ o k, o ≤ e → fO σ o (σ.2.2.2 36 b) = some k → ∃ v, v < 32000 ∧ σ.2.2.1 17 (8 * o + k) = nI v) :
    ∃ res, stO σ r b e f w tm res ∧ (∀ o, res = some o → o ≤ e) ∧ ∀ Q : Int32 → rf_S → Prop, Q (oI res) σ → wp_X12_startOf Q σ (nI r) (nI e) := by
  obtain ⟨h32, hbk, hr, hbb, he, hw, hw2, hev, hmono⟩ := id hP
  have hb24 : b < 24 := by omega
  have i38 : vp_in (nI b) (rf_n 38) := nI_in (N := 24) hb24 (by decide)
  obtain ⟨x, hx3, ex⟩ := hwh
  obtain ⟨t1, t2, m, hm, h9⟩ := hev e (Nat.le_refl _)
  have enter : ∀ Q : Int32 → rf_S → Prop, (¬ σ.2.2.1 38 b = 3 → wp_X12_hasIt (fun r11 σ11 => (¬ r11 = 0 → vp_in (nI (4000 * r + e)) (rf_n 63) ∧ ∃ n9, w_X12_startOf_64 Q n9 σ11 (nI r) (nI e) (nI b) (σ11.2.2.1 63 (4000 * r + e)) 0 ((-1)) ((-1)) (nI e)) ∧ (r11 = 0 → Q ((-1)) σ11)) σ (nI r) (nI e)) → (σ.2.2.1 38 b = 3 → wp_X12_chainStart (fun r12 σ12 => Q r12 σ12) σ (nI r) (nI e)) → wp_X12_startOf Q σ (nI r) (nI e) := by
    intro Q h1 h2
    show vp_in _ _ ∧ _ ∧ _
    rw [h32, n12, n4k, ← hbb, nI_clamp (by omega : b < 2 ^ 31), nI_clamp (by omega : 4000 * r + e < 2 ^ 31)]
    exact ⟨i38, h1, h2⟩
  have i63 : vp_in (nI (4000 * r + e)) (rf_n 63) := nI_in (N := 48000) (by omega) (by decide)
  by_cases h3 : σ.2.2.1 38 b = 3
  · obtain ⟨k, hk1, hk5, ek⟩ := hk
    have go : ∀ Q : Int32 → rf_S → Prop, (∀ o, csF σ r f k e = some o → tm e < tm o + w → clr σ r f o e → Q (nI o) σ) → ((∀ o, csF σ r f k e = some o → tm e < tm o + w → ¬ clr σ r f o e) → Q (-1) σ) → wp_X12_startOf Q σ (nI r) (nI e) := fun Q h1 h2 => enter Q (fun q => absurd h3 q) (fun _ => rcs h32 hbk hr hbb hf he hkey ek hk1 hk5 hw hw2 (fun o ho => ⟨(hev o ho).1, (hev o ho).2.1⟩) h1 h2)
    by_cases hx : ∃ o, csF σ r f k e = some o ∧ tm e < tm o + w ∧ clr σ r f o e
    · obtain ⟨o, o1, o2, o3⟩ := hx
      refine ⟨some o, Or.inl ⟨h3, k, hk5, ek, Or.inl ⟨o, rfl, o1, o2, o3⟩⟩, fun o' ho' => ?_, fun Q hQ => go Q (fun o' h1 _ _ => ?_) (fun h => absurd o3 (h o o1 o2))⟩
      · cases ho'
        unfold csF at o1
        by_cases c1 : k = 1
        · rw [if_pos c1] at o1; cases o1; exact Nat.le_refl _
        · rw [if_neg c1] at o1; have := cfn_lt _ _ _ o1; omega
      · rw [o1] at h1; cases h1; exact hQ
    · exact ⟨none, Or.inl ⟨h3, k, hk5, ek, Or.inr ⟨rfl, fun o h1 h2 h4 => hx ⟨o, h1, h2, h4⟩⟩⟩, fun o ho => (nomatch ho), fun Q hQ => go Q (fun o h1 h2 h4 => absurd ⟨o, h1, h2, h4⟩ hx) (fun _ => hQ)⟩
  · by_cases hi : hI σ b e
    · have hCe : wC σ r b f e w tm e := ⟨⟨hkey, hbit h3, hi⟩, by omega⟩
      have go : ∀ Q : Int32 → rf_S → Prop, (∃ n9, w_X12_startOf_64 Q n9 σ (nI r) (nI e) (nI b) (nI f) 0 ((-1)) ((-1)) (nI (e + 1) - 1)) → wp_X12_startOf Q σ (nI r) (nI e) := fun Q hQ => enter Q (fun _ => rhi h32 hbk hr hbb (by omega) hm h9 (fun _ => ⟨fun _ => ⟨i63, by rw [hkey]; rw [nI_pred] at hQ; exact hQ⟩, fun q => absurd q (by decide)⟩) (fun q => absurd hi q)) (fun q => absurd q h3)
      have hnow : ∀ o, e + 1 ≤ o → o ≤ e → tm e < tm o + w := fun o h1 h2 => absurd h1 (by omega)
      obtain ⟨s, hs1, hs2⟩ := least_of (P := fun o => wC σ r b f e w tm o) ⟨e, hCe⟩
      have hse : s ≤ e := Nat.not_lt.mp (fun q => hs2 e q hCe)
      have hsu : ∀ o, wC σ r b f e w tm o → (∀ x, x < o → ¬ wC σ r b f e w tm x) → o = s := fun o h1 h2 => by
        by_cases c1 : o < s
        · exact absurd h1 (hs2 o c1)
        · by_cases c2 : s < o
          · exact absurd hs1 (h2 s c2)
          · omega
      have hx : x = 0 ∨ x = 1 ∨ x = 2 := by
        have : x ≠ 3 := fun q => h3 (by rw [ex, q]; rfl)
        omega
      rcases hx with rfl | rfl | rfl
      · obtain ⟨L, hL1, hL2, eL⟩ := hL (by rw [ex]; decide) h3
        have eLi : (σ.2.2.1 39 b).toInt = (L : Int) := by rw [eL]; exact nI_toInt (by omega)
        have z0 : sS (wC σ r b f e w tm) (fun _ => 1) (e + 1) (e + 1 - (e + 1)) = 0 := by rw [Nat.sub_self]; rfl
        have run : ∀ Q : Int32 → rf_S → Prop, (∀ o, o ≤ e → wC σ r b f e w tm o → sS (wC σ r b f e w tm) (fun _ => 1) o (e + 1 - o) = L → Q (nI o) σ) → (sS (wC σ r b f e w tm) (fun _ => 1) 0 (e + 1) < L → Q (-1) σ) → wp_X12_startOf Q σ (nI r) (nI e) := fun Q h1 h2 => go Q ⟨e + 1 + 1, by
          have := rst_c (Q := Q) (f := f) hP ex eL hL1 hL2 h1 h2 (e + 1) (Nat.le_refl _) hnow (-1) (-1) (Or.inr ⟨rfl, by rw [z0]; omega⟩)
          rw [z0] at this
          exact this⟩
        by_cases hc : (L : Int) ≤ sS (wC σ r b f e w tm) (fun _ => 1) 0 (e + 1)
        · obtain ⟨o, o1, o2, o3, o4⟩ := cn_nth (C := wC σ r b f e w tm) (e := e) hL1 (e + 1) 0 (by omega) hc
          refine ⟨some o, Or.inr (Or.inr (Or.inl ⟨hi, ex, Or.inl ⟨o, rfl, o2, o3, by rw [eLi]; exact o4⟩⟩)), fun o' ho' => by cases ho'; exact o2, fun Q hQ => run Q (fun o' h1 h2 h4 => ?_) (fun q => absurd hc (by omega))⟩
          have : o' = o := by
            by_cases c1 : o' < o
            · exact absurd o4 (cn_uni c1 o2 h2 h4)
            · by_cases c2 : o < o'
              · exact absurd h4 (cn_uni c2 h1 o3 o4)
              · omega
          rw [this]; exact hQ
        · refine ⟨none, Or.inr (Or.inr (Or.inl ⟨hi, ex, Or.inr ⟨rfl, by rw [eLi]; omega⟩⟩)), fun o ho => (nomatch ho), fun Q hQ => run Q (fun o' h1 h2 h4 => ?_) (fun _ => hQ)⟩
          exfalso
          have := cn_mono (C := wC σ r b f e w tm) (e := e) o' 0 (by omega)
          rw [Nat.zero_add, Nat.sub_zero] at this
          omega
      · obtain ⟨L, hL1, hL2, eL⟩ := hL (by rw [ex]; decide) h3
        have eLi : (σ.2.2.1 39 b).toInt = (L : Int) := by rw [eL]; exact nI_toInt (by omega)
        have hpn : ∀ v, ¬ pV σ r b f e w tm (e + 1) v := fun v q => by obtain ⟨o, a1, a2, -⟩ := q; omega
        have z0 : sS (pV σ r b f e w tm (e + 1)) (fun _ => 1) 0 32000 = 0 := sS_zero 32000 (fun v _ _ => hpn v)
        have run : ∀ Q : Int32 → rf_S → Prop, ((L : Int) ≤ sS (pV σ r b f e w tm 0) (fun _ => 1) 0 32000 → Q (nI s) σ) → (¬ (L : Int) ≤ sS (pV σ r b f e w tm 0) (fun _ => 1) 0 32000 → Q (-1) σ) → wp_X12_startOf Q σ (nI r) (nI e) := fun Q h1 h2 => go Q ⟨e + 1 + 1, by
          have := rst_d (Q := Q) (f := f) hP ex eL (by omega) hM hV hCe (fun o _ a2 a3 a4 => by rw [hsu o a2 a3]; exact h1 a4) h2 (e + 1) (Nat.le_refl _) hnow σ ⟨rfl, rfl, fun _ _ => rfl, rfl⟩ (fun v => ⟨fun q => absurd q (hpn v), fun _ => hM v⟩) (-1) (-1) (Or.inr (fun y a1 a2 => absurd a1 (by omega)))
          rw [z0] at this
          exact this⟩
        by_cases hc : (L : Int) ≤ sS (pV σ r b f e w tm 0) (fun _ => 1) 0 32000
        · exact ⟨some s, Or.inr (Or.inr (Or.inr ⟨hi, Or.inl ex, Or.inl ⟨s, rfl, hse, hs1, hs2, fun q => absurd (ex.symm.trans q) (by decide), fun _ => by rw [eLi]; exact hc⟩⟩)), fun o' ho' => by cases ho'; exact hse, fun Q hQ => run Q (fun _ => hQ) (fun q => absurd hc q)⟩
        · exact ⟨none, Or.inr (Or.inr (Or.inr ⟨hi, Or.inl ex, Or.inr ⟨rfl, fun q => absurd (ex.symm.trans q) (by decide), fun _ => by rw [eLi]; exact hc⟩⟩)), fun o ho => (nomatch ho), fun Q hQ => run Q (fun q => absurd q hc) (fun _ => hQ)⟩
      · have z0 : sS (wC σ r b f e w tm) (vS σ b) (e + 1) (e + 1 - (e + 1)) = 0 := by rw [Nat.sub_self]; rfl
        have run : ∀ Q : Int32 → rf_S → Prop, ((σ.2.2.1 39 b).toInt ≤ sS (wC σ r b f e w tm) (vS σ b) 0 (e + 1) → Q (nI s) σ) → (¬ (σ.2.2.1 39 b).toInt ≤ sS (wC σ r b f e w tm) (vS σ b) 0 (e + 1) → Q (-1) σ) → wp_X12_startOf Q σ (nI r) (nI e) := fun Q h1 h2 => go Q ⟨e + 1 + 1, by
          have := rst_s (Q := Q) (f := f) hP ex rfl hCe (fun o _ a2 a3 a4 => by rw [hsu o a2 a3]; exact h1 a4) h2 (e + 1) (Nat.le_refl _) hnow (-1) (-1) (Or.inr (fun y a1 a2 => absurd a1 (by omega)))
          rw [z0] at this
          exact this⟩
        by_cases hc : (σ.2.2.1 39 b).toInt ≤ sS (wC σ r b f e w tm) (vS σ b) 0 (e + 1)
        · exact ⟨some s, Or.inr (Or.inr (Or.inr ⟨hi, Or.inr ex, Or.inl ⟨s, rfl, hse, hs1, hs2, fun _ => hc, fun q => absurd (ex.symm.trans q) (by decide)⟩⟩)), fun o' ho' => by cases ho'; exact hse, fun Q hQ => run Q (fun _ => hQ) (fun q => absurd hc q)⟩
        · exact ⟨none, Or.inr (Or.inr (Or.inr ⟨hi, Or.inr ex, Or.inr ⟨rfl, fun _ => hc, fun q => absurd (ex.symm.trans q) (by decide)⟩⟩)), fun o ho => (nomatch ho), fun Q hQ => run Q (fun q => absurd q hc) (fun _ => hQ)⟩
    · exact ⟨none, Or.inr (Or.inl ⟨h3, hi, rfl⟩), fun o ho => (nomatch ho), fun Q hQ => enter Q (fun _ => rhi h32 hbk hr hbb (by omega) hm h9 (fun q => absurd q hi) (fun _ => ⟨fun q => absurd rfl q, fun _ => hQ⟩)) (fun q => absurd q h3)⟩
