/-! ===== the reference alone: different values ===== -/
theorem sS_upd {P P' : Nat → Prop} {v0 N : Nat} (hv : v0 < N) (h : ∀ x, x ≠ v0 → (P x ↔ P' x)) (h0 : ¬ P v0) (h1 : P' v0) : sS P' (fun _ => 1) 0 N = sS P (fun _ => 1) 0 N + 1 := by
  rw [show N = v0 + ((N - v0 - 1) + 1) from by omega, sS_app, sS_app (P := P), sS_down, sS_down, one_y (by rw [Nat.zero_add]; exact h1), one_n (by rw [Nat.zero_add]; exact h0)]
  rw [sS_cong (P := P') (P' := P) (v' := fun _ => 1) v0 (fun x _ hx => ⟨(h x (by omega)).symm, fun _ => rfl⟩), sS_cong (lo := 0 + v0 + 1) (P := P') (P' := P) (v' := fun _ => 1) (N - v0 - 1) (fun x hx _ => ⟨(h x (by omega)).symm, fun _ => rfl⟩)]
  simp only [Int.natCast_one, Int.one_mul, Int.natCast_zero, Int.zero_mul]
  omega
/-- nothing but the row of values met changes -/
def l68 (σ σ' : rf_S) : Prop := σ'.1 = σ.1 ∧ σ'.2.1 = σ.2.1 ∧ (∀ k, k ≠ 68 → σ'.2.2.1 k = σ.2.2.1 k) ∧ σ'.2.2.2 = σ.2.2.2
theorem l68.ua {σ σ1 : rf_S} (h : l68 σ σ1) {j : Nat} {x : Int32} : l68 σ (rf_ua σ1 68 j x) := ⟨h.1, h.2.1, fun k e => by rw [← h.2.2.1 k e]; exact funext fun m => by rw [r3ua, if_neg (fun q => e q.1)], h.2.2.2⟩
theorem l68.fo {σ σ' : rf_S} (h : l68 σ σ') {e : Nat} {n : Int64} : fO σ' e n = fO σ e n := by
  unfold fO mN
  rw [h.2.2.1 9 (by decide), h.2.2.2]
theorem l68.cc {σ σ' : rf_S} (h : l68 σ σ') {r b f o : Nat} : cC σ' r b f o ↔ cC σ r b f o := by
  unfold cC hI
  rw [h.2.2.1 63 (by decide), h.2.2.1 64 (by decide), h.2.2.1 38 (by decide), h.2.2.1 14 (by decide), h.2.2.2, h.fo]
theorem l68.sp {σ σ' : rf_S} (h : l68 σ σ') {r b bk e w : Nat} {tm : Nat → Nat} (g : sP σ r b bk e w tm) : sP σ' r b bk e w tm := by
  unfold sP at g ⊢
  rw [h.1, h.2.2.1 44 (by decide), h.2.2.1 8 (by decide), h.2.2.1 9 (by decide)]
  exact g
/-- back to where it was -/
theorem l68.back {σ σ' : rf_S} (h : l68 σ σ') (h0 : ∀ v, σ.2.2.1 68 v = 0) (h1 : ∀ v, σ'.2.2.1 68 v = 0) : σ' = σ := by
  refine Prod.ext h.1 (Prod.ext h.2.1 (Prod.ext (funext fun k => ?_) h.2.2.2))
  by_cases e : k = 68
  · subst e
    exact funext fun v => (h1 v).trans (h0 v).symm
  · exact h.2.2.1 k e
/-- the number of the value that event o brings -/
def vV (σ : rf_S) (b o : Nat) : Nat := match fO σ o (σ.2.2.2 36 b) with
  | some k => nn (σ.2.2.1 17 (8 * o + k))
  | none => 0
/-- value v is there, from t on -/
def pV (σ : rf_S) (r b f e w : Nat) (tm : Nat → Nat) (t v : Nat) : Prop := ∃ o, t ≤ o ∧ o ≤ e ∧ wC σ r b f e w tm o ∧ vV σ b o = v
section STD
variable {σ : rf_S} {r b bk e w f : Nat} {tm : Nat → Nat} {Q : Int32 → rf_S → Prop}
theorem rst_d {L : Nat} (hP : sP σ r b bk e w tm) (hwh : σ.2.2.1 38 b = 1) (hL : σ.2.2.1 39 b = nI L) (hL2 : L < 2 ^ 31) (hM : ∀ v, σ.2.2.1 68 v = 0) (hV : ∀ o k, o ≤ e → fO σ o (σ.2.2.2 36 b) = some k → ∃ v, v < 32000 ∧ σ.2.2.1 17 (8 * o + k) = nI v) (hCe : wC σ r b f e w tm e)
    (hy : ∀ o, o ≤ e → wC σ r b f e w tm o → (∀ x, x < o → ¬ wC σ r b f e w tm x) → (L : Int) ≤ sS (pV σ r b f e w tm 0) (fun _ => 1) 0 32000 → Q (nI o) σ) (hn : ¬ (L : Int) ≤ sS (pV σ r b f e w tm 0) (fun _ => 1) 0 32000 → Q (-1) σ) :
    ∀ t, t ≤ e + 1 → (∀ o, t ≤ o → o ≤ e → tm e < tm o + w) → ∀ (σc : rf_S), l68 σ σc → (∀ v, (pV σ r b f e w tm t v → σc.2.2.1 68 v = 1) ∧ (¬ pV σ r b f e w tm t v → σc.2.2.1 68 v = 0)) → ∀ x7 x8 : Int32, ((∃ o, t ≤ o ∧ o ≤ e ∧ wC σ r b f e w tm o ∧ (∀ x, t ≤ x → x < o → ¬ wC σ r b f e w tm x) ∧ x7 = nI o) ∨ ∀ x, t ≤ x → x ≤ e → ¬ wC σ r b f e w tm x) → w_X12_startOf_64 Q (t + 1) σc (nI r) (nI e) (nI b) (nI f) (Int64.ofInt (sS (pV σ r b f e w tm t) (fun _ => 1) 0 32000)) x7 x8 (nI t - 1) := by
  obtain ⟨h32, hbk, hr, hbb, he, hw, hw2, hev, hmono⟩ := id hP
  have hb24 : b < 24 := by omega
  have i38 : vp_in (nI b) (rf_n 38) := nI_in (N := 24) hb24 (by decide)
  have i39 : vp_in (nI b) (rf_n 39) := nI_in (N := 24) hb24 (by decide)
  have i36 : vp_in (nI b) (rf_n 36) := nI_in (N := 24) hb24 (by decide)
  have hbd : ∀ t, -(2 ^ 62) < sS (pV σ r b f e w tm t) (fun _ => 1) 0 32000 ∧ sS (pV σ r b f e w tm t) (fun _ => 1) 0 32000 < 2 ^ 62 - 1 := by
    intro t
    have h2 := sS_bd (P := pV σ r b f e w tm t) (v := fun _ => 1) (lo := 0) (B := 1) (by decide) (fun _ _ => by decide) 32000
    omega
  -- the value of an event that counts
  have hval : ∀ o, o ≤ e → cC σ r b f o → ∃ k, fO σ o (σ.2.2.2 36 b) = some k ∧ σ.2.2.1 17 (8 * o + k) = nI (vV σ b o) ∧ vV σ b o < 32000 ∧ k < 8 := by
    intro o ho hc
    rcases hc.2.2 with z | ⟨k, hk, -⟩
    · exact absurd hwh z.1
    · obtain ⟨v, hv1, hv2⟩ := hV o k ho hk
      obtain ⟨-, -, m, hm, h9⟩ := hev o ho
      have hk8 := fO_lt h9 hm hk
      have : vV σ b o = v := by unfold vV; rw [hk]; show nn (σ.2.2.1 17 (8 * o + k)) = v; rw [hv2]; exact nn_nI (by omega)
      rw [this]
      exact ⟨k, hk, hv2, hv1, by omega⟩
  -- the end, at t
  have fin : ∀ t, t ≤ e + 1 → (∀ x, x < t → ¬ tm e < tm x + w) → (∀ o, t ≤ o → o ≤ e → tm e < tm o + w) → ∀ (σc : rf_S), l68 σ σc → (∀ v, (pV σ r b f e w tm t v → σc.2.2.1 68 v = 1) ∧ (¬ pV σ r b f e w tm t v → σc.2.2.1 68 v = 0)) → ∀ x7 x8 : Int32, ((∃ o, t ≤ o ∧ o ≤ e ∧ wC σ r b f e w tm o ∧ (∀ x, t ≤ x → x < o → ¬ wC σ r b f e w tm x) ∧ x7 = nI o) ∨ ∀ x, t ≤ x → x ≤ e → ¬ wC σ r b f e w tm x) → w_X12_startOf_243 Q σc (nI r) (nI e) (nI b) (nI f) (Int64.ofInt (sS (pV σ r b f e w tm t) (fun _ => 1) 0 32000)) x7 x8 := by
    intro t ht hlow hin σc hl hm68 x7 x8 h7
    have hz : sS (pV σ r b f e w tm 0) (fun _ => 1) 0 32000 = sS (pV σ r b f e w tm t) (fun _ => 1) 0 32000 := by
      refine sS_cong 32000 (fun v _ _ => ⟨⟨fun ⟨o, a1, a2, a3, a4⟩ => ⟨o, ?_, a2, a3, a4⟩, fun ⟨o, a1, a2, a3, a4⟩ => ⟨o, Nat.zero_le _, a2, a3, a4⟩⟩, fun _ => rfl⟩)
      by_cases c : t ≤ o
      · exact c
      · exact absurd a3.2 (hlow o (by omega))
    have hex : ∃ s, t ≤ s ∧ s ≤ e ∧ wC σ r b f e w tm s ∧ (∀ x, t ≤ x → x < s → ¬ wC σ r b f e w tm x) ∧ x7 = nI s := by
      rcases h7 with h7 | h7
      · exact h7
      · exfalso
        by_cases c : t ≤ e
        · exact absurd hCe (h7 e c (Nat.le_refl _))
        · exact absurd hCe.2 (hlow e (by omega))
    obtain ⟨s, s1, s2, s3, s4, s5⟩ := hex
    have e38 : σc.2.2.1 38 = σ.2.2.1 38 := hl.2.2.1 38 (by decide)
    -- clearing, from u on
    have clear : ∀ u, u ≤ e + 1 → s ≤ u → ∀ (σc : rf_S), l68 σ σc → (∀ v, (pV σ r b f e w tm t v ∧ ¬ pV σ r b f e w tm u v → σc.2.2.1 68 v = 1) ∧ (¬ (pV σ r b f e w tm t v ∧ ¬ pV σ r b f e w tm u v) → σc.2.2.1 68 v = 0)) → w_X12_startOf_256 Q (u + 1) σc (nI r) (nI b) (nI f) (Int64.ofInt (sS (pV σ r b f e w tm t) (fun _ => 1) 0 32000)) (nI s) x8 (nI u - 1) := by
      intro u
      induction u with
      | zero =>
        intro _ hsu σc hl hm
        have hs0 : s = 0 := by omega
        have ht0 : t = 0 := by omega
        have hback : σc = σ := hl.back hM (fun v => (hm v).2 (fun q => q.2 (by rw [ht0] at q; exact q.1)))
        rw [hback]
        refine ⟨fun _ => ⟨i39, ?_⟩, fun hc => absurd (by rw [hs0]; decide) hc⟩
        rw [nI_clamp (by omega), hL, hwh, lg_z (hbd t).1 (by have := (hbd t).2; omega), nI_toInt hL2, ← hz]
        exact ⟨fun hc => ⟨i38, fun _ => hy s s2 s3 (fun x hx => absurd hx (by omega)) hc, fun q => absurd q (by decide)⟩, fun hc => hn hc⟩
      | succ u ihu =>
        intro hu hsu σc hl hm
        rw [nI_pred]
        by_cases hus : u < s
        · have hsu' : s = u + 1 := by omega
          have hback : σc = σ := hl.back hM (fun v => (hm v).2 (fun ⟨⟨o, a1, a2, a3, a4⟩, q⟩ => q ⟨o, by
            by_cases c : u + 1 ≤ o
            · exact c
            · exact absurd a3 (s4 o a1 (by omega)), a2, a3, a4⟩))
          rw [hback]
          refine ⟨fun _ => ⟨i39, ?_⟩, fun hc => absurd (nI_lt hus (by omega)) hc⟩
          rw [nI_clamp (by omega), hL, hwh, lg_z (hbd t).1 (by have := (hbd t).2; omega), nI_toInt hL2, ← hz]
          refine ⟨fun hc => ⟨i38, fun _ => hy s s2 s3 (fun x hx q => ?_) hc, fun q => absurd q (by decide)⟩, fun hc => hn hc⟩
          by_cases c : t ≤ x
          · exact s4 x c hx q
          · exact hlow x (by omega) q.2
        · obtain ⟨-, -, m, hm8, h9⟩ := hev u (by omega)
          refine ⟨fun hc => absurd hc (nI_nlt (by omega) (by omega)), fun _ => rct (σ := σc) (by rw [hl.1]; exact h32) hbk hr hbb (by omega) hm8 (by rw [hl.2.2.1 9 (by decide)]; exact h9) (fun hcc => ⟨fun q => absurd q (by decide), fun _ => ⟨i36, ?_⟩⟩) (fun hcc => ⟨fun _ => ?_, fun q => absurd rfl q⟩)⟩
          · have hcu : cC σ r b f u := hl.cc.mp hcc
            have hWu : wC σ r b f e w tm u := ⟨hcu, hin u (by omega) (by omega)⟩
            obtain ⟨k, hk, e17, hv, hk8⟩ := hval u (by omega) hcu
            rw [nI_clamp (by omega), hl.2.2.2]
            refine rfo (by omega) (by rw [hl.2.2.1 9 (by decide)]; exact h9) hm8 ?_
            rw [hl.fo, hk]
            show vp_in (nI (8 * u + k)) (rf_n 17) ∧ vp_in (σc.2.2.1 17 (nI (8 * u + k)).toNatClampNeg) (rf_n 68) ∧ w_X12_startOf_256 Q (u + 1) (rf_ua σc 68 (σc.2.2.1 17 (nI (8 * u + k)).toNatClampNeg).toNatClampNeg (vp_nar .boolean 0)) (nI r) (nI b) (nI f) _ (nI s) x8 (nI u + (-1))
            rw [nI_clamp (by omega), hl.2.2.1 17 (by decide), e17, nI_clamp (by omega), narb0, nI_m1]
            refine ⟨nI_in (N := 32008) (by omega) (by decide), nI_in (N := 32000) hv (by decide), ihu (by omega) (by omega) _ hl.ua (fun v => ?_)⟩
            have hpu : pV σ r b f e w tm u (vV σ b u) := ⟨u, Nat.le_refl _, by omega, hWu, rfl⟩
            rw [r3ua]
            by_cases ev : v = vV σ b u
            · rw [if_pos ⟨rfl, ev⟩]
              exact ⟨fun q => absurd (by rw [ev]; exact hpu) q.2, fun _ => rfl⟩
            · rw [if_neg (fun q => ev q.2)]
              have hiff : pV σ r b f e w tm u v ↔ pV σ r b f e w tm (u + 1) v := by
                constructor
                · rintro ⟨o, a1, a2, a3, a4⟩
                  refine ⟨o, ?_, a2, a3, a4⟩
                  by_cases eo : o = u
                  · rw [eo] at a4; exact absurd a4.symm ev
                  · omega
                · rintro ⟨o, a1, a2, a3, a4⟩
                  exact ⟨o, by omega, a2, a3, a4⟩
              rw [hiff]
              exact hm v
          · have hcu : ¬ cC σ r b f u := fun q => hcc (hl.cc.mpr q)
            show w_X12_startOf_256 Q (u + 1) σc (nI r) (nI b) (nI f) _ (nI s) x8 (nI u + (-1))
            rw [nI_m1]
            have hsu2 : s ≤ u := by omega
            refine ihu (by omega) hsu2 σc hl (fun v => ?_)
            have hiff : pV σ r b f e w tm u v ↔ pV σ r b f e w tm (u + 1) v := by
              constructor
              · rintro ⟨o, a1, a2, a3, a4⟩
                refine ⟨o, ?_, a2, a3, a4⟩
                by_cases eo : o = u
                · rw [eo] at a3; exact absurd a3.1 hcu
                · omega
              · rintro ⟨o, a1, a2, a3, a4⟩
                exact ⟨o, by omega, a2, a3, a4⟩
            rw [hiff]
            exact hm v
    refine ⟨i38, fun hc => ?_, fun _ => ⟨e + 2, ?_⟩⟩
    · rw [nI_clamp (by omega), e38] at hc; exact absurd hwh hc
    · have := clear (e + 1) (Nat.le_refl _) (by omega) σc hl (fun v => ⟨fun q => (hm68 v).1 q.1, fun q => (hm68 v).2 (fun z => q ⟨z, fun z2 => by obtain ⟨o, a1, a2, -⟩ := z2; omega⟩)⟩)
      rw [nI_pred] at this
      rw [s5]
      exact this
  intro t
  induction t with
  | zero =>
    intro _ hin σc hl hm68 x7 x8 h8
    exact ⟨fun _ => fin 0 (by omega) (fun x hx => absurd hx (by omega)) hin σc hl hm68 x7 x8 h8, fun hc => absurd (by decide) hc⟩
  | succ t ih =>
    intro ht hin σc hl hm68 x7 x8 h7
    obtain ⟨t1, t2, m, hm, h9⟩ := hev t (by omega)
    obtain ⟨t3, t4, -⟩ := hev e (Nat.le_refl _)
    rw [nI_pred]
    refine ⟨fun hc => absurd hc (nI_pos (by omega)), fun _ => ⟨nI_in (N := 4001) (by omega) (by decide), nI_in (N := 4001) (by omega) (by decide), nI_in (N := 24) hb24 (by decide), ?_⟩⟩
    rw [nI_clamp (by omega : t < 2 ^ 31), nI_clamp (by omega : e < 2 ^ 31), nI_clamp (by omega : b < 2 ^ 31), hl.2.2.1 8 (by decide), hl.2.2.1 44 (by decide), t1, t3, hw, tcmp t2 t4 hw2]
    refine ⟨fun hc => fin (t + 1) ht (fun x hx q => ?_) hin σc hl hm68 x7 x8 h7, fun hc => rct (σ := σc) (by rw [hl.1]; exact h32) hbk hr hbb (by omega) hm (by rw [hl.2.2.1 9 (by decide)]; exact h9) (fun hcc => ⟨fun _ => ⟨i38, fun _ => ⟨i36, ?_⟩, fun q => ?_⟩, fun q => absurd q (by decide)⟩) (fun hcc => ⟨fun q => absurd rfl q, fun _ => ?_⟩)⟩
    · have := hmono x t (by omega) (by omega)
      omega
    · have hct : cC σ r b f t := hl.cc.mp hcc
      have hC : wC σ r b f e w tm t := ⟨hct, by omega⟩
      have hin' : ∀ o, t ≤ o → o ≤ e → tm e < tm o + w := fun o h1 h2 => by
        by_cases eo : o = t
        · rw [eo]; omega
        · exact hin o (by omega) h2
      obtain ⟨k, hk, e17, hv, hk8⟩ := hval t (by omega) hct
      have h7' : (∃ o, t ≤ o ∧ o ≤ e ∧ wC σ r b f e w tm o ∧ (∀ x, t ≤ x → x < o → ¬ wC σ r b f e w tm x) ∧ nI t = nI o) ∨ ∀ x, t ≤ x → x ≤ e → ¬ wC σ r b f e w tm x := Or.inl ⟨t, Nat.le_refl _, by omega, hC, fun x a b => absurd b (by omega), rfl⟩
      rw [hl.2.2.2]
      refine rfo (by omega) (by rw [hl.2.2.1 9 (by decide)]; exact h9) hm ?_
      rw [hl.fo, hk]
      refine ⟨i38, fun _ => ⟨i38, fun _ => ?_, fun q => ?_⟩, fun q => ?_⟩
      · show vp_in (nI (8 * t + k)) (rf_n 17) ∧ vp_in (σc.2.2.1 17 (nI (8 * t + k)).toNatClampNeg) (rf_n 68) ∧ (¬ σc.2.2.1 68 (σc.2.2.1 17 (nI (8 * t + k)).toNatClampNeg).toNatClampNeg = 0 → w_X12_startOf_64 Q (t + 1) σc (nI r) (nI e) (nI b) (nI f) _ (nI t) x8 (nI t + (-1))) ∧ (σc.2.2.1 68 (σc.2.2.1 17 (nI (8 * t + k)).toNatClampNeg).toNatClampNeg = 0 → vp_in (nI (8 * t + k)) (rf_n 17) ∧ vp_in (σc.2.2.1 17 (nI (8 * t + k)).toNatClampNeg) (rf_n 68) ∧ w_X12_startOf_64 Q (t + 1) (rf_ua σc 68 (σc.2.2.1 17 (nI (8 * t + k)).toNatClampNeg).toNatClampNeg (vp_nar .boolean 1)) (nI r) (nI e) (nI b) (nI f) (_ + 1) (nI t) x8 (nI t + (-1)))
        rw [nI_clamp (by omega), hl.2.2.1 17 (by decide), e17, nI_clamp (by omega), narb1, nI_m1, z_1]
        have iv : vp_in (nI (vV σ b t)) (rf_n 68) := nI_in (N := 32000) hv (by decide)
        have ik : vp_in (nI (8 * t + k)) (rf_n 17) := nI_in (N := 32008) (by omega) (by decide)
        have hother : ∀ v, v ≠ vV σ b t → (pV σ r b f e w tm (t + 1) v ↔ pV σ r b f e w tm t v) := by
          intro v hvne
          constructor
          · rintro ⟨o, a1, a2, a3, a4⟩; exact ⟨o, by omega, a2, a3, a4⟩
          · rintro ⟨o, a1, a2, a3, a4⟩
            refine ⟨o, ?_, a2, a3, a4⟩
            by_cases eo : o = t
            · rw [eo] at a4; exact absurd a4.symm hvne
            · omega
        have hpt : pV σ r b f e w tm t (vV σ b t) := ⟨t, Nat.le_refl _, by omega, hC, rfl⟩
        refine ⟨ik, iv, fun hq => ?_, fun hq => ⟨ik, iv, ?_⟩⟩
        · have hp1 : pV σ r b f e w tm (t + 1) (vV σ b t) := by
            apply Classical.byContradiction
            intro z
            exact hq ((hm68 _).2 z)
          have hiff : ∀ v, pV σ r b f e w tm (t + 1) v ↔ pV σ r b f e w tm t v := fun v => by
            by_cases ev : v = vV σ b t
            · rw [ev]; exact ⟨fun _ => hpt, fun _ => hp1⟩
            · exact hother v ev
          have hst : sS (pV σ r b f e w tm (t + 1)) (fun _ => 1) 0 32000 = sS (pV σ r b f e w tm t) (fun _ => 1) 0 32000 := sS_cong 32000 (fun v _ _ => ⟨hiff v, fun _ => rfl⟩)
          rw [hst]
          exact ih (by omega) hin' σc hl (fun v => by rw [← hiff v]; exact hm68 v) (nI t) x8 h7'
        · have hp1 : ¬ pV σ r b f e w tm (t + 1) (vV σ b t) := by
            intro z
            rw [(hm68 _).1 z] at hq
            exact absurd hq (by decide)
          have hst : sS (pV σ r b f e w tm t) (fun _ => 1) 0 32000 = sS (pV σ r b f e w tm (t + 1)) (fun _ => 1) 0 32000 + 1 := sS_upd hv hother hp1 hpt
          rw [← hst]
          refine ih (by omega) hin' _ hl.ua (fun v => ?_) (nI t) x8 h7'
          rw [r3ua]
          by_cases ev : v = vV σ b t
          · rw [if_pos ⟨rfl, ev⟩]
            exact ⟨fun _ => rfl, fun z => absurd (by rw [ev]; exact hpt) z⟩
          · rw [if_neg (fun q => ev q.2), ← hother v ev]
            exact hm68 v
      · rw [nI_clamp (by omega), hl.2.2.1 38 (by decide), hwh] at q; exact absurd q (by decide)
      · rw [nI_clamp (by omega), hl.2.2.1 38 (by decide), hwh] at q; exact absurd q (by decide)
    · rw [hl.2.2.1 38 (by decide), hwh] at q; exact absurd q (by decide)
    · have hct : ¬ cC σ r b f t := fun q => hcc (hl.cc.mpr q)
      have hiff : ∀ v, pV σ r b f e w tm (t + 1) v ↔ pV σ r b f e w tm t v := by
        intro v
        constructor
        · rintro ⟨o, a1, a2, a3, a4⟩; exact ⟨o, by omega, a2, a3, a4⟩
        · rintro ⟨o, a1, a2, a3, a4⟩
          refine ⟨o, ?_, a2, a3, a4⟩
          by_cases eo : o = t
          · rw [eo] at a3; exact absurd a3.1 hct
          · omega
      have hst : sS (pV σ r b f e w tm (t + 1)) (fun _ => 1) 0 32000 = sS (pV σ r b f e w tm t) (fun _ => 1) 0 32000 := sS_cong 32000 (fun v _ _ => ⟨hiff v, fun _ => rfl⟩)
      show w_X12_startOf_64 Q (t + 1) σc (nI r) (nI e) (nI b) (nI f) _ x7 x8 (nI t + (-1))
      rw [nI_m1, hst]
      refine ih (by omega) (fun o h1 h2 => ?_) σc hl (fun v => by rw [← hiff v]; exact hm68 v) x7 x8 ?_
      · by_cases eo : o = t
        · rw [eo]; omega
        · exact hin o (by omega) h2
      · rcases h7 with ⟨o, h1, h2, h3, h4, h5⟩ | h5
        · refine Or.inl ⟨o, by omega, h2, h3, fun x a1 a2 => ?_, h5⟩
          by_cases ex : x = t
          · rw [ex]; exact fun q => hct q.1
          · exact h4 x (by omega) a2
        · refine Or.inr (fun x a1 a2 => ?_)
          by_cases ex : x = t
          · rw [ex]; exact fun q => hct q.1
          · exact h5 x (by omega) a2
end STD
