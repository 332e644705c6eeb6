/-! ===== the reference alone: finds ===== -/
/-- hushed: one more -/
def fnH (σ : rf_S) (r kk h : Nat) : rf_S := rf_ui (rf_ua (rf_ua σ 67 r (σ.2.2.1 67 r + 1)) 66 kk (nI (h + 1))) 79 (σ.1 79 + 1)
/-- an alert, kept if it is one of the first 500 -/
def fnK (σ : rf_S) (r e t s kk h na : Nat) : rf_S := if na < 500 then rf_ua (rf_ua (rf_ua (rf_ua (rf_ua (rf_ua σ 67 r (σ.2.2.1 67 r + 1)) 73 na (nI r)) 77 na (nI t)) 74 na (nI s)) 75 na (nI e)) 76 na (nI h) else rf_ua σ 67 r (σ.2.2.1 67 r + 1)
def fnA (σ : rf_S) (r e t s kk h na ns : Nat) : rf_S := rf_ui (rf_ua (rf_ua (rf_ua (rf_ua (rf_ui (fnK σ r e t s kk h na) 78 (nI (na + 1))) 65 kk (nI t)) 66 kk 0) 81 ns (nI r)) 82 ns (nI e)) 83 (nI (ns + 1))
/-- not long enough after the last alert of the key -/
def hsh (σ : rf_S) (kk t q : Nat) : Prop := ∃ la, σ.2.2.1 65 kk = nI la ∧ la ≤ 2000000000 ∧ t < la + q
theorem fnK_1 {σ : rf_S} {r e t s kk h na : Nat} : (fnK σ r e t s kk h na).1 = σ.1 := by
  unfold fnK
  split <;> rfl
theorem rfn {σ : rf_S} {Q : rf_S → Prop} {r b bk e f t s h q na ns : Nat} (h32 : σ.1 32 = nI bk) (hbk : bk ≤ 1) (hr : r < 12) (hbb : b = 12 * bk + r) (he : e < 4000) (hf : f < 4000) (hs : s < 4000) (ht : t ≤ 2000000000) (hkey : σ.2.2.1 63 (4000 * r + e) = nI f) (hla : σ.2.2.1 65 (4000 * r + f) = -1 ∨ ∃ la, la ≤ 2000000000 ∧ σ.2.2.1 65 (4000 * r + f) = nI la) (hq : σ.2.2.1 45 b = nI q) (hq2 : q ≤ 1000000) (hh : σ.2.2.1 66 (4000 * r + f) = nI h) (hh2 : h < 32767) (h78 : σ.1 78 = nI na) (hna : na < 2 ^ 30) (h83 : σ.1 83 = nI ns) (hns : ns < 48000)
    (hH : hsh σ (4000 * r + f) t q → Q (fnH σ r (4000 * r + f) h)) (hA : ¬ hsh σ (4000 * r + f) t q → Q (fnA σ r e t s (4000 * r + f) h na ns)) : wp_X12_finds Q σ (nI r) (nI e) (nI t) (nI s) := by
  have hb24 : b < 24 := by omega
  have hkk : 4000 * r + f < 48000 := by omega
  have i65 : ∀ k, k = 65 ∨ k = 66 → vp_in (nI (4000 * r + f)) (rf_n k) := fun k hk => by rcases hk with rfl | rfl <;> exact nI_in (N := 48000) hkk (by decide)
  have i67 : vp_in (nI r) (rf_n 67) := nI_in (N := 12) hr (by decide)
  have h93 : ¬ hsh σ (4000 * r + f) t q → w_X12_finds_93 Q (rf_ua σ 67 r (σ.2.2.1 67 r + 1)) (nI r) (nI e) (nI t) (nI s) (nI (4000 * r + f)) := by
    intro hno
    have hQ := hA hno
    have h163 : ∀ σ2 : rf_S, σ2 = fnK σ r e t s (4000 * r + f) h na → w_X12_finds_163 Q σ2 (nI r) (nI e) (nI t) (nI (4000 * r + f)) := by
      intro σ2 e2
      have e1 : σ2.1 = σ.1 := by rw [e2]; exact fnK_1
      refine ⟨i65 65 (Or.inl rfl), i65 66 (Or.inr rfl), by rw [e1, h83]; exact nI_in (N := 48000) hns (by decide), by rw [e1, h83]; exact nI_in (N := 48000) hns (by decide), ?_⟩
      rw [e1, h78, h83, nI_clamp (by omega), nI_clamp (by omega), nI_1, nI_1, nar15 r (by omega), nar15 e (by omega), show vp_nar .short 0 = 0 from by decide, e2]
      exact hQ
    refine ⟨fun hc => h163 _ ?_, fun hc => ?_⟩
    · have hc' : (500 : Int32) ≤ σ.1 78 := hc
      rw [h78] at hc'
      have : 500 ≤ na := (nI_leI (a := 500) (by decide) (by omega)).mp hc'
      unfold fnK
      rw [if_neg (by omega)]
    · have hc' : ¬ (500 : Int32) ≤ σ.1 78 := hc
      rw [h78] at hc'
      have hlt : na < 500 := Nat.not_le.mp (fun z => hc' (nI_le (a := 500) z (by omega)))
      show vp_in (σ.1 78) _ ∧ vp_in (σ.1 78) _ ∧ vp_in (σ.1 78) _ ∧ vp_in (σ.1 78) _ ∧ vp_in _ _ ∧ vp_in (σ.1 78) _ ∧ w_X12_finds_163 Q (rf_ua (rf_ua (rf_ua (rf_ua (rf_ua (rf_ua σ 67 r (σ.2.2.1 67 r + 1)) 73 (σ.1 78).toNatClampNeg (vp_nar .short (nI r).toInt16.toInt32)) 77 (σ.1 78).toNatClampNeg (nI t)) 74 (σ.1 78).toNatClampNeg (vp_nar .short (nI s).toInt16.toInt32)) 75 (σ.1 78).toNatClampNeg (vp_nar .short (nI e).toInt16.toInt32)) 76 (σ.1 78).toNatClampNeg (vp_nar .short ((rf_ua σ 67 r (σ.2.2.1 67 r + 1)).2.2.1 66 (nI (4000 * r + f)).toNatClampNeg))) (nI r) (nI e) (nI t) (nI (4000 * r + f))
      rw [h78, nI_clamp (by omega), nI_clamp (by omega), r3ua, if_neg (fun z => absurd z.1 (by decide)), hh, nar15 r (by omega), nar15 s (by omega), nar15 e (by omega), nar15' (by omega)]
      refine ⟨nI_in (N := 500) hlt (by decide), nI_in (N := 500) hlt (by decide), nI_in (N := 500) hlt (by decide), nI_in (N := 500) hlt (by decide), i65 66 (Or.inr rfl), nI_in (N := 500) hlt (by decide), h163 _ ?_⟩
      unfold fnK
      rw [if_pos hlt]
  show vp_in _ _ ∧ _ ∧ _ ∧ _ ∧ _ ∧ _
  rw [n4k, nI_clamp (by omega : 4000 * r + e < 2 ^ 31), hkey, n4k, nI_clamp (by omega : 4000 * r + f < 2 ^ 31), nI_clamp (by omega : r < 2 ^ 31), h32, n12, ← hbb, nI_clamp (by omega : b < 2 ^ 31), hq, hh]
  refine ⟨i67, i67, nI_in (N := 48000) (by omega) (by decide), i65 65 (Or.inl rfl), fun hc => h93 (fun z => ?_), fun hc => ⟨i65 65 (Or.inl rfl), nI_in (N := 24) hb24 (by decide), ?_⟩⟩
  · obtain ⟨la, z1, z2, -⟩ := z
    rw [z1] at hc
    exact absurd hc (nI_pos (by omega))
  · rcases hla with z | ⟨la, z1, z2⟩
    · rw [z] at hc; exact absurd (by decide) hc
    · rw [z2, tcmp (by omega) (by omega) (by omega)]
      refine ⟨fun hd => h93 (fun z => ?_), fun hd => ⟨i65 66 (Or.inr rfl), i65 66 (Or.inr rfl), ?_⟩⟩
      · obtain ⟨la', y1, y2, y3⟩ := z
        rw [z2] at y1
        have := (nI_eq (by omega) (by omega)).mp y1
        omega
      · rw [nI_1, nar15 (h + 1) (by omega)]
        exact hH ⟨la, z2, z1, by omega⟩
