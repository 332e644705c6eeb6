/-! ===== the reference makes an event: its fields ===== -/
def mkI (σ0 σk : rf_S) (te b fr e kk nv nvk : Nat) (π : Nat → Nat) : Prop :=
  (nT σk te nvk ∧ (∀ v, v < nvk → fF σk v < 8 * e + kk) ∧ nv ≤ nvk ∧ nvk ≤ nv + kk) ∧
  (∀ k, k ≠ 26 → σk.1 k = σ0.1 k) ∧ σk.2.1 = σ0.2.1 ∧ (∀ k j, k ≠ 25 → (k = 14 ∨ k = 15 ∨ k = 16 ∨ k = 17 → j < 8 * e ∨ 8 * e + kk ≤ j) → (k = 24 → j < nv) → σk.2.2.1 k j = σ0.2.2.1 k j) ∧ (∀ k j, (k = 13 → j < 8 * e ∨ 8 * e + kk ≤ j) → σk.2.2.2 k j = σ0.2.2.2 k j) ∧
  ∀ j, j < kk → σk.2.2.2 13 (8 * e + j) = σ0.2.2.2 37 (3 * b + π j) ∧ (∃ i, fO σ0 fr (σ0.2.2.2 37 (3 * b + π j)) = some i ∧ σk.2.2.1 14 (8 * e + j) = σ0.2.2.1 14 (8 * fr + i) ∧ σk.2.2.1 15 (8 * e + j) = σ0.2.2.1 15 (8 * fr + i) ∧ σk.2.2.1 16 (8 * e + j) = σ0.2.2.1 16 (8 * fr + i)) ∧ vW σk te (8 * e + j) ∧ ∃ w, w < nvk ∧ σk.2.2.1 17 (8 * e + j) = nI w ∧ vC σk (fF σk w) = vC σk (8 * e + j)
theorem mvF.vc {to nv g : Nat} {σ σ' : rf_S} (h : mvF to nv σ σ') (hg : g ≠ to) : vC σ' g = vC σ g := by
  rw [vCd, vCd, h.2.2.1 14 g (by decide) (fun _ => hg) (by omega), h.2.2.1 15 g (by decide) (fun _ => hg) (by omega), h.2.2.1 16 g (by decide) (fun _ => hg) (by omega)]
  refine Prod.ext rfl (Prod.ext rfl (funext fun k => ?_))
  show (if _ then _ else _) = (if _ then _ else _)
  rw [h.2.2.1 18 _ (by decide) (by omega) (by omega)]
theorem fI_s {e k : Nat} : fI e (some k) = nI (8 * e + k) := rfl
section MK8
variable {σ0 : rf_S} {te b r fr e n nv : Nat} {π : Nat → Nat} {post : rf_S → Prop}
theorem mk_89 (hb : b < 24) (he : e < 4000) (hfe : fr < e) (hte : te ≤ 24000) (h43 : σ0.2.2.1 43 b = nI n) (hn3 : n ≤ 3) (hs : srt (fun i => σ0.2.2.2 37 (3 * b + i)) n π) (hd : ∀ i j, i < n → j < n → σ0.2.2.2 37 (3 * b + i) = σ0.2.2.2 37 (3 * b + j) → i = j) (hnv : nv ≤ 8 * e) (hkh : kH σ0 b n fr) {m : Nat} (hm : σ0.2.2.1 9 fr = nI m) (hm8 : m ≤ 8) (hvW : ∀ k, k < m → vW σ0 te (8 * fr + k)) : ∀ d kk (σk : rf_S) (nvk : Nat), kk + d = n → mkI σ0 σk te b fr e kk nv nvk π → ∃ σ1 nv1, mkI σ0 σ1 te b fr e n nv nv1 π ∧ ∀ Q : rf_S → Prop, wp_X12_looked Q σ1 (nI e) (nI r + 1) → w_X12_makes_89 Q (d + 1) σk (nI r) (nI fr) (nI b) (nI e) (nI kk) := by
  have i43 : vp_in (nI b) (rf_n 43) := nI_in (N := 24) hb (by decide)
  have c43 : (nI b).toNatClampNeg = b := nI_clamp (by omega)
  intro d
  induction d with
  | zero =>
    intro kk σk nvk hk hI
    have hkn : kk = n := by omega
    subst hkn
    refine ⟨σk, nvk, hI, fun Q hQ => ⟨i43, fun _ => hQ, fun z => ?_⟩⟩
    have e43 : σk.2.2.1 43 b = nI kk := by rw [hI.2.2.2.1 43 b (by decide) (by omega) (by omega)]; exact h43
    rw [c43, e43] at z
    exact absurd (nI_le (Nat.le_refl _) (by omega)) z
  | succ d ih =>
    intro kk σk nvk hk hI
    obtain ⟨⟨t1, t2, t3, t4⟩, g1, g2, g3, g4, g5⟩ := id hI
    have e43 : σk.2.2.1 43 b = nI n := by rw [g3 43 b (by decide) (by omega) (by omega)]; exact h43
    have e37 : ∀ i, σk.2.2.2 37 i = σ0.2.2.2 37 i := fun i => g4 37 i (by omega)
    have hpk : π kk < n := hs.1 kk (by omega)
    obtain ⟨i, hi⟩ := hkh (π kk) hpk
    have hil := (fO_lt hm hm8 hi).1
    have e9 : σk.2.2.1 9 fr = nI m := by rw [g3 9 fr (by decide) (by omega) (by omega)]; exact hm
    have ffr : fO σk fr (σ0.2.2.2 37 (3 * b + π kk)) = some i := by
      rw [← hi]
      unfold fO mN
      rw [e9, hm, nI_clamp (by omega)]
      exact fdx_cong m 0 (fun j _ hj => by rw [g4 13 (8 * fr + j) (fun _ => Or.inl (by omega))])
    have hvf : vW σk te (8 * fr + i) := (hvW i hil).on (hvW i hil).1 (Nat.le_refl _) (g3 14 _ (by decide) (fun _ => Or.inl (by omega)) (by omega)) (g3 15 _ (by decide) (fun _ => Or.inl (by omega)) (by omega)) (g3 16 _ (by decide) (fun _ => Or.inl (by omega)) (by omega))
    obtain ⟨σ', w, nv', m1, m2, m3, m4, m5, m6, m7, m8, m9, m10, m11, m12, m13, m14, m15⟩ := rmv t1 t2 (by omega) hte hvf (to := 8 * e + kk) (by omega)
    obtain ⟨p1, p2, p3, p4⟩ := id m5
    have hI' : mkI σ0 σ' te b fr e (kk + 1) nv nv' π := by
      refine ⟨⟨m2, fun v hv => by have := m6 v hv; omega, by omega, by omega⟩, fun k hk' => (p1 k hk').trans (g1 k hk'), p2.trans g2, fun k j h1 h2 h3 => ?_, fun k j h1 => ?_, fun j hj => ?_⟩
      · rw [p3 k j h1 (fun z => by have := h2 z; omega) (fun z => by have := h3 z; omega)]
        exact g3 k j h1 (fun z => by have := h2 z; omega) h3
      · rw [p4 k j (fun z => by have := h1 z; omega)]
        exact g4 k j (fun z => by have := h1 z; omega)
      · by_cases c : j = kk
        · subst c
          refine ⟨?_, ⟨i, hi, ?_, ?_, ?_⟩, m11, w, m7, m8, m9⟩
          · rw [m12, g4 13 (8 * fr + i) (fun _ => Or.inl (by omega))]
            exact (fO_lt hm hm8 hi).2
          · rw [m13, g3 14 _ (by decide) (fun _ => Or.inl (by omega)) (by omega)]
          · rw [m14, g3 15 _ (by decide) (fun _ => Or.inl (by omega)) (by omega)]
          · rw [m15, g3 16 _ (by decide) (fun _ => Or.inl (by omega)) (by omega)]
        · obtain ⟨q1, ⟨i', q2, q3, q4, q5⟩, q6, w', q7, q8, q9⟩ := g5 j (by omega)
          have hne : 8 * e + j ≠ 8 * e + kk := by omega
          have r14 := p3 14 (8 * e + j) (by decide) (fun _ => hne) (by omega)
          have r15 := p3 15 (8 * e + j) (by decide) (fun _ => hne) (by omega)
          have r16 := p3 16 (8 * e + j) (by decide) (fun _ => hne) (by omega)
          have r17 := p3 17 (8 * e + j) (by decide) (fun _ => hne) (by omega)
          have eF : fF σ' w' = fF σk w' := by unfold fF; rw [p3 24 w' (by decide) (by omega) (fun _ => q7)]
          have hFw := t2 w' q7
          refine ⟨by rw [p4 13 _ (fun _ => hne)]; exact q1, ⟨i', q2, r14.trans q3, r15.trans q4, r16.trans q5⟩, q6.on q6.1 (Nat.le_refl _) r14 r15 r16, w', by omega, r17.trans q8, ?_⟩
          rw [eF, m5.vc (by omega), m5.vc hne]; exact q9
    obtain ⟨σ1, nv1, a1, a2⟩ := ih (kk + 1) σ' nv' (by omega) hI'
    refine ⟨σ1, nv1, a1, fun Q hQ => ⟨i43, fun z => ?_, fun _ => ⟨n + 1, ?_⟩⟩⟩
    · rw [c43, e43] at z
      exact absurd z (nI_ge (by omega) (by omega))
    · have hsk : srt (fun i => σk.2.2.2 37 (3 * b + i)) n π := by
        have : (fun i => σk.2.2.2 37 (3 * b + i)) = fun i => σ0.2.2.2 37 (3 * b + i) := funext fun i => e37 _
        rw [this]; exact hs
      refine mk_106 (post := Q) (kk := kk) hb he e43 hn3 (by omega) hsk (fun i j hi hj => by rw [e37, e37]; exact hd i j hi hj) (fun h0 => ?_) ?_ n 0 none (by omega) (fun i' h1 => absurd h1 (by omega))
      · rw [e37]; exact (g5 (kk - 1) (by omega)).1
      · rw [e37]
        refine rfo (by omega) e9 hm8 ?_
        rw [ffr, fI_s]
        exact m1 _ (a2 Q hQ)
end MK8
