/-! ===== the reference alone: lacks, and what is found ===== -/
theorem s16 {x : Nat} (h : x < 32768) : (nI x).toInt16.toInt32 = nI x := by
  apply Int32.toInt_inj.mp
  rw [Int16.toInt_toInt32, Int32.toInt_toInt16, nI_toInt (by omega), Int.bmod_eq_of_le (by omega) (by omega)]
theorem nar15' {x : Nat} (h : x < 32768) : vp_nar .short (nI x) = nI x := s16 h
theorem nar15 (x : Nat) (h : x < 32768) : vp_nar .short ((nI x).toInt16.toInt32) = nI x := by rw [s16 h]; exact s16 h
/-- one more waits -/
def wtS (σ : rf_S) (r e nl : Nat) : rf_S := rf_ui (rf_ua (rf_ua (rf_ua σ 69 nl (nI r)) 70 nl (nI e)) 71 nl 0) 72 (nI (nl + 1))
theorem rwt {σ : rf_S} {Q : rf_S → Prop} {r e nl : Nat} (hr : r < 12) (he : e < 4000) (h72 : σ.1 72 = nI nl) (hnl : nl < 48000) (h : Q (wtS σ r e nl)) : wp_X12_waits Q σ (nI r) (nI e) := by
  show vp_in _ _ ∧ _ ∧ _ ∧ _
  rw [h72, nI_clamp (by omega), nar7 r (by omega), nar15 e (by omega), narb0, nI_1]
  exact ⟨nI_in (N := 48000) hnl (by decide), nI_in (N := 48000) hnl (by decide), nI_in (N := 48000) hnl (by decide), h⟩
/-- the lacks, as they stand: rule, event; over or not -/
def lkW (σ : rf_S) (nl ne nr : Nat) (lr le : Nat → Nat) : Prop := σ.1 72 = nI nl ∧ nl ≤ 48000 ∧ ∀ k, k < nl → lr k < nr ∧ le k < ne ∧ σ.2.2.1 69 k = nI (lr k) ∧ σ.2.2.1 70 k = nI (le k) ∧ (σ.2.2.1 71 k = 0 ∨ σ.2.2.1 71 k = 1)
section DUE
variable {σ : rf_S} {bk nl ne nr : Nat} {lr le tm wi : Nat → Nat}
/-- when lack k would be found -/
theorem rdu {Q : Int64 → rf_S → Prop} {k : Nat} (h32 : σ.1 32 = nI bk) (hbk : bk ≤ 1) (hL : lkW σ nl ne nr lr le) (hnr : nr ≤ 12) (hne : ne ≤ 4000) (hk : k < nl) (ht : ∀ e, e < ne → σ.2.2.1 8 e = nI (tm e) ∧ tm e ≤ 2000000000) (hw : ∀ r, r < nr → σ.2.2.1 44 (12 * bk + r) = nI (wi r) ∧ wi r ≤ 1000000) (h : Q (Int64.ofNat (tm (le k) + wi (lr k))) σ) : wp_X12_due Q σ (nI k) := by
  obtain ⟨h72, hnl, hl⟩ := hL
  obtain ⟨a1, a2, a3, a4, -⟩ := hl k hk
  obtain ⟨t1, t2⟩ := ht (le k) a2
  obtain ⟨w1, w2⟩ := hw (lr k) a1
  show vp_in _ _ ∧ _ ∧ _ ∧ _ ∧ _
  rw [nI_clamp (by omega : k < 2 ^ 31), a3, a4, h32, n12, nI_clamp (by omega : le k < 2 ^ 31), nI_clamp (by omega : 12 * bk + lr k < 2 ^ 31), t1, w1]
  refine ⟨nI_in (N := 48000) (by omega) (by decide), nI_in (N := 4001) (by omega) (by decide), nI_in (N := 48000) (by omega) (by decide), nI_in (N := 24) (by omega) (by decide), ?_⟩
  have e : (nI (tm (le k))).toInt64 + (nI (wi (lr k))).toInt64 = Int64.ofNat (tm (le k) + wi (lr k)) := by
    rw [show (nI (tm (le k))).toInt64 = Int64.ofNat (tm (le k)) from i32_64 _ (by omega), show (nI (wi (lr k))).toInt64 = Int64.ofNat (wi (lr k)) from i32_64 _ (by omega)]
    exact (Int64.ofNat_add _ _).symm
  rw [e]
  exact h
/-- nothing but the row of lacks that are over changes -/
def l71 (σ σ' : rf_S) : Prop := σ'.1 = σ.1 ∧ σ'.2.1 = σ.2.1 ∧ (∀ k, k ≠ 71 → σ'.2.2.1 k = σ.2.2.1 k) ∧ σ'.2.2.2 = σ.2.2.2
theorem l71.rfl {σ : rf_S} : l71 σ σ := ⟨Eq.refl _, Eq.refl _, fun _ _ => Eq.refl _, Eq.refl _⟩
theorem l71.ua {σ σ1 : rf_S} (h : l71 σ σ1) {j : Nat} {x : Int32} : l71 σ (rf_ua σ1 71 j x) := ⟨h.1, h.2.1, fun k e => by rw [← h.2.2.1 k e]; exact funext fun m => by rw [r3ua, if_neg (fun q => e q.1)], h.2.2.2⟩
/-- event e of rule r answers lack k -/
def anS (σ : rf_S) (r e : Nat) (lr le tm wi : Nat → Nat) (k : Nat) : Prop := lr k = r ∧ σ.2.2.1 63 (4000 * r + le k) = σ.2.2.1 63 (4000 * r + e) ∧ tm e ≤ tm (le k) + wi (lr k)
theorem ran {r e : Nat} (h32 : σ.1 32 = nI bk) (hbk : bk ≤ 1) (hL : lkW σ nl ne nr lr le) (hnr : nr ≤ 12) (hne : ne ≤ 4000) (hr : r < nr) (he : e < ne) (ht : ∀ e, e < ne → σ.2.2.1 8 e = nI (tm e) ∧ tm e ≤ 2000000000) (hw : ∀ r, r < nr → σ.2.2.1 44 (12 * bk + r) = nI (wi r) ∧ wi r ≤ 1000000) :
    ∃ σ', l71 σ σ' ∧ (∀ k, k < nl → (anS σ r e lr le tm wi k → σ'.2.2.1 71 k = 1) ∧ (¬ anS σ r e lr le tm wi k → σ'.2.2.1 71 k = σ.2.2.1 71 k)) ∧ (∀ k, nl ≤ k → σ'.2.2.1 71 k = σ.2.2.1 71 k) ∧ ∀ Q : rf_S → Prop, Q σ' → wp_X12_answered Q σ (nI r) (nI e) 1 := by
  obtain ⟨h72, hnl, hl⟩ := id hL
  have key : ∀ q k (σc : rf_S), k + q = nl → l71 σ σc → (∀ j, k ≤ j → σc.2.2.1 71 j = σ.2.2.1 71 j) → (∀ j, j < k → (anS σ r e lr le tm wi j → σc.2.2.1 71 j = 1) ∧ (¬ anS σ r e lr le tm wi j → σc.2.2.1 71 j = σ.2.2.1 71 j)) → ∃ σ', l71 σ σ' ∧ (∀ k, k < nl → (anS σ r e lr le tm wi k → σ'.2.2.1 71 k = 1) ∧ (¬ anS σ r e lr le tm wi k → σ'.2.2.1 71 k = σ.2.2.1 71 k)) ∧ (∀ k, nl ≤ k → σ'.2.2.1 71 k = σ.2.2.1 71 k) ∧ ∀ Q : rf_S → Prop, Q σ' → w_X12_answered_8 Q (q + 1) σc (nI r) (nI e) (nI k) := by
    intro q
    induction q with
    | zero =>
      intro k σc hk hlc h1 h2
      refine ⟨σc, hlc, fun j hj => h2 j (by omega), fun j hj => h1 j (by omega), fun Q hQ => ⟨fun _ => hQ, fun hc => ?_⟩⟩
      rw [hlc.1, h72] at hc
      exact absurd (nI_le (by omega) (by omega)) hc
    | succ q ih =>
      intro k σc hk hlc h1 h2
      obtain ⟨a1, a2, a3, a4, a5⟩ := hl k (by omega)
      have ek := h1 k (Nat.le_refl _)
      have hnle : ¬ σc.1 72 ≤ nI k := by rw [hlc.1, h72]; exact nI_ge (by omega) (by omega)
      have i71 : vp_in (nI k) (rf_n 71) := nI_in (N := 48000) (by omega) (by decide)
      have c69 : σc.2.2.1 69 k = nI (lr k) := by rw [hlc.2.2.1 69 (by decide)]; exact a3
      have c70 : σc.2.2.1 70 k = nI (le k) := by rw [hlc.2.2.1 70 (by decide)]; exact a4
      -- without a change
      have same : (¬ anS σ r e lr le tm wi k ∨ σ.2.2.1 71 k = 1) → ∃ σ', l71 σ σ' ∧ (∀ k, k < nl → (anS σ r e lr le tm wi k → σ'.2.2.1 71 k = 1) ∧ (¬ anS σ r e lr le tm wi k → σ'.2.2.1 71 k = σ.2.2.1 71 k)) ∧ (∀ k, nl ≤ k → σ'.2.2.1 71 k = σ.2.2.1 71 k) ∧ ∀ Q : rf_S → Prop, Q σ' → w_X12_answered_8 Q (q + 1) σc (nI r) (nI e) (nI (k + 1)) := by
        intro hs
        refine ih (k + 1) σc (by omega) hlc (fun j hj => h1 j (by omega)) (fun j hj => ?_)
        by_cases ej : j = k
        · rw [ej, ek]
          rcases hs with hs | hs
          · exact ⟨fun z => absurd z hs, fun _ => rfl⟩
          · exact ⟨fun _ => hs, fun _ => rfl⟩
        · exact h2 j (by omega)
      by_cases h0 : σ.2.2.1 71 k = 0
      · by_cases hrr : lr k = r
        · by_cases hkk : σ.2.2.1 63 (4000 * r + le k) = σ.2.2.1 63 (4000 * r + e)
          · have hLc : lkW σc nl ne nr lr le := ⟨by rw [hlc.1]; exact h72, hnl, fun j hj => by
              obtain ⟨b1, b2, b3, b4, b5⟩ := hl j hj
              refine ⟨b1, b2, by rw [hlc.2.2.1 69 (by decide)]; exact b3, by rw [hlc.2.2.1 70 (by decide)]; exact b4, ?_⟩
              by_cases cj : k ≤ j
              · rw [h1 j cj]; exact b5
              · by_cases ca : anS σ r e lr le tm wi j
                · exact Or.inr ((h2 j (by omega)).1 ca)
                · rw [(h2 j (by omega)).2 ca]; exact b5⟩
            obtain ⟨t1, t2⟩ := ht e he
            obtain ⟨t3, t4⟩ := ht (le k) a2
            obtain ⟨w1, w2⟩ := hw (lr k) a1
            have hlt : lg_cmp (Int64.ofNat (tm (le k) + wi (lr k))) (nI (tm e)).toInt64 < 0 ↔ tm (le k) + wi (lr k) < tm e := by
              rw [← Int32.not_le, lg_nn, show (nI (tm e)).toInt64 = Int64.ofNat (tm e) from i32_64 _ (by omega), Int64.le_iff_toInt_le, Int64.toInt_ofNat_of_lt (by omega), Int64.toInt_ofNat_of_lt (by omega)]
              omega
            -- what the step does, given what follows
            have step : ∀ (σn : rf_S) (Q : rf_S → Prop), (tm (le k) + wi (lr k) < tm e → σn = σc) → (¬ tm (le k) + wi (lr k) < tm e → σn = rf_ua σc 71 k 1) → w_X12_answered_8 Q (q + 1) σn (nI r) (nI e) (nI (k + 1)) → w_X12_answered_8 Q (q + 1 + 1) σc (nI r) (nI e) (nI k) := by
              intro σn Q hn1 hn2 hQ
              refine ⟨fun hc => absurd hc hnle, fun _ => ⟨i71, ?_⟩⟩
              rw [nI_clamp (by omega), ek, c69, c70, hrr, n4k, n4k, nI_clamp (by omega), nI_clamp (by omega), hlc.2.2.1 63 (by decide), hkk]
              refine ⟨fun hc => absurd h0 hc, fun _ => ⟨nI_in (N := 48000) (by omega) (by decide), fun hc => absurd rfl hc, fun _ => ⟨nI_in (N := 48000) (by omega) (by decide), nI_in (N := 48000) (by omega) (by decide), nI_in (N := 48000) (by omega) (by decide), fun hc => absurd rfl hc, fun _ => ?_⟩⟩⟩
              refine rdu (tm := tm) (wi := wi) (by rw [hlc.1]; exact h32) hbk hLc hnr hne (by omega) (fun e' he' => by rw [hlc.2.2.1 8 (by decide)]; exact ht e' he') (fun r' hr' => by rw [hlc.2.2.1 44 (by decide)]; exact hw r' hr') ?_
              rw [nI_clamp (by omega), hlc.2.2.1 8 (by decide), t1, hlt, narb1]
              refine ⟨nI_in (N := 4001) (by omega) (by decide), fun hc => ?_, fun hc => ⟨i71, ?_⟩⟩
              · show w_X12_answered_8 Q (q + 1) σc (nI r) (nI e) (nI k + 1)
                rw [nI_1, ← hn1 hc]; exact hQ
              · show w_X12_answered_8 Q (q + 1) (rf_ua σc 71 k 1) (nI r) (nI e) (nI k + 1)
                rw [nI_1, ← hn2 hc]; exact hQ
            by_cases hd : tm (le k) + wi (lr k) < tm e
            · obtain ⟨σ', g1, g2, g3, g4⟩ := same (Or.inl (fun z => by have := z.2.2; omega))
              exact ⟨σ', g1, g2, g3, fun Q hQ => step σc Q (fun _ => rfl) (fun c => absurd hd c) (g4 Q hQ)⟩
            · have hA : anS σ r e lr le tm wi k := ⟨hrr, hkk, by omega⟩
              obtain ⟨σ', g1, g2, g3, g4⟩ := ih (k + 1) (rf_ua σc 71 k 1) (by omega) hlc.ua (fun j hj => by rw [r3ua, if_neg (fun z => by omega)]; exact h1 j (by omega)) (fun j hj => by
                rw [r3ua]
                by_cases ej : j = k
                · rw [if_pos ⟨rfl, ej⟩, ej]; exact ⟨fun _ => rfl, fun z => absurd hA z⟩
                · rw [if_neg (fun z => ej z.2)]; exact h2 j (by omega))
              exact ⟨σ', g1, g2, g3, fun Q hQ => step _ Q (fun c => absurd c hd) (fun _ => rfl) (g4 Q hQ)⟩
          · obtain ⟨σ', g1, g2, g3, g4⟩ := same (Or.inl (fun z => hkk z.2.1))
            refine ⟨σ', g1, g2, g3, fun Q hQ => ⟨fun hc => absurd hc hnle, fun _ => ⟨i71, ?_⟩⟩⟩
            rw [nI_clamp (by omega), ek, c69, c70, hrr, n4k, n4k, nI_clamp (by omega), nI_clamp (by omega), hlc.2.2.1 63 (by decide)]
            refine ⟨fun hc => absurd h0 hc, fun _ => ⟨nI_in (N := 48000) (by omega) (by decide), fun hc => absurd rfl hc, fun _ => ⟨nI_in (N := 48000) (by omega) (by decide), nI_in (N := 48000) (by omega) (by decide), nI_in (N := 48000) (by omega) (by decide), fun _ => ?_, fun hc => absurd hc hkk⟩⟩⟩
            show w_X12_answered_8 Q (q + 1) σc (nI r) (nI e) (nI k + 1)
            rw [nI_1]; exact g4 Q hQ
        · obtain ⟨σ', g1, g2, g3, g4⟩ := same (Or.inl (fun z => hrr z.1))
          refine ⟨σ', g1, g2, g3, fun Q hQ => ⟨fun hc => absurd hc hnle, fun _ => ⟨i71, ?_⟩⟩⟩
          rw [nI_clamp (by omega), ek, c69]
          refine ⟨fun hc => absurd h0 hc, fun _ => ⟨nI_in (N := 48000) (by omega) (by decide), fun _ => ?_, fun hc => absurd ((nI_eq (by omega) (by omega)).mp hc) hrr⟩⟩
          show w_X12_answered_8 Q (q + 1) σc (nI r) (nI e) (nI k + 1)
          rw [nI_1]; exact g4 Q hQ
      · have h1' : σ.2.2.1 71 k = 1 := by
          rcases a5 with z | z
          · exact absurd z h0
          · exact z
        obtain ⟨σ', g1, g2, g3, g4⟩ := same (Or.inr h1')
        refine ⟨σ', g1, g2, g3, fun Q hQ => ⟨fun hc => absurd hc hnle, fun _ => ⟨i71, ?_⟩⟩⟩
        rw [nI_clamp (by omega), ek]
        refine ⟨fun _ => ?_, fun hc => absurd hc h0⟩
        show w_X12_answered_8 Q (q + 1) σc (nI r) (nI e) (nI k + 1)
        rw [nI_1]; exact g4 Q hQ
  obtain ⟨σ', g1, g2, g3, g4⟩ := key nl 0 σ (by omega) l71.rfl (fun _ _ => rfl) (fun j hj => absurd hj (by omega))
  exact ⟨σ', g1, g2, g3, fun Q hQ => ⟨fun _ => ⟨nl + 1, g4 Q hQ⟩, fun hc => absurd hc (by decide)⟩⟩
end DUE
