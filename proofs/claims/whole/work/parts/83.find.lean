/-! ===== the class: a field of an event, values that are the same ===== -/
theorem wd_low {n : Nat} {c h l : Int64} (a : wdR n c h l) (hn : n ≤ 8) : l = 0 := by
  obtain ⟨f, a1, a2, a3, a4, a5⟩ := a
  rw [a5, dg_cong 8 8 (w8 (fun i => f (i + 8))) (fun _ => 0) 8 (fun i _ => by
    have := a2 (i + 8)
    show (if f (i + 8) = 0 then 0 else f (i + 8) + 96) = 0
    rw [if_pos (by omega)])]
  decide
theorem wd_eq8 {n n' : Nat} {c h l c' h' l' : Int64} (a : wdR n c h l) (a' : wdR n' c' h' l') (hn : n ≤ 8) (hn' : n' ≤ 8) : c = c' ↔ h = h' := by
  rw [wd_eq a a', wd_low a hn, wd_low a' hn']
  exact ⟨fun q => q.1, fun q => ⟨q, rfl⟩⟩
section FIN
variable {G : Nat → Nat} {S : cs_S} {σ : rf_S} {te q e m n : Nat} {c h l : Int64} {post : Option Nat → cs_S → Prop}
theorem cfi (hev : evR S σ te q e m) (hw : wdR n c h l) (hn : n ≤ 8) (hno : fO σ e h = none → post none S) (hso : ∀ k va vs, k < m → fO σ e h = some k → cs_r S 404 q = some vs → cs_ar S vs k = some va → vlR S σ te va (8 * e + k) → post (some va) S) : wp_X3_find post G S q c := by
  obtain ⟨k5, -, hm, h9, nm, vs, hnm, hnk, hnn, hvs, hvk, hvn, hfl⟩ := hev
  have em : mN σ e = m := by rw [mN, h9]; exact nI_clamp (by omega)
  have key : ∀ r k, k + r = m → (fdx (fun k => σ.2.2.2 13 (8 * e + k)) h r k = none → post none S) → (∀ j va, j < m → fdx (fun k => σ.2.2.2 13 (8 * e + k)) h r k = some j → cs_ar S vs j = some va → vlR S σ te va (8 * e + j) → post (some va) S) → w_X3_find_2 post G (r + 1) S q c (nI k) := by
    intro r
    induction r with
    | zero =>
      intro k hk h1 h2
      refine ⟨k5, fun r16 e16 => ⟨nm, e16.trans hnm, hnk, fun _ => h1 rfl, fun hc => ?_⟩⟩
      rw [hnn] at hc
      exact absurd (nI_le (by omega) (by omega)) hc
    | succ r ih =>
      intro k hk h1 h2
      obtain ⟨⟨n', l', b1, b2, b3⟩, ⟨va, b4, b5⟩, -⟩ := hfl k (by omega)
      refine ⟨k5, fun r16 e16 => ⟨nm, e16.trans hnm, hnk, fun hc => ?_, fun _ r19 e19 => ⟨vs, e19.trans hvs, hvk, fun hc => ?_, fun _ r22 e22 => ⟨nm, e22.trans hnm, hnk, by rw [hnn]; exact nI_in (by omega) (by omega), ?_⟩⟩⟩⟩
      · rw [hnn] at hc; exact absurd hc (nI_ge (by omega) (by omega))
      · rw [hvn] at hc; exact absurd hc (nI_ge (by omega) (by omega))
      · rw [nI_clamp (by omega), lg_eq, wd_eq8 b3 hw b2 hn, nI_1]
        rw [fdx] at h1
        refine ⟨fun hc => ih (k + 1) (by omega) (fun q => h1 (by rw [if_neg hc]; exact q)) (fun j va hj q => h2 j va hj (by rw [fdx, if_neg hc]; exact q)), fun hc r25 e25 => ⟨vs, e25.trans hvs, hvk, by rw [hvn]; exact nI_in (by omega) (by omega), fun r28 e28 => ?_⟩⟩
        rw [e28, b4]
        exact h2 k va (by omega) (by rw [fdx, if_pos hc]) b4 b5
  refine ⟨m + 1, key m 0 (by omega) (fun q => hno (by rw [fO, em]; exact q)) (fun j va hj q b4 b5 => hso j va vs hj (by rw [fO, em]; exact q) hvs b4 b5)⟩
end FIN
/-- a value of the class by itself -/
def cvW (S : cs_S) (va tx L : Nat) : Prop := cs_k S va = 11 ∧ cs_r S 1002 va = some tx ∧ cs_k S tx = 20 ∧ cs_n S tx = L ∧ L ≤ 24 ∧ cs_i S 1003 va = vh (31 * cs_i S 1001 va + cs_i S 1000 va) (cs_ai S tx) L ∧ ((cs_i S 1000 va = 1 ∧ cs_i S 1001 va = nI L) ∨ (¬ cs_i S 1000 va = 1 ∧ L = 0))
theorem vlR.cv {S : cs_S} {σ : rf_S} {te va f : Nat} (h : vlR S σ te va f) : ∃ tx L, cvW S va tx L ∧ (∀ k, k < L → ∃ b, 32 ≤ b ∧ b ≤ 126 ∧ cs_ai S tx k = nI b) ∧ (σ.2.2.1 14 f = 1 → ∃ o, σ.2.2.1 16 f = nI o ∧ o + L ≤ te ∧ ∀ k, k < L → σ.2.2.1 18 (o + k) = cs_ai S tx k) := by
  obtain ⟨a1, a2, a3, tx, L, a4, a5, a6, a7, a8, a9, a10⟩ := h
  refine ⟨tx, L, ⟨a1, a4, a5, a6, a7, by rw [a8, a2, a3], ?_⟩, a9, ?_⟩
  · rw [a2, a3]
    rcases a10 with ⟨b1, b2, -⟩ | ⟨b1 | b1, b2⟩
    · exact Or.inl ⟨b1, b2⟩
    · exact Or.inr ⟨by rw [b1]; decide, b2⟩
    · exact Or.inr ⟨by rw [b1]; decide, b2⟩
  · intro e1
    rcases a10 with ⟨b1, b2, b3⟩ | ⟨b1 | b1, b2⟩
    · exact b3
    · rw [b1] at e1; exact absurd e1 (by decide)
    · rw [b1] at e1; exact absurd e1 (by decide)
/-- both hold the same -/
def cvE (S : cs_S) (va tx vb ty L : Nat) : Prop := cs_i S 1000 va = cs_i S 1000 vb ∧ cs_i S 1001 va = cs_i S 1001 vb ∧ ∀ k, k < L → cs_ai S tx k = cs_ai S ty k
section SAM
variable {G : Nat → Nat} {S : cs_S} {va vb tx ty L L' : Nat} {post : Int32 → cs_S → Prop}
theorem csm (ha : cvW S va tx L) (hb : cvW S vb ty L') (hy : cvE S va tx vb ty L → post 1 S) (hn : ¬ cvE S va tx vb ty L → post 0 S) : wp_X9_same post G S va (some vb) := by
  obtain ⟨a1, a2, a3, a4, a5, a6, a7⟩ := ha
  obtain ⟨b1, b2, b3, b4, b5, b6, b7⟩ := hb
  refine ⟨a1, vb, rfl, b1, fun hc => hn (fun q => hc q.1), fun h0 => ⟨fun hc => hn (fun q => hc ?_), fun h3 => ⟨fun h1 => ?_, fun hc => hn (fun q => hc q.2.1)⟩⟩⟩
  · have hLL : L = L' := by
      rcases a7 with ⟨c1, c2⟩ | ⟨c1, c2⟩
      · rcases b7 with ⟨d1, d2⟩ | ⟨d1, d2⟩
        · have := q.2.1
          rw [c2, d2] at this
          exact (nI_eq (by omega) (by omega)).mp this
        · exact absurd (q.1.symm.trans c1) d1
      · rcases b7 with ⟨d1, d2⟩ | ⟨d1, d2⟩
        · exact absurd (q.1.trans d1) c1
        · omega
    subst hLL
    rw [a6, b6, q.1, q.2.1]
    exact vh_cong L (fun k hk => q.2.2 k hk)
  · have hLL : L = L' := by
      rcases a7 with ⟨c1, c2⟩ | ⟨c1, c2⟩
      · rcases b7 with ⟨d1, d2⟩ | ⟨d1, d2⟩
        · rw [c2, d2] at h1
          exact (nI_eq (by omega) (by omega)).mp h1
        · exact absurd (h0.symm.trans c1) d1
      · rcases b7 with ⟨d1, d2⟩ | ⟨d1, d2⟩
        · exact absurd (h0.trans d1) c1
        · omega
    subst hLL
    have key : ∀ r k, k + r = L → ((∀ j, k ≤ j → j < L → cs_ai S tx j = cs_ai S ty j) → post 1 S) → ((¬ ∀ j, k ≤ j → j < L → cs_ai S tx j = cs_ai S ty j) → post 0 S) → w_X9_same_37 post G (r + 1) S va (some vb) (nI k) := by
      intro r
      induction r with
      | zero =>
        intro k hk h1 h2
        refine ⟨a1, fun r17 e17 => ⟨tx, e17.trans a2, a3, fun _ => h1 (fun j p q => absurd q (by omega)), fun hc => ?_⟩⟩
        rw [a4] at hc
        exact absurd (nI_le (by omega) (by omega)) hc
      | succ r ih =>
        intro k hk h1 h2
        refine ⟨a1, fun r17 e17 => ⟨tx, e17.trans a2, a3, fun hc => ?_, fun _ => ⟨vb, rfl, b1, fun r22 e22 => ⟨ty, e22.trans b2, b3, fun hc => ?_, fun _ r25 e25 => ⟨tx, e25.trans a2, a3, by rw [a4]; exact nI_in (by omega) (by omega), fun r28 e28 => ⟨ty, e28.trans b2, b3, by rw [b4]; exact nI_in (by omega) (by omega), ?_⟩⟩⟩⟩⟩⟩
        · rw [a4] at hc; exact absurd hc (nI_ge (by omega) (by omega))
        · rw [b4] at hc; exact absurd hc (nI_ge (by omega) (by omega))
        · rw [nI_clamp (by omega), nI_1]
          refine ⟨fun hc => ih (k + 1) (by omega) (fun q => h1 (fun j p1 p2 => ?_)) (fun q => h2 (fun p => q (fun j p1 p2 => p j (by omega) p2))), fun hc => h2 (fun p => hc (p k (Nat.le_refl _) (by omega)))⟩
          by_cases ej : j = k
          · rw [ej]; exact hc
          · exact q j (by omega) p2
    exact ⟨L + 1, key L 0 (by omega) (fun q => hy ⟨h0, h1, fun k hk => q k (by omega) hk⟩) (fun q => hn (fun p => q (fun j _ hj => p.2.2 j hj)))⟩
end SAM
