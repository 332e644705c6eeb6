/-! ===== the class: the key of an event ===== -/
/-- the names behind by -/
def byR (S : cs_S) (σ : rf_S) (ra b n : Nat) : Prop := cs_k S ra = 9 ∧ cs_i S 809 ra = nI n ∧ n ≤ 3 ∧ ∃ by0, cs_r S 808 ra = some by0 ∧ cs_k S by0 = 21 ∧ cs_n S by0 = 3 ∧ ∀ k, k < n → ∃ n' l, n' ≤ 8 ∧ wdR n' (cs_al S by0 k) (σ.2.2.2 37 (3 * b + k)) l
def rowE (wt : Nat) : Nat → Nat → Nat → Prop := fun s _ a => s = 5 ∧ a = wt
theorem rowE.sh {S : cs_S} {wt : Nat} : sh S wt (rowE wt) := fun _ _ _ _ h => Or.inl h.2
section CKO
variable {G : Nat → Nat} {S : cs_S} {σ : rf_S} {ra wt b n te q e m mc ms : Nat} {post : Option Nat → cs_S → Prop}
theorem byR.fx {S' : cs_S} {E : Nat → Nat → Nat → Prop} (h : byR S σ ra b n) (hs : sh S wt E) (hF : fX E S S') (hwk : cs_k S wt = 26) : byR S' σ ra b n := by
  obtain ⟨h1, h2, h3, by0, h4, h5, h6, h7⟩ := h
  obtain ⟨c1, c2, c3, c4⟩ := hs.ru hF hwk h1
  have hne : by0 ≠ wt := fun e => by rw [e] at h5; omega
  obtain ⟨a1, a2, -, -, -, -, a7, -⟩ := hs.a21 hF h5 (by omega) (fun y => by have := y.1; omega) hne
  exact ⟨c1, (c2 809 (by omega)).trans h2, h3, by0, (c4 808 (by omega)).trans h4, a1.trans h5, a2.trans h6, fun k hk => by rw [a7]; exact h7 k hk⟩
theorem cko (hby : byR S σ ra b n) (hwt : cs_r S 817 ra = some wt) (hwk : cs_k S wt = 26) (hwn : cs_n S wt = 4) (hev : evR S σ te q e m) (hvs : ∀ vs, cs_r S 404 q = some vs → vs ≠ wt) (hte : te ≤ 24000)
    (hno : ¬ kH σ b n e → ∀ S', fX (rowE wt) S S' → post none S')
    (hyes : kH σ b n e → ∀ S', fX (rowE wt) S S' → wnW S' ra wt n → (∀ k, k < n → ∃ i va, fO σ e (σ.2.2.2 37 (3 * b + k)) = some i ∧ cs_ar S' wt k = some va ∧ vlR S' σ te va (8 * e + i)) → wp_X7_keyOfWanted post G mc ms S' ra (nI n)) : wp_X7_keyOf post G mc ms S ra (some q) := by
  have hn3 : n ≤ 3 := hby.2.2.1
  have key : ∀ r k (S1 : cs_S), k + r = n → fX (rowE wt) S S1 → (∀ j, j < k → ∃ i va, fO σ e (σ.2.2.2 37 (3 * b + j)) = some i ∧ cs_ar S1 wt j = some va ∧ vlR S1 σ te va (8 * e + i)) → w_X7_keyOf_2 post G mc ms (r + 1) S1 0 0 ra (some q) (nI k) := by
    intro r
    induction r with
    | zero =>
      intro k S1 hk hF hall
      have : k = n := by omega
      subst this
      obtain ⟨b1, b2, b3, by0, b4, b5, b6, b7⟩ := hby.fx rowE.sh hF hwk
      obtain ⟨c1, c2, c3, c4⟩ := rowE.sh.ru hF hwk hby.1
      have lwt : cs_k S wt ≠ 0 := by omega
      obtain ⟨d1, d2, -⟩ := hF wt lwt
      have hkh : kH σ b k e := fun j hj => by
        obtain ⟨i, va, x1, -⟩ := hall j hj
        exact ⟨i, x1⟩
      have hwn1 : wnW S1 ra wt k := ⟨(c4 817 (by omega)).trans hwt, d1.trans hwk, d2.trans hwn, by omega, fun j hj => by
        obtain ⟨i, va, x1, x2, x3⟩ := hall j hj
        exact ⟨va, x2, (x3.x hte).1⟩⟩
      refine ⟨by omega, by omega, b1, fun _ => ⟨by omega, by omega, b1, mc, ms, by omega, by omega, ?_⟩, fun c => ?_⟩
      · rw [b2]; exact hyes hkh S1 hF hwn1 hall
      · rw [b2] at c; exact absurd (nI_le (Nat.le_refl _) (by omega)) c
    | succ r ih =>
      intro k S1 hk hF hall
      obtain ⟨b1, b2, b3, by0, b4, b5, b6, b7⟩ := hby.fx rowE.sh hF hwk
      obtain ⟨c1, c2, c3, c4⟩ := rowE.sh.ru hF hwk hby.1
      have lwt : cs_k S wt ≠ 0 := by omega
      obtain ⟨d1, d2, -⟩ := hF wt lwt
      have hev1 := rowE.sh.evr hF hwk hvs hev
      have w1 : cs_r S1 817 ra = some wt := (c4 817 (by omega)).trans hwt
      obtain ⟨n', l, y1, y2⟩ := b7 k (by omega)
      refine ⟨by omega, by omega, b1, fun c => ?_, fun _ r24 e24 => ⟨by0, e24.trans b4, b5, fun c => ?_, fun _ r27 e27 r28 e28 => ⟨by0, e28.trans b4, b5, by rw [b6]; exact nI_in (by omega) (by omega), q, rfl, hev1.1, ?_⟩⟩⟩
      · rw [b2] at c; exact absurd c (nI_ge (by omega) (by omega))
      · rw [b6] at c; exact absurd c (nI_ge (b := 3) (by omega) (by omega))
      · rw [nI_clamp (by omega)]
        refine cfi hev1 y2 y1 (fun hnone => ?_) (fun i va vs hi hsome hr hv hvl => ?_)
        · refine ⟨wt, e27.trans w1, d1.trans hwk, by rw [d2, hwn]; exact nI_in (by omega) (by omega), fun b e => (nomatch e), fun S36 e36 => ?_⟩
          subst e36
          refine ⟨b1, fun r38 e38 => ⟨wt, e38.trans w1, d1.trans hwk, by rw [nuar, d2, hwn]; exact nI_in (by omega) (by omega), fun r41 e41 => ?_⟩⟩
          rw [aruar, if_pos ⟨rfl, rfl⟩] at e41
          subst e41
          refine ⟨fun _ => hno (fun z => ?_) _ (hF.uar (Or.inl ⟨rfl, rfl⟩)), fun b e => (nomatch e)⟩
          obtain ⟨i, hi⟩ := z k (by omega)
          rw [hnone] at hi; cases hi
        · have hv11 : cs_k S1 va = 11 := hvl.1
          refine ⟨wt, e27.trans w1, d1.trans hwk, by rw [d2, hwn]; exact nI_in (by omega) (by omega), fun b e => by rw [← Option.some.inj e]; exact hv11, fun S36 e36 => ?_⟩
          subst e36
          refine ⟨b1, fun r38 e38 => ⟨wt, e38.trans w1, d1.trans hwk, by rw [nuar, d2, hwn]; exact nI_in (by omega) (by omega), fun r41 e41 => ?_⟩⟩
          rw [aruar, if_pos ⟨rfl, rfl⟩] at e41
          subst e41
          refine ⟨fun e => (nomatch e), fun b _ => ?_⟩
          have hF1 : fX (rowE wt) S1 (cs_uar S1 wt k (some va)) := fX.rfl.uar (Or.inl ⟨rfl, rfl⟩)
          rw [nI_1]
          refine ih (k + 1) _ (by omega) (hF.trans hF1) (fun j hj => ?_)
          by_cases c : j = k
          · rw [c]
            exact ⟨i, va, hsome, by rw [aruar, if_pos ⟨rfl, rfl⟩], rowE.sh.vl hF1 (d1.trans hwk) hvl⟩
          · obtain ⟨i', va', x1, x2, x3⟩ := hall j (by omega)
            exact ⟨i', va', x1, by rw [aruar, if_neg (fun z => c z.2)]; exact x2, rowE.sh.vl hF1 (d1.trans hwk) x3⟩
  exact ⟨n + 1, key n 0 S (by omega) fX.rfl (fun j hj => absurd hj (by omega))⟩
end CKO
