/-! ===== the reference alone: a rule looks at an event ===== -/
/-- a rule as it is written -/
def ruW (σ : rf_S) (b x k n w q : Nat) (dp : Nat → Nat) (tr : (c : Nat) → cT (dp c)) (ud : Nat) (ut : Option (cT ud)) : Prop := σ.2.2.1 38 b = nI x ∧ x ≤ 4 ∧ σ.2.2.1 43 b = nI n ∧ n ≤ 3 ∧ σ.2.2.1 44 b = nI w ∧ 1 ≤ w ∧ w ≤ 1000000 ∧ σ.2.2.1 45 b = nI q ∧ q ≤ 1000000 ∧ cdW σ b k dp tr ∧ unW σ b ud ut ∧ (x ≤ 2 → k = 1) ∧ (x = 4 → k = 2) ∧ (x ≠ 3 → ut = none) ∧ ((x = 0 ∨ x = 1) → ∃ L, 1 ≤ L ∧ L ≤ 1000 ∧ σ.2.2.1 39 b = nI L)
theorem eV.ru {σ σ1 : rf_S} (h : eV σ σ1) {b x k n w q : Nat} {dp : Nat → Nat} {tr : (c : Nat) → cT (dp c)} {ud : Nat} {ut : Option (cT ud)} (g : ruW σ b x k n w q dp tr ud ut) : ruW σ1 b x k n w q dp tr ud ut := by
  obtain ⟨g1, g2, g3, g4, g5, g6, g7, g8, g9, g10, g11, g12, g13, g14, g15⟩ := g
  refine ⟨by rw [h.1 38 (by decide)]; exact g1, g2, by rw [h.1 43 (by decide)]; exact g3, g4, by rw [h.1 44 (by decide)]; exact g5, g6, g7, by rw [h.1 45 (by decide)]; exact g8, g9, h.cd g10, h.un g11, g12, g13, g14, fun z => ?_⟩
  rw [h.1 39 (by decide)]; exact g15 z
/-- what it does: key, bits, and then what it looks for -/
def lkD (σ : rf_S) (r b e x k n w q nl na ns : Nat) (tm lr le wi : Nat → Nat) (dp : Nat → Nat) (tr : (c : Nat) → cT (dp c)) (ud : Nat) (ut : Option (cT ud)) (σ' : rf_S) : Prop :=
  (¬ kH σ b n e ∧ σ' = rf_ua σ 63 (4000 * r + e) (-1)) ∨
  ∃ (f B : Nat) (σ2 : rf_S), kH σ b n e ∧ ((f < e ∧ σ.2.2.1 63 (4000 * r + f) = nI f ∧ kM σ b n f e) ∨ (f = e ∧ ∀ g, g < e → σ.2.2.1 63 (4000 * r + g) = nI g → ¬ kM σ b n g e)) ∧ l62 (rf_ua σ 63 (4000 * r + e) (nI f)) σ2 ∧ B < 64 ∧ (∀ c, c < k → (B.testBit c = true ↔ cTr σ e (dp c) (tr c))) ∧ (∀ c, c < 5 → k ≤ c → B.testBit c = false) ∧ (B.testBit 5 = true ↔ unT σ e ud ut) ∧
    ((x = 4 ∧ ∃ σ4, (B.testBit 1 = true → l71 (rf_ua σ2 64 (4000 * r + e) (nI B)) σ4 ∧ (∀ j, j < nl → (anS (rf_ua σ2 64 (4000 * r + e) (nI B)) r e lr le tm wi j → σ4.2.2.1 71 j = 1) ∧ (¬ anS (rf_ua σ2 64 (4000 * r + e) (nI B)) r e lr le tm wi j → σ4.2.2.1 71 j = σ.2.2.1 71 j)) ∧ ∀ j, nl ≤ j → σ4.2.2.1 71 j = σ.2.2.1 71 j) ∧ (B.testBit 1 = false → σ4 = rf_ua σ2 64 (4000 * r + e) (nI B)) ∧ (B.testBit 0 = true → σ' = wtS σ4 r e nl) ∧ (B.testBit 0 = false → σ' = σ4)) ∨
     (x ≠ 4 ∧ B.testBit (k - 1) = false ∧ σ' = rf_ua σ2 64 (4000 * r + e) (nI B)) ∨
     (x ≠ 4 ∧ B.testBit (k - 1) = true ∧ ∃ res, stO (rf_ua σ2 64 (4000 * r + e) (nI B)) r b e f w tm res ∧ ((res = none ∧ σ' = rf_ua σ2 64 (4000 * r + e) (nI B)) ∨ ∃ s h, res = some s ∧ s ≤ e ∧ σ.2.2.1 66 (4000 * r + f) = nI h ∧ ((hsh σ (4000 * r + f) (tm e) q ∧ σ' = fnH (rf_ua σ2 64 (4000 * r + e) (nI B)) r (4000 * r + f) h) ∨ (¬ hsh σ (4000 * r + f) (tm e) q ∧ σ' = fnA (rf_ua σ2 64 (4000 * r + e) (nI B)) r e (tm e) s (4000 * r + f) h na ns)))))
section LKR
variable {σ : rf_S} {r b bk e x k n w q nl na ns nr te : Nat} {tm lr le wi : Nat → Nat} {dp : Nat → Nat} {tr : (c : Nat) → cT (dp c)} {ud : Nat} {ut : Option (cT ud)}
theorem rlk1 (h32 : σ.1 32 = nI bk) (hbk : bk ≤ 1) (h33 : σ.1 33 = nI nr) (hnr : nr ≤ 12) (hr : r < nr) (hbb : b = 12 * bk + r) (hR : ruW σ b x k n w q dp tr ud ut) (he : e < 4000) (hte : te ≤ 24000)
    (hev : ∀ o, o ≤ e → (∃ m, eW σ te o m) ∧ σ.2.2.1 8 o = nI (tm o) ∧ tm o ≤ 2000000000) (hmono : ∀ o o', o ≤ o' → o' ≤ e → tm o ≤ tm o') (hK : kI σ r b n e) (hM : ∀ v, σ.2.2.1 68 v = 0) (hV : ∀ o (c : Int64) j, o ≤ e → fO σ o c = some j → ∃ v, v < 32000 ∧ σ.2.2.1 17 (8 * o + j) = nI v)
    (hL : lkW σ nl (e + 1) nr lr le) (hnl : nl < 48000) (hw : ∀ r, r < nr → σ.2.2.1 44 (12 * bk + r) = nI (wi r) ∧ wi r ≤ 1000000) (hH : ∀ f, f ≤ e → (σ.2.2.1 65 (4000 * r + f) = -1 ∨ ∃ la, la ≤ 2000000000 ∧ σ.2.2.1 65 (4000 * r + f) = nI la) ∧ ∃ h, h < 32767 ∧ σ.2.2.1 66 (4000 * r + f) = nI h) (h78 : σ.1 78 = nI na) (hna : na < 2 ^ 30) (h83 : σ.1 83 = nI ns) (hns : ns < 48000) :
    ∃ σ', gE σ σ' ∧ lkD σ r b e x k n w q nl na ns tm lr le wi dp tr ud ut σ' ∧ ∀ (Q : rf_S → Prop) (j : Nat), w_X12_looked_2 Q j σ' (nI e) (nI (r + 1)) → w_X12_looked_2 Q (j + 1) σ (nI e) (nI r) := by
  obtain ⟨g1, g2, g3, g4, g5, g6, g7, g8, g9, g10, g11, g12, g13, g14, g15⟩ := id hR
  have hr12 : r < 12 := by omega
  have hb24 : b < 24 := by omega
  have hke : 4000 * r + e < 48000 := by omega
  have i63 : vp_in (nI (4000 * r + e)) (rf_n 63) := nI_in (N := 48000) hke (by decide)
  have i64 : vp_in (nI (4000 * r + e)) (rf_n 64) := nI_in (N := 48000) hke (by decide)
  have i38 : vp_in (nI b) (rf_n 38) := nI_in (N := 24) hb24 (by decide)
  have i40 : vp_in (nI b) (rf_n 40) := nI_in (N := 24) hb24 (by decide)
  have hm : ∀ o, o ≤ e → ∃ m, m ≤ 8 ∧ σ.2.2.1 9 o = nI m := fun o ho => by
    obtain ⟨⟨m, hm⟩, -⟩ := hev o ho
    exact ⟨m, hm.2.1, hm.2.2.1⟩
  obtain ⟨kv, re, hkv⟩ := rko h32 hbk hr12 hbb g3 g4 he hm hK
  -- the way in
  have enter : ∀ (Q : rf_S → Prop) (j : Nat) (y : Int32), vp_nar .short kv.toInt16.toInt32 = y → (0 ≤ y → ∃ n9, w_X12_looked_63 Q (w_X12_looked_2 Q j) n9 (rf_ua σ 63 (4000 * r + e) y) (nI e) (nI r) (nI b) (nI (4000 * r + e)) 0 0) → (¬ 0 ≤ y → w_X12_looked_2 Q j (rf_ua σ 63 (4000 * r + e) y) (nI e) (nI (r + 1))) → w_X12_looked_2 Q (j + 1) σ (nI e) (nI r) := by
    intro Q j y hy h1 h2
    refine ⟨fun hc => ?_, fun _ => re _ ?_⟩
    · rw [h33] at hc; exact absurd hc (nI_ge hr (by omega))
    · rw [n4k, nI_clamp (by omega), h32, n12, ← hbb, hy, r3ua, if_pos ⟨rfl, rfl⟩]
      refine ⟨i63, i63, h1, fun z => ?_⟩
      show w_X12_looked_2 Q j (rf_ua σ 63 (4000 * r + e) y) (nI e) (nI r + 1)
      rw [nI_1]; exact h2 z
  have go : ∀ f, f ≤ e → kv = nI f → kH σ b n e → ((f < e ∧ σ.2.2.1 63 (4000 * r + f) = nI f ∧ kM σ b n f e) ∨ (f = e ∧ ∀ g, g < e → σ.2.2.1 63 (4000 * r + g) = nI g → ¬ kM σ b n g e)) → ∃ σ', gE σ σ' ∧ lkD σ r b e x k n w q nl na ns tm lr le wi dp tr ud ut σ' ∧ ∀ (Q : rf_S → Prop) (j : Nat), w_X12_looked_2 Q j σ' (nI e) (nI (r + 1)) → w_X12_looked_2 Q (j + 1) σ (nI e) (nI r) := by
    intro f hf ekv hkh hfk
    have hf4 : f < 4000 := by omega
    have hG1 : gE σ (rf_ua σ 63 (4000 * r + e) (nI f)) := gE.rfl.ua (by omega)
    obtain ⟨m, hE⟩ := (hev e (Nat.le_refl _)).1
    obtain ⟨σ2, B, l2, hB, hbits, hhi, hun, reB⟩ := rld hte (hG1.ev.ew hE) hb24 (hG1.ev.cd g10) (hG1.ev.un g11)
    have hbits' : ∀ c, c < k → (B.testBit c = true ↔ cTr σ e (dp c) (tr c)) := fun c hc => (hbits c hc).trans (hG1.ev.tr _ _)
    have hun' : B.testBit 5 = true ↔ unT σ e ud ut := hun.trans hG1.ev.ut
    have hG2 : gE σ σ2 := hG1.trans l2.ge
    have hG3 : gE σ (rf_ua σ2 64 (4000 * r + e) (nI B)) := hG2.ua (by omega)
    have hkey3 : (rf_ua σ2 64 (4000 * r + e) (nI B)).2.2.1 63 (4000 * r + e) = nI f := by
      rw [r3ua, if_neg (fun z => absurd z.1 (by decide)), l2.2.2.1 63 (by decide), r3ua, if_pos ⟨rfl, rfl⟩]
    have hbit3 : (rf_ua σ2 64 (4000 * r + e) (nI B)).2.2.1 64 (4000 * r + e) = nI B := by rw [r3ua, if_pos ⟨rfl, rfl⟩]
    have hk2 : σ2.2.2.1 40 b = nI k := by rw [hG2.1 40 (by omega)]; exact g10.1
    have hx2 : σ2.2.2.1 38 b = nI x := by rw [hG2.1 38 (by omega)]; exact g1
    have hk15 : 1 ≤ k ∧ k ≤ 5 := ⟨g10.2.1, g10.2.2.1⟩
    have ek1 : nI k - 1 = nI (k - 1) := by
      rw [show nI k = nI (k - 1 + 1) from by rw [show k - 1 + 1 = k from by omega]]; exact nI_pred _
    have hR3 := hG3.ev.ru hR
    -- from the bits on
    have from147 : ∀ (Q : rf_S → Prop) (j : Nat), w_X12_looked_147 Q (w_X12_looked_2 Q j) σ2 (nI e) (nI r) (nI b) (nI (4000 * r + e)) (nI B) → w_X12_looked_2 Q (j + 1) σ (nI e) (nI r) := by
      intro Q j h
      refine enter Q j (nI f) (by rw [ekv]; exact nar15 f (by omega)) (fun _ => reB Q _ _ _ h) (fun z => absurd (nI_pos' (by omega)) z)
    have bB := bt_a B hB
    by_cases hx4 : x = 4
    · -- a lack
      have hk2' : k = 2 := g13 hx4
      have e4 : σ2.2.2.1 38 b = 4 := by rw [hx2, hx4]; rfl
      have h147 : ∀ (Q : rf_S → Prop) (j : Nat), ((B.testBit 1 = false → w_X12_looked_183 Q (w_X12_looked_2 Q j) (rf_ua σ2 64 (4000 * r + e) (nI B)) (nI e) (nI r) (nI B) (nI r) (nI e) 0) ∧ (B.testBit 1 = true → w_X12_looked_183 Q (w_X12_looked_2 Q j) (rf_ua σ2 64 (4000 * r + e) (nI B)) (nI e) (nI r) (nI B) (nI r) (nI e) 1)) → w_X12_looked_2 Q (j + 1) σ (nI e) (nI r) := by
        intro Q j h
        refine from147 Q j ⟨i64, i38, fun z => ?_, fun _ => ⟨fun z => ?_, fun z => ?_⟩⟩
        · rw [nI_clamp (by omega)] at z; exact absurd e4 z
        · rw [nI_clamp (by omega), nar7 B (by omega)]; exact h.1 (bB.2.2.2.1.mp z)
        · rw [nI_clamp (by omega), nar7 B (by omega)]
          refine h.2 ?_
          cases hb1 : B.testBit 1 with
          | true => rfl
          | false => exact absurd (bB.2.2.2.1.mpr hb1) z
      -- behind the answers
      have after : ∀ (σ4 : rf_S), gE σ σ4 → σ4.1 72 = nI nl → ∃ σ', gE σ σ' ∧ (B.testBit 0 = true → σ' = wtS σ4 r e nl) ∧ (B.testBit 0 = false → σ' = σ4) ∧ ∀ (Q : rf_S → Prop) (j : Nat), w_X12_looked_2 Q j σ' (nI e) (nI (r + 1)) → ((nI B &&& 1) ≤ 0 → w_X12_looked_247 Q (w_X12_looked_2 Q j) σ4 (nI e) (nI r)) ∧ (¬ (nI B &&& 1) ≤ 0 → wp_X12_waits (fun σ9 => w_X12_looked_247 Q (w_X12_looked_2 Q j) σ9 (nI e) (nI r)) σ4 (nI r) (nI e)) := by
        intro σ4 hg4 h72
        cases hb0 : B.testBit 0 with
        | true =>
          refine ⟨wtS σ4 r e nl, (((hg4.ua (by omega)).ua (by omega)).ua (by omega)).ui (by omega), fun _ => rfl, fun z => (nomatch z), fun Q j hQ => ⟨fun z => ?_, fun _ => rwt hr12 he h72 hnl ?_⟩⟩
          · have := bB.2.2.1.mp z
            rw [hb0] at this; cases this
          · show w_X12_looked_2 Q j (wtS σ4 r e nl) (nI e) (nI r + 1)
            rw [nI_1]; exact hQ
        | false =>
          refine ⟨σ4, hg4, fun z => (nomatch z), fun _ => rfl, fun Q j hQ => ⟨fun _ => ?_, fun z => absurd (bB.2.2.1.mpr hb0) z⟩⟩
          show w_X12_looked_2 Q j σ4 (nI e) (nI r + 1)
          rw [nI_1]; exact hQ
      have h72 : (rf_ua σ2 64 (4000 * r + e) (nI B)).1 72 = nI nl := by rw [r1ua, l2.1]; exact hL.1
      cases hb1 : B.testBit 1 with
      | true =>
        have e71 : (rf_ua σ2 64 (4000 * r + e) (nI B)).2.2.1 71 = σ.2.2.1 71 := funext fun j => by rw [r3ua, if_neg (fun z => absurd z.1 (by decide)), l2.2.2.1 71 (by decide), r3ua, if_neg (fun z => absurd z.1 (by decide))]
        have e69 : (rf_ua σ2 64 (4000 * r + e) (nI B)).2.2.1 69 = σ.2.2.1 69 := funext fun j => by rw [r3ua, if_neg (fun z => absurd z.1 (by decide)), l2.2.2.1 69 (by decide), r3ua, if_neg (fun z => absurd z.1 (by decide))]
        have e70 : (rf_ua σ2 64 (4000 * r + e) (nI B)).2.2.1 70 = σ.2.2.1 70 := funext fun j => by rw [r3ua, if_neg (fun z => absurd z.1 (by decide)), l2.2.2.1 70 (by decide), r3ua, if_neg (fun z => absurd z.1 (by decide))]
        have hL3 : lkW (rf_ua σ2 64 (4000 * r + e) (nI B)) nl (e + 1) nr lr le := ⟨h72, hL.2.1, fun j hj => by rw [e69, e70, e71]; exact hL.2.2 j hj⟩
        obtain ⟨σ4, l4, c1, c2, re4⟩ := ran (r := r) (e := e) (tm := tm) (wi := wi) (by rw [hG3.2.1 32 (by omega)]; exact h32) hbk hL3 hnr (by omega) hr (by omega) (fun o ho => by rw [hG3.1 8 (by omega)]; exact (hev o (by omega)).2) (fun r' hr' => by rw [hG3.1 44 (by omega)]; exact hw r' hr')
        obtain ⟨σ', hg', w1, w2, w3⟩ := after σ4 (hG3.trans l4.ge) (by rw [l4.1]; exact h72)
        refine ⟨σ', hg', Or.inr ⟨f, B, σ2, hkh, hfk, l2, hB, hbits', hhi, hun', Or.inl ⟨hx4, σ4, fun _ => ⟨l4, fun j hj => ?_, fun j hj => ?_⟩, fun z => by rw [hb1] at z; exact (nomatch z), w1, w2⟩⟩, fun Q j hQ => h147 Q j ⟨fun z => by rw [hb1] at z; exact (nomatch z), fun _ => re4 _ (w3 Q j hQ)⟩⟩
        · have := c1 j hj
          rw [e71] at this; exact this
        · have := c2 j hj
          rw [e71] at this; exact this
      | false =>
        obtain ⟨σ', hg', w1, w2, w3⟩ := after (rf_ua σ2 64 (4000 * r + e) (nI B)) hG3 h72
        exact ⟨σ', hg', Or.inr ⟨f, B, σ2, hkh, hfk, l2, hB, hbits', hhi, hun', Or.inl ⟨hx4, _, fun z => by rw [hb1] at z; exact (nomatch z), fun _ => rfl, w1, w2⟩⟩, fun Q j hQ => h147 Q j ⟨fun _ => ⟨fun z => absurd rfl z, fun _ => w3 Q j hQ⟩, fun z => by rw [hb1] at z; exact (nomatch z)⟩⟩
    · -- something that is found at once
      have ne4 : ¬ σ2.2.2.1 38 b = 4 := by rw [hx2]; exact fun z => hx4 ((nI_eq (b := 4) (by omega) (by decide)).mp z)
      have bK := bt_c B hB (k - 1) (by omega)
      have h147 : ∀ (Q : rf_S → Prop) (j : Nat), ((B.testBit (k - 1) = false → w_X12_looked_2 Q j (rf_ua σ2 64 (4000 * r + e) (nI B)) (nI e) (nI (r + 1))) ∧ (B.testBit (k - 1) = true → wp_X12_startOf (fun r10 σ10 => (r10 < 0 → w_X12_looked_247 Q (w_X12_looked_2 Q j) σ10 (nI e) (nI r)) ∧ (¬ r10 < 0 → vp_in (nI e) (rf_n 8) ∧ wp_X12_finds (fun σ11 => w_X12_looked_247 Q (w_X12_looked_2 Q j) σ11 (nI e) (nI r)) σ10 (nI r) (nI e) (σ10.2.2.1 8 (nI e).toNatClampNeg) r10)) (rf_ua σ2 64 (4000 * r + e) (nI B)) (nI r) (nI e))) → w_X12_looked_2 Q (j + 1) σ (nI e) (nI r) := by
        intro Q j h
        refine from147 Q j ⟨i64, i38, fun _ => ⟨i40, ?_⟩, fun z => ?_⟩
        · rw [nI_clamp (by omega : b < 2 ^ 31), hk2, ek1, nI_clamp (by omega : 4000 * r + e < 2 ^ 31), nar7 B (by omega), bK.2]
          refine ⟨fun z => ?_, fun z => h.2 z⟩
          show w_X12_looked_2 Q j (rf_ua σ2 64 (4000 * r + e) (nI B)) (nI e) (nI r + 1)
          rw [nI_1]
          refine h.1 ?_
          cases hb : B.testBit (k - 1) with
          | false => rfl
          | true => exact absurd hb z
        · rw [nI_clamp (by omega)] at z; exact absurd z ne4
      cases hbk1 : B.testBit (k - 1) with
      | false =>
        exact ⟨_, hG3, Or.inr ⟨f, B, σ2, hkh, hfk, l2, hB, hbits', hhi, hun', Or.inr (Or.inl ⟨hx4, hbk1, rfl⟩)⟩, fun Q j hQ => h147 Q j ⟨fun _ => hQ, fun z => by rw [hbk1] at z; exact (nomatch z)⟩⟩
      | true =>
        have hP3 : sP (rf_ua σ2 64 (4000 * r + e) (nI B)) r b bk e w tm := ⟨by rw [hG3.2.1 32 (by omega)]; exact h32, hbk, hr12, hbb, he, hR3.2.2.2.2.1, by omega, fun o ho => ⟨by rw [hG3.1 8 (by omega)]; exact (hev o ho).2.1, by have := (hev o ho).2.2; omega, by rw [hG3.1 9 (by omega)]; exact hm o ho⟩, hmono⟩
        obtain ⟨res, hst, hres, reS⟩ := rst (f := f) hP3 g6 hf4 hkey3 ⟨x, by omega, hR3.1⟩ (fun z => by
          rw [hbit3]
          have hx3 : x ≠ 3 := fun y => z (by rw [hR3.1, y]; rfl)
          have : k = 1 := g12 (by omega)
          rw [this] at hbk1
          exact bB.2.1.mpr hbk1) ⟨k, hk15.1, hk15.2, hR3.2.2.2.2.2.2.2.2.2.1.1⟩ (fun z1 z2 => hR3.2.2.2.2.2.2.2.2.2.2.2.2.2.2 (by
            have y1 : x ≠ 2 := fun y => z1 (by rw [hR3.1, y]; rfl)
            have y2 : x ≠ 3 := fun y => z2 (by rw [hR3.1, y]; rfl)
            omega)) (fun v => by rw [hG3.1 68 (by omega)]; exact hM v) (fun o j ho hfo => by
            rw [hG3.1 17 (by omega)]
            refine hV o _ j ho (by rw [hG3.ev.fo] at hfo; exact hfo))
        cases hr0 : res with
        | none =>
          refine ⟨_, hG3, Or.inr ⟨f, B, σ2, hkh, hfk, l2, hB, hbits', hhi, hun', Or.inr (Or.inr ⟨hx4, hbk1, res, hst, Or.inl ⟨hr0, rfl⟩⟩)⟩, fun Q j hQ => h147 Q j ⟨fun z => by rw [hbk1] at z; exact (nomatch z), fun _ => reS _ ?_⟩⟩
          rw [hr0]
          refine ⟨fun _ => ?_, fun z => absurd (by show (-1 : Int32) < 0; decide) z⟩
          show w_X12_looked_2 Q j _ (nI e) (nI r + 1)
          rw [nI_1]; exact hQ
        | some s =>
          have hse := hres s hr0
          obtain ⟨hla, h, hh2, hh⟩ := hH f hf
          have e66 : (rf_ua σ2 64 (4000 * r + e) (nI B)).2.2.1 66 = σ.2.2.1 66 := funext fun j => by rw [r3ua, if_neg (fun z => absurd z.1 (by decide)), l2.2.2.1 66 (by decide), r3ua, if_neg (fun z => absurd z.1 (by decide))]
          have e65 : (rf_ua σ2 64 (4000 * r + e) (nI B)).2.2.1 65 = σ.2.2.1 65 := funext fun j => by rw [r3ua, if_neg (fun z => absurd z.1 (by decide)), l2.2.2.1 65 (by decide), r3ua, if_neg (fun z => absurd z.1 (by decide))]
          have e1 : (rf_ua σ2 64 (4000 * r + e) (nI B)).1 = σ.1 := by
            show σ2.1 = σ.1
            rw [l2.1]; rfl
          have hsh3 : hsh (rf_ua σ2 64 (4000 * r + e) (nI B)) (4000 * r + f) (tm e) q ↔ hsh σ (4000 * r + f) (tm e) q := by unfold hsh; rw [e65]
          have run : ∀ (σn : rf_S) (Q : rf_S → Prop) (j : Nat), (hsh σ (4000 * r + f) (tm e) q → σn = fnH (rf_ua σ2 64 (4000 * r + e) (nI B)) r (4000 * r + f) h) → (¬ hsh σ (4000 * r + f) (tm e) q → σn = fnA (rf_ua σ2 64 (4000 * r + e) (nI B)) r e (tm e) s (4000 * r + f) h na ns) → w_X12_looked_2 Q j σn (nI e) (nI (r + 1)) → w_X12_looked_2 Q (j + 1) σ (nI e) (nI r) := by
            intro σn Q j y1 y2 hQ
            refine h147 Q j ⟨fun z => by rw [hbk1] at z; exact (nomatch z), fun _ => reS _ ?_⟩
            rw [hr0]
            refine ⟨fun z => absurd z (nI_pos (n := s) (by omega)), fun _ => ⟨nI_in (N := 4001) (by omega) (by decide), ?_⟩⟩
            rw [nI_clamp (by omega : e < 2 ^ 31), hG3.1 8 (by omega), (hev e (Nat.le_refl _)).2.1]
            refine rfn (b := b) (bk := bk) (f := f) (q := q) (h := h) (na := na) (ns := ns) (by rw [e1]; exact h32) hbk hr12 hbb he hf4 (show s < 4000 by omega) (hev e (Nat.le_refl _)).2.2 hkey3 (by rw [e65]; exact hla) hR3.2.2.2.2.2.2.2.1 g9 (by rw [e66]; exact hh) hh2 (by rw [e1]; exact h78) hna (by rw [e1]; exact h83) hns (fun z => ?_) (fun z => ?_)
            · show w_X12_looked_2 Q j _ (nI e) (nI r + 1)
              rw [nI_1, ← y1 (hsh3.mp z)]; exact hQ
            · show w_X12_looked_2 Q j _ (nI e) (nI r + 1)
              rw [nI_1, ← y2 (fun y => z (hsh3.mpr y))]; exact hQ
          by_cases hz : hsh σ (4000 * r + f) (tm e) q
          · exact ⟨_, (((hG3.ua (by omega)).ua (by omega)).ui (by omega)), Or.inr ⟨f, B, σ2, hkh, hfk, l2, hB, hbits', hhi, hun', Or.inr (Or.inr ⟨hx4, hbk1, res, hst, Or.inr ⟨s, h, hr0, hse, hh, Or.inl ⟨hz, rfl⟩⟩⟩)⟩, fun Q j hQ => run _ Q j (fun _ => rfl) (fun y => absurd hz y) hQ⟩
          · have hGK : gE σ (fnK (rf_ua σ2 64 (4000 * r + e) (nI B)) r e (tm e) s (4000 * r + f) h na) := by
              unfold fnK
              split
              · exact (((((hG3.ua (by omega)).ua (by omega)).ua (by omega)).ua (by omega)).ua (by omega)).ua (by omega)
              · exact hG3.ua (by omega)
            exact ⟨_, ((((((hGK.ui (by omega)).ua (by omega)).ua (by omega)).ua (by omega)).ua (by omega)).ui (by omega)), Or.inr ⟨f, B, σ2, hkh, hfk, l2, hB, hbits', hhi, hun', Or.inr (Or.inr ⟨hx4, hbk1, res, hst, Or.inr ⟨s, h, hr0, hse, hh, Or.inr ⟨hz, rfl⟩⟩⟩)⟩, fun Q j hQ => run _ Q j (fun y => absurd y hz) (fun _ => rfl) hQ⟩
  rcases hkv with ⟨h1, h2⟩ | ⟨h1, f, h2, h3, h4, h5⟩ | ⟨h1, h2, h3⟩
  · refine ⟨rf_ua σ 63 (4000 * r + e) (-1), gE.rfl.ua (by omega), Or.inl ⟨h1, rfl⟩, fun Q j hQ => enter Q j (-1) (by rw [h2]; decide) (fun z => absurd z (by decide)) (fun _ => hQ)⟩
  · exact go f (by omega) h3 h1 (Or.inl ⟨h2, h4, h5⟩)
  · exact go e (Nat.le_refl _) h2 h1 (Or.inr ⟨rfl, h3⟩)
end LKR
