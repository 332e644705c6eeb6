/-! ===== a record: first what the reference makes of it, then the class ===== -/
section XR
variable {G : Nat → Nat} {rc tp z p te nw : Nat} {bf : Nat → Nat} {S0 : cs_S} {σ : rf_S} {bs : Int32}
theorem xrec (hJ0 : rdJ S0 σ rc tp z p bf) (hfs : fs S0) (hp : p < z) (hG0 : cs_k S0 (G 0) = 20 ∧ cs_n S0 (G 0) = 0) (h20 : σ.1 20 = nI te) (hte : te + 192 ≤ 24000) (hnw : nw ≤ 2000000000) (h22 : σ.1 22 = bs) (h21 : σ.1 21 = nI nw) :
    (∃ (σ' : rf_S) (p' te' m tn : Nat), p + 6 + 4 * m ≤ p' ∧ p' ≤ z ∧ nw ≤ tn ∧ tn ≤ 2000000000 ∧ sg 4000 32000 te σ σ' ∧ rdR σ' p' z ∧ σ'.1 20 = nI te' ∧ te ≤ te' ∧ te' + p ≤ te + p' ∧ σ'.1 31 = nI tn ∧ eW σ' te' 4000 m ∧ (∀ Q : Int32 → rf_S → Prop, Q 1 σ' → wp_X12_readsRecord Q σ (nI 4000)) ∧
      ∀ (S : cs_S) (post : Option Nat → cs_S → Prop), rdJ S σ rc tp z p bf → cs_k S (G 0) = 20 ∧ cs_n S (G 0) = 0 → (∀ q (S' : cs_S), rdJ S' σ' rc tp z p' bf → rg rc S S' → cs_k S q = 0 → cs_i S' 400 q = nI tn → cs_i S' 402 q = -1 → (∀ vs, cs_r S' 404 q = some vs → cs_k S vs = 0) → evR S' σ' te' q 4000 m → post (some q) S') → wp_X6_readRecord post G 19 247 S rc bs (nI nw)) ∨
    (∃ σ' : rf_S, sg 4000 32000 te σ σ' ∧ (∀ Q : Int32 → rf_S → Prop, Q 0 σ' → wp_X12_readsRecord Q σ (nI 4000)) ∧
      ∀ (S : cs_S) (post : Option Nat → cs_S → Prop), rdJ S σ rc tp z p bf → cs_k S (G 0) = 20 ∧ cs_n S (G 0) = 0 → (∀ S' : cs_S, rdB rc 4000 32000 te S S' σ σ' → post none S') → wp_X6_readRecord post G 19 247 S rc bs (nI nw)) := by
  refine ex_rec (post := fun _ _ => _) (fun _ _ x => x) hfs (sm_rec hJ0 hp hG0 h20 hte hnw h22 h21 (fun q S' σ' p' te' m tn a1 a2 a3 a4 a5 a6 a7 a8 a9 a10 a11 a12 a13 a14 a15 a16 => ?_) (fun S' a1 a2 a3 => ?_))
  · refine Or.inl ⟨σ', p', te', m, tn, a1, a4.2.1.2.2.2, a2, a3, a6, a4.2.1, a7, a8, a9, a10, a15.w (Nat.le_refl _), a16, fun S post hJ hG hpost => ?_⟩
    refine sm_rec hJ hp hG h20 hte hnw h22 h21 (fun q2 S2 σ2 p2 te2 m2 tn2 b1 b2 b3 b4 b5 b6 b7 b8 b9 b10 b11 b12 b13 b14 b15 b16 => ?_) (fun S2 b1 b2 b3 => ?_)
    · have e := (rec_one a16 b16).2
      subst e
      have hz := hJ0.2.1.2.2.1
      have hpp : p' = p2 := (nI_eq (by have := a4.2.1.2.2; omega) (by have := b4.2.1.2.2; omega)).mp (a4.2.1.2.1.symm.trans b4.2.1.2.1)
      have hte1 : te' = te2 := by
        have h1 := a7.symm.trans b7
        exact (nI_eq (by have := a4.2.1.2.2; omega) (by have := b4.2.1.2.2; omega)).mp h1
      have htn : tn = tn2 := (nI_eq (by omega) (by omega)).mp (a10.symm.trans b10)
      have hmm : m = m2 := by
        have h1 := a15.2.2.2.1.symm.trans b15.2.2.2.1
        exact (nI_eq (by have := a15.2.2.1; omega) (by have := b15.2.2.1; omega)).mp h1
      subst hpp
      subst hte1
      subst htn
      subst hmm
      exact hpost q2 S2 b4 b5 b11 b12 b13 b14 b15
    · exfalso
      exact dt_rec (P := fun r s => r = 1) (P' := fun r s => r = 0) (fun r s h1 h2 => by rw [h1] at h2; exact absurd h2 (by decide)) (a16 _ rfl) (b3 _ (fun _ _ => rfl))
  · obtain ⟨r, σ', ⟨hr, hB⟩, re⟩ := tr_rec (P := fun r s => r = 0 ∧ sg 4000 32000 te σ s) (a3 _ (fun σ' hb => ⟨rfl, hb.2.1⟩))
    subst hr
    refine Or.inr ⟨σ', hB, re, fun S post hJ hG hpost => ?_⟩
    refine sm_rec hJ hp hG h20 hte hnw h22 h21 (fun q2 S2 σ2 p2 te2 m2 tn2 b1 b2 b3 b4 b5 b6 b7 b8 b9 b10 b11 b12 b13 b14 b15 b16 => ?_) (fun S2 b1 b2 b3 => ?_)
    · exact absurd (rec_one re b16).1 (by decide)
    · refine hpost S2 ?_
      exact dt_rec (P := fun r s => s = σ') (P' := fun r s => rdB rc 4000 32000 te S S2 σ s) (fun r s h1 h2 => by rw [h1] at h2; exact h2) (re _ rfl) (b3 _ (fun _ hb => hb))
end XR
/-- the class's reader set to another place -/
theorem rdJ.at {S : cs_S} {σ σ' : rf_S} {rc tp z p p' : Nat} {bf : Nat → Nat} (h : rdJ S σ rc tp z p bf) (hr : rdR σ' p' z) (ht : ∀ j, j < z → σ'.2.2.1 1 j &&& 255 = nI (bf j)) : rdJ (cs_ui S 706 rc (nI p')) σ' rc tp z p' bf := by
  obtain ⟨⟨k1, k2, k3, k4, k5, k6, k7, k8⟩, -, h0, hb, ha, -⟩ := h
  exact ⟨⟨k1, k2, k3, k4, by rw [iui, if_neg (fun q => absurd q.1 (by decide))]; exact k5, by rw [iui, if_pos ⟨rfl, rfl⟩], k7, hr.2.2.2⟩, hr, by rw [iui, if_neg (fun q => absurd q.1 (by decide))]; exact h0, hb, ha, ht⟩
