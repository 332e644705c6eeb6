/-! ===== what a rule holds: the reference ===== -/
section HLR
variable {σ : rf_S} {post : Int32 → rf_S → Prop} {r b bk nl ne now w : Nat} {lr tm : Nat → Nat}
theorem hl_0 (c X : Int) : c + (((0 : Nat) : Int) * 1 + X) = c + X := by omega
theorem hl_1 (c X : Int) : c + (((1 : Nat) : Int) * 1 + X) = c + 1 + X := by omega
theorem r_h25 (h72 : σ.1 72 = nI nl) (hnl : nl ≤ 48000) (hr : r < 12) (hj : ∀ j, j < nl → lr j < 12 ∧ σ.2.2.1 69 j = nI (lr j)) : ∀ d j (c : Int), j + d = nl → post (yI (c + sS (fun j => lr j = r ∧ σ.2.2.1 71 j = 0) (fun _ => 1) j d)) σ → w_X12_heldOf_25 post (d + 1) σ (nI r) (yI c) (nI j) := by
  intro d
  induction d with
  | zero =>
    intro j c hd hp
    have : j = nl := by omega
    subst this
    refine ⟨fun _ => ?_, fun z => absurd (by rw [h72]; exact Int32.le_refl _) z⟩
    have e : c + sS (fun j => lr j = r ∧ σ.2.2.1 71 j = 0) (fun _ => 1) j 0 = c := Int.add_zero c
    rw [e] at hp; exact hp
  | succ d ih =>
    intro j c hd hp
    have cj : (nI j).toNatClampNeg = j := nI_clamp (by omega)
    rw [sS_down] at hp
    obtain ⟨l1, l2⟩ := hj j (by omega)
    have e1 : nI j + 1 = nI (j + 1) := lw_ad j 1
    have no : ¬ (lr j = r ∧ σ.2.2.1 71 j = 0) → w_X12_heldOf_60 post (w_X12_heldOf_25 post (d + 1)) σ (nI r) (nI j) (yI c) := fun q => by
      rw [one_n q, hl_0] at hp
      show w_X12_heldOf_25 post (d + 1) σ (nI r) (yI c + 0) (nI j + 1)
      rw [Int32.add_zero, e1]
      exact ih (j + 1) c (by omega) hp
    refine ⟨fun z => absurd (by rw [h72] at z; exact z) (nI_ge (a := j) (b := nl) (by omega) (by omega)), fun _ => ⟨nI_in (N := 48000) (by omega) (by decide), fun h1 => no (fun q => h1 (by rw [cj]; exact q.2)), fun h1 => ⟨nI_in (N := 48000) (by omega) (by decide), fun h2 => no (fun q => h2 (by rw [cj, l2, q.1])), fun h2 => ?_⟩⟩⟩
    rw [cj] at h1 h2
    have hlr : lr j = r := (nI_eq (by omega) (by omega)).mp (l2.symm.trans h2)
    rw [one_y ⟨hlr, h1⟩, hl_1] at hp
    show w_X12_heldOf_25 post (d + 1) σ (nI r) (yI c + 1) (nI j + 1)
    rw [yI_1, e1]
    exact ih (j + 1) (c + 1) (by omega) hp
theorem r_h74 (h19 : σ.1 19 = nI ne) (hne : ne ≤ 4000) (hr : r < 12) (h32 : σ.1 32 = nI bk) (hbk : bk ≤ 1) (hb : b = 12 * bk + r) (h38 : ¬ σ.2.2.1 38 b = 3) (h44 : σ.2.2.1 44 b = nI w) (hw : w ≤ 1000000) (h21 : σ.1 21 = nI now) (hnow : now ≤ 2000000000) (hk : ∀ o, o < ne → σ.2.2.1 63 (4000 * r + o) = -1 ∨ ∃ f, f ≤ o ∧ σ.2.2.1 63 (4000 * r + o) = nI f) (hev : ∀ o, o < ne → (∃ m, m ≤ 8 ∧ σ.2.2.1 9 o = nI m) ∧ σ.2.2.1 8 o = nI (tm o) ∧ tm o ≤ 2000000000) : ∀ d o (c : Int), o + d = ne → post (yI (c + sS (fun o => cO σ r b o ∧ now < tm o + w) (fun _ => 1) o d)) σ → w_X12_heldOf_74 post (d + 1) σ (nI r) (nI b) (yI c) (nI o) := by
  intro d
  induction d with
  | zero =>
    intro o c hd hp
    have : o = ne := by omega
    subst this
    refine ⟨fun _ => ?_, fun z => absurd (by rw [h19]; exact Int32.le_refl _) z⟩
    have e : c + sS (fun o => cO σ r b o ∧ now < tm o + w) (fun _ => 1) o 0 = c := Int.add_zero c
    rw [e] at hp; exact hp
  | succ d ih =>
    intro o c hd hp
    have co : (nI o).toNatClampNeg = o := nI_clamp (by omega)
    have cb : (nI b).toNatClampNeg = b := nI_clamp (by omega)
    have e4 : (4000 * nI r) + nI o = nI (4000 * r + o) := n4k r o
    have c4 : (nI (4000 * r + o)).toNatClampNeg = 4000 * r + o := nI_clamp (by omega)
    have e1 : nI o + 1 = nI (o + 1) := lw_ad o 1
    rw [sS_down] at hp
    obtain ⟨⟨m, hm, h9⟩, h8, ht⟩ := hev o (by omega)
    have no0 : ¬ (cO σ r b o ∧ now < tm o + w) → w_X12_heldOf_205 post (w_X12_heldOf_74 post (d + 1)) σ (nI r) (nI b) (yI c) (nI o) := fun q => by
      rw [one_n q, hl_0] at hp
      show w_X12_heldOf_74 post (d + 1) σ (nI r) (nI b) (yI c) (nI o + 1)
      rw [e1]
      exact ih (o + 1) c (by omega) hp
    have no : ¬ (cO σ r b o ∧ now < tm o + w) → w_X12_heldOf_171 post (w_X12_heldOf_74 post (d + 1)) σ (nI r) (nI b) (nI o) (yI c) := fun q => by
      rw [one_n q, hl_0] at hp
      show w_X12_heldOf_74 post (d + 1) σ (nI r) (nI b) (yI c + 0) (nI o + 1)
      rw [Int32.add_zero, e1]
      exact ih (o + 1) c (by omega) hp
    refine ⟨fun z => absurd (by rw [h19] at z; exact z) (nI_ge (a := o) (b := ne) (by omega) (by omega)), fun _ => ?_⟩
    rw [e4, c4]
    refine ⟨nI_in (N := 48000) (by omega) (by decide), fun h0 => ⟨nI_in (N := 24) (by omega) (by decide), fun h3 => absurd (by rw [cb] at h3; exact h3) h38, fun _ => ⟨nI_in (N := 48000) (by omega) (by decide), fun h1 => no (fun q => h1 q.1.2.1), fun h1 => rhi h32 hbk hr hb (by omega) hm h9 (fun hy => ⟨fun z => absurd z (by decide), fun _ => ⟨nI_in (N := 4001) (by omega) (by decide), nI_in (N := 24) (by omega) (by decide), ?_, ?_⟩⟩) (fun hn => ⟨fun _ => no (fun q => hn q.1.2.2), fun z => absurd rfl z⟩)⟩⟩, fun h0 => no0 (fun q => ?_)⟩
    · intro hc
      rw [co, cb, h8, h21, h44] at hc
      have := (tcmp (by omega) (by omega) (by omega)).mp hc
      exact no (fun q => by have := q.2; omega)
    · intro hc
      rw [co, cb, h8, h21, h44] at hc
      have h5 : now < tm o + w := Nat.not_le.mp (fun q => hc ((tcmp (by omega) (by omega) (by omega)).mpr q))
      have hk0 : hkO σ r o := fun q => by rw [q] at h0; exact absurd h0 (by decide)
      rw [one_y ⟨⟨hk0, h1, hy⟩, h5⟩, hl_1] at hp
      show w_X12_heldOf_74 post (d + 1) σ (nI r) (nI b) (yI c + 1) (nI o + 1)
      rw [yI_1, e1]
      exact ih (o + 1) (c + 1) (by omega) hp
    · rcases hk o (by omega) with z | ⟨f, hf, z⟩
      · exact q.1.1 z
      · exact h0 (by rw [z]; exact nI_le (a := 0) (Nat.zero_le f) (by omega))
end HLR
