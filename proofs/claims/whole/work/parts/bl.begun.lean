/-! ===== what a chain holds: the reference ===== -/
theorem yI_a (a b : Int) : yI a + yI b = yI (a + b) := by
  unfold yI
  rw [Int32.ofInt_add]
theorem cfn_le {M : Nat → Nat → Prop} : ∀ c t o, cfn M c t = some o → o < t := by
  intro c
  induction c with
  | zero =>
    intro t o h
    exact (lst_some t o h).1
  | succ c ih =>
    intro t o h
    unfold cfn at h
    cases e : lst (M (c + 1)) t with
    | none => rw [e] at h; cases h
    | some o' =>
      rw [e] at h
      have h1 := ih o' o h
      have h2 := (lst_some t o' e).1
      omega
/-- a chain of c + 1 events that is begun and may still be FOUND -/
def gCh (σ : rf_S) (r now w ne : Nat) (tm : Nat → Nat) (f c : Nat) : Prop := ∃ o, cfn (bM σ r f) c ne = some o ∧ now < tm o + w ∧ clr σ r f o ne
section BGR
variable {σ : rf_S} {post : Int32 → rf_S → Prop} {r b bk ne now w k f : Nat} {tm : Nat → Nat}
theorem r_begun (h19 : σ.1 19 = nI ne) (hne : ne ≤ 4000) (hr : r < 12) (hb : b < 24) (h40 : σ.2.2.1 40 b = nI k) (hk5 : k ≤ 5) (h44 : σ.2.2.1 44 b = nI w) (hw : w ≤ 1000000) (h21 : σ.1 21 = nI now) (hnow : now ≤ 2000000000) (hev : ∀ o, o < ne → σ.2.2.1 8 o = nI (tm o) ∧ tm o ≤ 2000000000) (hf : f < 4000) : ∀ d j (c : Int), j + 1 + d = k → post (yI (c + sS (gCh σ r now w ne tm f) (fun _ => 1) j d)) σ → w_X12_begun_16 post (d + 1) σ (nI r) (nI f) (nI b) (yI c) (nI (j + 1)) := by
  intro d
  induction d with
  | zero =>
    intro j c hd hp
    have cb : (nI b).toNatClampNeg = b := nI_clamp (by omega)
    refine ⟨nI_in (N := 24) (by omega) (by decide), fun _ => ?_, fun z => absurd ?_ z⟩
    · have e : c + sS (gCh σ r now w ne tm f) (fun _ => 1) j 0 = c := Int.add_zero c
      rw [e] at hp; exact hp
    · rw [cb, h40]; exact nI_le (by omega) (by omega)
  | succ d ih =>
    intro j c hd hp
    have cb : (nI b).toNatClampNeg = b := nI_clamp (by omega)
    have e1 : nI (j + 1) + 1 = nI (j + 1 + 1) := lw_ad (j + 1) 1
    rw [sS_down] at hp
    have no : ¬ gCh σ r now w ne tm f j → w_X12_begun_94 post (w_X12_begun_16 post (d + 1)) σ (nI r) (nI f) (nI b) (nI (j + 1)) (yI c) := fun q => by
      rw [one_n q, hl_0] at hp
      show w_X12_begun_16 post (d + 1) σ (nI r) (nI f) (nI b) (yI c + 0) (nI (j + 1) + 1)
      rw [Int32.add_zero, e1]
      exact ih (j + 1) c (by omega) hp
    refine ⟨nI_in (N := 24) (by omega) (by decide), fun z => absurd (by rw [cb, h40] at z; exact z) (nI_ge (a := j + 1) (b := k) (by omega) (by omega)), fun _ => ?_⟩
    rw [h19]
    refine rcf hr hf (by omega) hne ?_
    cases e : cfn (bM σ r f) j ne with
    | none =>
      refine ⟨fun _ => no (fun ⟨o, q, _⟩ => by rw [e] at q; cases q), fun z => absurd (by decide) z⟩
    | some o =>
      have ho := cfn_le _ _ _ e
      obtain ⟨h8, ht⟩ := hev o ho
      have co : (nI o).toNatClampNeg = o := nI_clamp (by omega)
      refine ⟨fun z => absurd z (nI_nlt (a := o) (b := 0) (by omega) (by omega)), fun _ => ⟨nI_in (N := 4001) (by omega) (by decide), nI_in (N := 24) (by omega) (by decide), ?_, ?_⟩⟩
      · intro hc
        have hc' : lg_cmp ((σ.2.2.1 8 (nI o).toNatClampNeg).toInt64) (((σ.1 21).toInt64) - ((σ.2.2.1 44 (nI b).toNatClampNeg).toInt64)) ≤ 0 := hc
        rw [co, cb, h8, h21, h44] at hc'
        have := (tcmp (by omega) (by omega) (by omega)).mp hc'
        exact no (fun ⟨o', q1, q2, _⟩ => by
          rw [e] at q1
          cases q1
          omega)
      · intro hc
        have hc' : ¬ lg_cmp ((σ.2.2.1 8 (nI o).toNatClampNeg).toInt64) (((σ.1 21).toInt64) - ((σ.2.2.1 44 (nI b).toNatClampNeg).toInt64)) ≤ 0 := hc
        rw [co, cb, h8, h21, h44] at hc'
        have h5 : now < tm o + w := Nat.not_le.mp (fun q => hc' ((tcmp (by omega) (by omega) (by omega)).mpr q))
        rw [h19]
        refine rcl hr hne (by omega) (fun hy => ⟨fun z => absurd z (by decide), fun _ => ?_⟩) (fun hn => ⟨fun _ => no (fun ⟨o', q1, _, q3⟩ => by
          rw [e] at q1
          cases q1
          exact hn q3), fun z => absurd rfl z⟩)
        rw [one_y (show gCh σ r now w ne tm f j from ⟨o, e, h5, hy⟩), hl_1] at hp
        show w_X12_begun_16 post (d + 1) σ (nI r) (nI f) (nI b) (yI c + 1) (nI (j + 1) + 1)
        rw [yI_1, e1]
        exact ih (j + 1) (c + 1) (by omega) hp
theorem r_h74c (h19 : σ.1 19 = nI ne) (hne : ne ≤ 4000) (hr : r < 12) (h32 : σ.1 32 = nI bk) (hbk : bk ≤ 1) (hb : b = 12 * bk + r) (h38 : σ.2.2.1 38 b = 3) (h40 : σ.2.2.1 40 b = nI k) (hk1 : 1 ≤ k) (hk5 : k ≤ 5) (h44 : σ.2.2.1 44 b = nI w) (hw : w ≤ 1000000) (h21 : σ.1 21 = nI now) (hnow : now ≤ 2000000000) (hk : ∀ o, o < ne → σ.2.2.1 63 (4000 * r + o) = -1 ∨ ∃ f, f ≤ o ∧ σ.2.2.1 63 (4000 * r + o) = nI f) (hev : ∀ o, o < ne → σ.2.2.1 8 o = nI (tm o) ∧ tm o ≤ 2000000000) : ∀ d o (c : Int), o + d = ne → post (yI (c + sS (fun f => σ.2.2.1 63 (4000 * r + f) = nI f) (fun f => sS (gCh σ r now w ne tm f) (fun _ => 1) 0 (k - 1)) o d)) σ → w_X12_heldOf_74 post (d + 1) σ (nI r) (nI b) (yI c) (nI o) := by
  intro d
  induction d with
  | zero =>
    intro o c hd hp
    have : o = ne := by omega
    subst this
    refine ⟨fun _ => ?_, fun z => absurd (by rw [h19]; exact Int32.le_refl _) z⟩
    have e : ∀ P v, c + sS P v o 0 = c := fun P v => Int.add_zero c
    rw [e] at hp; exact hp
  | succ d ih =>
    intro o c hd hp
    have co : (nI o).toNatClampNeg = o := nI_clamp (by omega)
    have cb : (nI b).toNatClampNeg = b := nI_clamp (by omega)
    have e4 : (4000 * nI r) + nI o = nI (4000 * r + o) := n4k r o
    have c4 : (nI (4000 * r + o)).toNatClampNeg = 4000 * r + o := nI_clamp (by omega)
    have e1 : nI o + 1 = nI (o + 1) := lw_ad o 1
    rw [sS_down] at hp
    have no0 : ¬ σ.2.2.1 63 (4000 * r + o) = nI o → w_X12_heldOf_205 post (w_X12_heldOf_74 post (d + 1)) σ (nI r) (nI b) (yI c) (nI o) := fun q => by
      rw [one_n q, show ∀ Y X : Int, c + (((0 : Nat) : Int) * Y + X) = c + X from fun Y X => by rw [show ((0 : Nat) : Int) = 0 from rfl, Int.zero_mul, Int.zero_add]] at hp
      show w_X12_heldOf_74 post (d + 1) σ (nI r) (nI b) (yI c) (nI o + 1)
      rw [e1]
      exact ih (o + 1) c (by omega) hp
    refine ⟨fun z => absurd (by rw [h19] at z; exact z) (nI_ge (a := o) (b := ne) (by omega) (by omega)), fun _ => ?_⟩
    rw [e4, c4]
    refine ⟨nI_in (N := 48000) (by omega) (by decide), fun h0 => ⟨nI_in (N := 24) (by omega) (by decide), fun _ => ⟨nI_in (N := 48000) (by omega) (by decide), fun h1 => no0 h1, fun h1 => ⟨k - 1 + 1, ?_⟩⟩, fun h3 => absurd (by rw [cb]; exact h38) h3⟩, fun h0 => no0 (fun q => ?_)⟩
    · have e12 : (12 * (σ.1 32)) + nI r = nI b := by rw [h32, n12, hb]
      rw [e12]
      refine r_begun h19 hne hr (by omega) h40 hk5 h44 hw h21 hnow hev (by omega) (k - 1) 0 0 (by omega) ?_
      rw [one_y h1, show ∀ Y X : Int, c + (((1 : Nat) : Int) * Y + X) = c + Y + X from fun Y X => by rw [show ((1 : Nat) : Int) = 1 from rfl, Int.one_mul, Int.add_assoc]] at hp
      rw [Int.zero_add]
      show w_X12_heldOf_74 post (d + 1) σ (nI r) (nI b) (yI c + yI _) (nI o + 1)
      rw [yI_a, e1]
      exact ih (o + 1) _ (by omega) hp
    · exact h0 (by rw [q]; exact nI_le (a := 0) (Nat.zero_le o) (by omega))
end BGR
