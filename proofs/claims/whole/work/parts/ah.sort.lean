/-! ===== names in their order ===== -/
theorem inj_surj {n : Nat} {π : Nat → Nat} (h1 : ∀ j, j < n → π j < n) (h2 : ∀ i j, i < n → j < n → π i = π j → i = j) : ∀ m, m < n → ∃ j, j < n ∧ π j = m := by
  intro m hm
  by_cases c : ∃ j, j < n ∧ π j = m
  · exact c
  · exfalso
    have hne : ∀ j, j < n → π j ≠ m := fun j hj e => c ⟨j, hj, e⟩
    have := php (n - 1) n (fun j => if π j < m then π j else π j - 1) (fun i hi => by
      have a := h1 i hi
      have b := hne i hi
      show (if π i < m then π i else π i - 1) < n - 1
      split <;> omega) (fun i j hi hj he => by
      have a := hne i hi
      have b := hne j hj
      have he' : (if π i < m then π i else π i - 1) = (if π j < m then π j else π j - 1) := he
      refine h2 i j hi hj ?_
      split at he' <;> split at he' <;> omega)
    omega
theorem srt_ex {Y : Nat → Int64} : ∀ k, (∀ i j, i < k → j < k → Y i = Y j → i = j) → ∃ π, srt Y k π := by
  intro k
  induction k with
  | zero => intro _; exact ⟨fun j => j, fun j hj => absurd hj (by omega), fun i j hi => absurd hi (by omega), fun i j _ hj => absurd hj (by omega)⟩
  | succ k ih =>
    intro hd
    obtain ⟨π, hs⟩ := ih (fun i j hi hj => hd i j (by omega) (by omega))
    obtain ⟨m, hm1, hm2⟩ := least_of (P := fun m => m = k ∨ (m < k ∧ Y k < Y (π m))) ⟨k, Or.inl rfl⟩
    have hmk : m ≤ k := by rcases hm1 with z | z <;> omega
    refine ⟨insP π m k, srt_ins hs hmk (fun i hi e => by have := hd i k (by omega) (by omega) e; omega) ?_ (fun j h1 h2 => ?_)⟩
    · by_cases c : m = 0
      · exact Or.inl c
      · have := hm2 (m - 1) (by omega)
        exact Or.inr (Int64.not_lt.mp (fun z => this (Or.inr ⟨by omega, z⟩)))
    · rcases hm1 with z | z
      · omega
      · by_cases c : m = j
        · rw [← c]; exact z.2
        · exact Int64.lt_trans z.2 (hs.2.2 m j (by omega) h2)
theorem srt_uni {Y : Nat → Int64} {n : Nat} {π ρ : Nat → Nat} (hd : ∀ i j, i < n → j < n → Y i = Y j → i = j) (h : srt Y n π) (g : srt Y n ρ) : ∀ j, j < n → π j = ρ j := by
  have sp := inj_surj h.1 h.2.1
  have sr := inj_surj g.1 g.2.1
  have key : ∀ N j, j < N → j < n → π j = ρ j := by
    intro N
    induction N with
    | zero => intro j hj; omega
    | succ N ih =>
      intro j hj hjn
      have low : ∀ i, i < j → π i = ρ i := fun i hi => ih i (by omega) (by omega)
      refine hd _ _ (h.1 j hjn) (g.1 j hjn) ?_
      by_cases c1 : Y (π j) < Y (ρ j)
      · exfalso
        obtain ⟨i, hi, hie⟩ := sr (π j) (h.1 j hjn)
        by_cases c : i < j
        · have := h.2.1 i j (by omega) hjn (by rw [low i c, hie])
          omega
        · by_cases c2 : i = j
          · rw [c2] at hie
            rw [hie] at c1
            exact Int64.lt_irrefl c1
          · have h3 := g.2.2 j i (by omega) hi
            rw [hie] at h3
            exact Int64.lt_irrefl (Int64.lt_trans c1 h3)
      · by_cases c2 : Y (ρ j) < Y (π j)
        · exfalso
          obtain ⟨i, hi, hie⟩ := sp (ρ j) (g.1 j hjn)
          by_cases c : i < j
          · have := g.2.1 i j (by omega) hjn (by rw [← low i c, hie])
            omega
          · by_cases c3 : i = j
            · rw [c3] at hie
              rw [hie] at c2
              exact Int64.lt_irrefl c2
            · have h3 := h.2.2 j i (by omega) hi
              rw [hie] at h3
              exact Int64.lt_irrefl (Int64.lt_trans c2 h3)
        · exact Int64.le_antisymm (Int64.not_lt.mp c2) (Int64.not_lt.mp c1)
  exact fun j hj => key (j + 1) j (by omega) hj
/-! the reference looks for the next of them -/
section RMK
variable {σ : rf_S} {b r fr e n kk : Nat} {π : Nat → Nat} {post : rf_S → Prop}
/-- what is the next behind prev -/
def cdN (Y : Nat → Int64) (π : Nat → Nat) (kk i : Nat) : Prop := kk = 0 ∨ Y (π (kk - 1)) < Y i
def lsN (Y : Nat → Int64) (π : Nat → Nat) (kk i : Nat) : Option Nat → Prop
  | none => ∀ i', i' < i → ¬ cdN Y π kk i'
  | some m => m < i ∧ cdN Y π kk m ∧ ∀ i', i' < i → cdN Y π kk i' → Y m ≤ Y i'
theorem lsN_end (hs : srt (fun i => σ.2.2.2 37 (3 * b + i)) n π) (hk : kk < n) {ls : Option Nat} (h : lsN (fun i => σ.2.2.2 37 (3 * b + i)) π kk n ls) (hd : ∀ i j, i < n → j < n → σ.2.2.2 37 (3 * b + i) = σ.2.2.2 37 (3 * b + j) → i = j) : ls = some (π kk) := by
  have hc : cdN (fun i => σ.2.2.2 37 (3 * b + i)) π kk (π kk) := by
    by_cases c : kk = 0
    · exact Or.inl c
    · exact Or.inr (hs.2.2 (kk - 1) kk (by omega) hk)
  cases ls with
  | none => exact absurd hc (h _ (hs.1 kk hk))
  | some m =>
    obtain ⟨h1, h2, h3⟩ := h
    obtain ⟨j, hj, hjm⟩ := inj_surj hs.1 hs.2.1 m h1
    have h4 := h3 _ (hs.1 kk hk) hc
    have hkj : kk ≤ j := by
      rcases h2 with z | z
      · omega
      · rw [← hjm] at z
        by_cases c : kk ≤ j
        · exact c
        · exfalso
          by_cases c2 : j = kk - 1
          · rw [c2] at z; exact Int64.lt_irrefl z
          · exact Int64.lt_irrefl (Int64.lt_trans z (hs.2.2 j (kk - 1) (by omega) (by omega)))
    by_cases c : j = kk
    · rw [← hjm, c]
    · exfalso
      have h5 := hs.2.2 kk j (by omega) hj
      rw [← hjm] at h4
      exact absurd h5 (Int64.not_lt.mpr h4)
theorem mk_106 {k89 : rf_S → Int32 → Int32 → Int32 → Int32 → Int32 → Prop} (hb : b < 24) (he : e < 4000) (h43 : σ.2.2.1 43 b = nI n) (hn3 : n ≤ 3) (hk : kk < n) (hs : srt (fun i => σ.2.2.2 37 (3 * b + i)) n π) (hd : ∀ i j, i < n → j < n → σ.2.2.2 37 (3 * b + i) = σ.2.2.2 37 (3 * b + j) → i = j) (hprev : 0 < kk → σ.2.2.2 13 (8 * e + (kk - 1)) = σ.2.2.2 37 (3 * b + π (kk - 1)))
    (hp : wp_X12_fieldOf (fun r4 σ4 => wp_X12_moved (fun σ5 => k89 σ5 (nI r) (nI fr) (nI b) (nI e) (nI (kk + 1))) σ4 r4 (nI (8 * e + kk))) σ (nI fr) (σ.2.2.2 37 (3 * b + π kk))) : ∀ d i ls, i + d = n → lsN (fun i => σ.2.2.2 37 (3 * b + i)) π kk i ls → w_X12_makes_106 post k89 (d + 1) σ (nI r) (nI fr) (nI b) (nI e) (nI kk) (oI ls) (nI i) := by
  have i43 : vp_in (nI b) (rf_n 43) := nI_in (N := 24) hb (by decide)
  have c43 : (nI b).toNatClampNeg = b := nI_clamp (by omega)
  have i37 : ∀ i, i < 3 → vp_in (nI (3 * b + i)) (rf_n 37) := fun i hi => nI_in (N := 72) (by omega) (by decide)
  intro d
  induction d with
  | zero =>
    intro i ls hi hls
    have hin : i = n := by omega
    subst hin
    have hl := lsN_end hs hk hls hd
    subst hl
    refine ⟨i43, fun _ => ?_, fun z => ?_⟩
    · have hpk := hs.1 kk hk
      rw [show oI (some (π kk)) = nI (π kk) from rfl, n3, nI_1, n8, nI_clamp (by omega)]
      exact ⟨i37 _ (by omega), hp⟩
    · rw [c43, h43] at z
      exact absurd (nI_le (Nat.le_refl _) (by omega)) z
  | succ d ih =>
    intro i ls hi hls
    have ci : (nI (3 * b + i)).toNatClampNeg = 3 * b + i := nI_clamp (by omega)
    have keep : lsN (fun i => σ.2.2.2 37 (3 * b + i)) π kk (i + 1) ls → w_X12_makes_187 post k89 (w_X12_makes_106 post k89 (d + 1)) σ (nI r) (nI fr) (nI b) (nI e) (nI kk) (oI ls) (nI i) := fun h => by
      show w_X12_makes_106 post k89 (d + 1) σ (nI r) (nI fr) (nI b) (nI e) (nI kk) (oI ls) (nI i + 1)
      rw [nI_1]
      exact ih (i + 1) ls (by omega) h
    have take : lsN (fun i => σ.2.2.2 37 (3 * b + i)) π kk (i + 1) (some i) → w_X12_makes_183 post k89 (w_X12_makes_106 post k89 (d + 1)) σ (nI r) (nI fr) (nI b) (nI e) (nI kk) (nI i) := fun h => by
      show w_X12_makes_106 post k89 (d + 1) σ (nI r) (nI fr) (nI b) (nI e) (nI kk) (nI i) (nI i + 1)
      rw [nI_1]
      exact ih (i + 1) (some i) (by omega) h
    have at152 : cdN (fun i => σ.2.2.2 37 (3 * b + i)) π kk i → w_X12_makes_152 post k89 (w_X12_makes_106 post k89 (d + 1)) σ (nI r) (nI fr) (nI b) (nI e) (nI kk) (oI ls) (nI i) := fun hc => by
      cases ls with
      | none =>
        refine ⟨fun _ => take ⟨by omega, hc, fun i' h1 h2 => ?_⟩, fun z => absurd (show (-1 : Int32) < 0 by decide) z⟩
        by_cases c : i' = i
        · rw [c]; exact Int64.le_refl _
        · exact absurd h2 (hls i' (by omega))
      | some m =>
        obtain ⟨h1, h2, h3⟩ := hls
        have cm : (nI (3 * b + m)).toNatClampNeg = 3 * b + m := nI_clamp (by omega)
        refine ⟨fun z => absurd (nI_pos' (n := m) (by omega)) (Int32.not_le.mpr z), fun _ => ?_⟩
        show vp_in ((3 * nI b) + nI i) (rf_n 37) ∧ vp_in ((3 * nI b) + nI m) (rf_n 37) ∧ _
        rw [n3, n3]
        refine ⟨i37 i (by omega), i37 m (by omega), fun z => keep ⟨by omega, h2, fun i' g1 g2 => ?_⟩, fun z => take ⟨by omega, hc, fun i' g1 g2 => ?_⟩⟩
        · rw [ci] at z
          have z' := lg_nn.mp z
          by_cases c : i' = i
          · rw [c]
            have : (nI m) = (oI (some m)) := rfl
            rw [show (oI (some m)) = nI m from rfl, n3, cm] at z'
            exact z'
          · exact h3 i' (by omega) g2
        · rw [ci] at z
          have z' := fun w => z (lg_nn.mpr w)
          rw [show (oI (some m)) = nI m from rfl, n3, cm] at z'
          have zz : σ.2.2.2 37 (3 * b + i) < σ.2.2.2 37 (3 * b + m) := Int64.not_le.mp z'
          by_cases c : i' = i
          · rw [c]; exact Int64.le_refl _
          · exact Int64.le_trans (Int64.le_of_lt zz) (h3 i' (by omega) g2)
    refine ⟨i43, fun z => ?_, fun _ => ⟨fun z => ?_, fun z => ?_⟩⟩
    · rw [c43, h43] at z
      exact absurd z (nI_ge (by omega) (by omega))
    · exact at152 (Or.inl ((nI_eq (a := kk) (b := 0) (by omega) (by omega)).mp z))
    · have hk0 : 0 < kk := by
        refine Nat.pos_of_ne_zero (fun y => z ?_)
        rw [y]; rfl
      have e8 : ((8 * nI e) + nI kk) - 1 = nI (8 * e + (kk - 1)) := by
        rw [n8, show 8 * e + kk = 8 * e + (kk - 1) + 1 from by omega]
        exact nI_pred _
      have c8 : (nI (8 * e + (kk - 1))).toNatClampNeg = 8 * e + (kk - 1) := nI_clamp (by omega)
      show vp_in ((3 * nI b) + nI i) (rf_n 37) ∧ vp_in (((8 * nI e) + nI kk) - 1) (rf_n 13) ∧ _
      rw [n3, e8]
      refine ⟨i37 i (by omega), nI_in (N := 32008) (by omega) (by decide), fun y => keep ?_, fun y => at152 (Or.inr ?_)⟩
      · rw [ci, c8, hprev hk0, lg_np] at y
        have hnc : ¬ cdN (fun i => σ.2.2.2 37 (3 * b + i)) π kk i := fun w => by
          rcases w with w | w
          · omega
          · exact absurd w (Int64.not_lt.mpr y)
        cases ls with
        | none =>
          intro i' h1
          by_cases c : i' = i
          · rw [c]; exact hnc
          · exact hls i' (by omega)
        | some m =>
          obtain ⟨h1, h2, h3⟩ := hls
          refine ⟨by omega, h2, fun i' g1 g2 => ?_⟩
          by_cases c : i' = i
          · rw [c] at g2; exact absurd g2 hnc
          · exact h3 i' (by omega) g2
      · rw [ci, c8, hprev hk0, lg_np] at y
        exact Int64.not_le.mp y
end RMK
