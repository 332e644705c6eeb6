/-! ===== packing words, both in step ===== -/
/-- letters f: what the word holds -/
def wdF (n : Nat) (f : Nat → Nat) : Prop := n ≤ 12 ∧ ∀ i, (i < n ∧ 1 ≤ f i ∧ f i ≤ 26) ∨ (n ≤ i ∧ f i = 0)
section CLE
variable {G : Nat → Nat} {S : cs_S} {n : Nat} {f : Nat → Nat}
theorem cla {P : Int32 → cs_S → Prop} (hf : wdF n f) {k : Nat} (hk : k ≤ 11) (h : P (nI (f k + 96)) S) : wp_X11_letterAt P G S (Int64.ofNat (dg 5 12 f 12)) (nI k) := by
  show P _ S
  rw [cl_at (c := 0) (h := 0) (l := 0) hf.2 hk]
  exact h
theorem cl_2 {post : Int32 → cs_S → Prop} (hf : wdF n f) (h : post (nI n) S) : ∀ r k, k + r = n → w_X11_lettersOf_2 post G (r + 1) S (Int64.ofNat (dg 5 12 f 12)) (nI k) := by
  intro r
  induction r with
  | zero =>
    intro k hk
    have : k = n := by omega
    subst this
    have hn := hf.1
    refine ⟨fun _ => h, fun hc => ?_⟩
    have hk11 : k ≤ 11 := Nat.lt_succ_iff.mp (Nat.not_le.mp (fun q => hc (nI_le (a := 12) q (by omega))))
    have h0 : f k = 0 := by have := hf.2 k; omega
    refine cla hf hk11 ⟨fun _ => h, fun hd => absurd ?_ hd⟩
    rw [h0]; decide
  | succ r ih =>
    intro k hk
    have hn := hf.1
    have hfk := hf.2 k
    refine ⟨fun hc => absurd hc (nI_ge (a := k) (b := 12) (by omega) (by decide)), fun _ => cla hf (by omega) ⟨fun hd => absurd hd (nI_nlt (b := 97) (by omega) (by omega)), fun _ => ?_⟩⟩
    rw [nI_1]
    exact ih (k + 1) (by omega)
theorem cl_of {post : Int32 → cs_S → Prop} (hf : wdF n f) (h : post (nI n) S) : wp_X11_lettersOf post G S (Int64.ofNat (dg 5 12 f 12)) := ⟨n + 1, cl_2 hf h n 0 (by omega)⟩
end CLE
section RLE
variable {σ : rf_S} {n e : Nat} {f : Nat → Nat}
theorem rla {P : Int32 → rf_S → Prop} (hf : wdF n f) (he : e ≤ 4000) (h11 : σ.2.2.2 11 e = Int64.ofNat (dg 8 8 (w8 f) 8)) (h12 : σ.2.2.2 12 e = Int64.ofNat (dg 8 8 (w8 (fun i => f (i + 8))) 8)) {k : Nat} (hk : k ≤ 11) (h : P (nI (w8 f k)) σ) : wp_X12_letter P σ (nI e) (nI k) := by
  have h26 := wd_26 hf.2
  have hw : w8 f k < 256 := w8_lt h26 k
  refine ⟨fun h8 => ⟨nI_in (N := 4001) (by omega) (by decide), ?_⟩, fun h8 => ⟨nI_in (N := 4001) (by omega) (by decide), ?_⟩⟩
  · have hk8 : 8 ≤ k := (nI_leI (a := 8) (by decide) (by omega)).mp h8
    obtain ⟨c, rfl⟩ : ∃ c, k = c + 8 := ⟨k - 8, by omega⟩
    show P (((σ.2.2.2 12 (nI e).toNatClampNeg >>> ((56 - (8 * (nI (c + 8) - 8))).toInt64 &&& 63)) &&& 255).toInt32) σ
    rw [nI_clamp (by omega), h12, nI_m8, rl_at (f := fun i => f (i + 8)) (fun i => h26 (i + 8)) (by omega)]
    have e2 : w8 (fun i => f (i + 8)) c = w8 f (c + 8) := rfl
    rw [e2, i64_32 (by omega)]
    exact h
  · have hk8 : k < 8 := Nat.not_le.mp (fun q => h8 (nI_le (a := 8) q (by omega)))
    show P (((σ.2.2.2 11 (nI e).toNatClampNeg >>> ((56 - (8 * nI k)).toInt64 &&& 63)) &&& 255).toInt32) σ
    rw [nI_clamp (by omega), h11, rl_at h26 (by omega), i64_32 (by omega)]
    exact h
theorem w8_0 {k : Nat} (hf : wdF n f) (hk : n ≤ k) : w8 f k = 0 := by
  have := hf.2 k
  unfold w8
  rw [if_pos (by omega)]
theorem w8_1 {k : Nat} (hf : wdF n f) (hk : k < n) : w8 f k = f k + 96 := by
  have := hf.2 k
  unfold w8
  rw [if_neg (by omega)]
/-- how many letters the kind has: event() and pack() -/
theorem re_33 {post : Int32 → rf_S → Prop} {x2 : Int32} (hf : wdF n f) (he : e ≤ 4000) (h11 : σ.2.2.2 11 e = Int64.ofNat (dg 8 8 (w8 f) 8)) (h12 : σ.2.2.2 12 e = Int64.ofNat (dg 8 8 (w8 (fun i => f (i + 8))) 8)) (h : w_X12_event_54 post σ (nI e) x2 (nI n)) : ∀ r k, k + r = n → w_X12_event_33 post (r + 1) σ (nI e) x2 (nI k) := by
  intro r
  induction r with
  | zero =>
    intro k hk
    have : k = n := by omega
    subst this
    have hn := hf.1
    refine ⟨fun _ => h, fun hc => ?_⟩
    have hk11 : k ≤ 11 := Nat.lt_succ_iff.mp (Nat.not_le.mp (fun q => hc (nI_le (a := 12) q (by omega))))
    refine rla hf he h11 h12 hk11 ⟨fun _ => h, fun hd => absurd ?_ hd⟩
    rw [w8_0 hf (Nat.le_refl _)]; decide
  | succ r ih =>
    intro k hk
    have hn := hf.1
    have hfk := hf.2 k
    refine ⟨fun hc => absurd hc (nI_ge (a := k) (b := 12) (by omega) (by decide)), fun _ => rla hf he h11 h12 (by omega) ⟨fun hd => ?_, fun _ => ?_⟩⟩
    · rw [w8_1 hf (by omega)] at hd
      exact absurd hd (nI_nle (by omega) (by omega))
    · rw [nI_1]
      exact ih (k + 1) (by omega)
theorem rp_84 {post : Int32 → rf_S → Prop} (hf : wdF n f) (he : e ≤ 4000) (h11 : σ.2.2.2 11 e = Int64.ofNat (dg 8 8 (w8 f) 8)) (h12 : σ.2.2.2 12 e = Int64.ofNat (dg 8 8 (w8 (fun i => f (i + 8))) 8)) (h : w_X12_pack_105 post σ (nI e) (nI n)) : ∀ r k, k + r = n → w_X12_pack_84 post (r + 1) σ (nI e) (nI k) := by
  intro r
  induction r with
  | zero =>
    intro k hk
    have : k = n := by omega
    subst this
    have hn := hf.1
    refine ⟨fun _ => h, fun hc => ?_⟩
    have hk11 : k ≤ 11 := Nat.lt_succ_iff.mp (Nat.not_le.mp (fun q => hc (nI_le (a := 12) q (by omega))))
    refine rla hf he h11 h12 hk11 ⟨fun _ => h, fun hd => absurd ?_ hd⟩
    rw [w8_0 hf (Nat.le_refl _)]; decide
  | succ r ih =>
    intro k hk
    have hn := hf.1
    have hfk := hf.2 k
    refine ⟨fun hc => absurd hc (nI_ge (a := k) (b := 12) (by omega) (by decide)), fun _ => rla hf he h11 h12 (by omega) ⟨fun hd => ?_, fun _ => ?_⟩⟩
    · rw [w8_1 hf (by omega)] at hd
      exact absurd hd (nI_nle (by omega) (by omega))
    · rw [nI_1]
      exact ih (k + 1) (by omega)
end RLE
/-- the reference behind the letters of a kind -/
def pkK (post : Int32 → rf_S → Prop) (x1 : Int32) (σ : rf_S) : Prop := vp_in x1 (rf_n 9) ∧ wp_X12_put (fun σ17 => ∃ n9, w_X12_pack_145 post n9 σ17 x1 0) σ (σ.2.2.1 9 x1.toNatClampNeg)
/-- .. and of a name -/
def pkF (post : rf_S → Prop) (x1 : Int32) (σ : rf_S) : Prop := vp_in x1 (rf_n 14) ∧ wp_X12_put (fun σ12 => vp_in x1 (rf_n 14) ∧ (¬ (σ12.2.2.1 14 x1.toNatClampNeg) = 0 → w_X12_putField_131 post σ12 x1) ∧ ((σ12.2.2.1 14 x1.toNatClampNeg) = 0 → vp_in x1 (rf_n 15) ∧ vp_in x1 (rf_n 15) ∧ (0 ≤ (σ12.2.2.1 15 x1.toNatClampNeg) → w_X12_putField_127 post σ12 x1 ((((σ12.2.2.1 15 x1.toNatClampNeg).toInt64) <<< ((1 : Int32).toInt64 &&& 63)) &&& 4294967295) 0) ∧ (¬ 0 ≤ (σ12.2.2.1 15 x1.toNatClampNeg) → w_X12_putField_127 post σ12 x1 ((((σ12.2.2.1 15 x1.toNatClampNeg).toInt64) <<< ((1 : Int32).toInt64 &&& 63)) &&& 4294967295) 4294967295))) σ (σ.2.2.1 14 x1.toNatClampNeg)
section PW
variable {G : Nat → Nat} {rc pk n e f1 : Nat} {f : Nat → Nat} {post : cs_S → Prop}
theorem sp_kl (hf : wdF n f) (he : e ≤ 4000) : ∀ r k (S : cs_S) (σ : rf_S) y, k + r = n → pkJ S σ rc pk y → y + r ≤ 301 → σ.2.2.2 11 e = Int64.ofNat (dg 8 8 (w8 f) 8) → σ.2.2.2 12 e = Int64.ofNat (dg 8 8 (w8 (fun i => f (i + 8))) 8) → (∀ S' σ', pkJ S' σ' rc pk (y + r) → pg rc pk S S' → qg σ σ' → (∀ Q : Int32 → rf_S → Prop, pkK Q (nI e) σ' → w_X12_pack_112 Q (r + 1) σ (nI e) (nI n) (nI k)) → post S') → w_X6_putWord_13 post G (r + 1) S rc (Int64.ofNat (dg 5 12 f 12)) (nI n) (nI k) := by
  have hn := hf.1
  intro r
  induction r with
  | zero =>
    intro k S σ y hk hJ hy h11 h12 h
    have : k = n := by omega
    subst this
    exact ⟨fun _ => h S σ hJ pg.rfl qg.rfl (fun Q hQ => ⟨fun _ => hQ, fun hc => absurd (nI_le (Nat.le_refl _) (by omega)) hc⟩), fun hc => absurd (nI_le (Nat.le_refl _) (by omega)) hc⟩
  | succ r ih =>
    intro k S σ y hk hJ hy h11 h12 h
    have hfk := hf.2 k
    refine ⟨fun hc => absurd hc (nI_ge (by omega) (by omega)), fun _ => cla hf (by omega) ⟨hJ.1, sp_put (x := nI (w8 f k)) hJ (by omega) ⟨f k + 96, by omega, rfl⟩ (by rw [w8_1 hf (by omega)]; exact nar8 _ (by omega)) (fun S1 σ1 J1 p1 q1 re1 => ?_)⟩⟩
    rw [nI_1]
    refine ih (k + 1) S1 σ1 (y + 1) (by omega) J1 (by omega) (by rw [q1.2.2.2]; exact h11) (by rw [q1.2.2.2]; exact h12) (fun S2 σ2 J2 p2 q2 re2 => h S2 σ2 (by rw [show y + (r + 1) = y + 1 + r from by omega]; exact J2) (p1.trans p2) (q1.trans q2) (fun Q hQ => ⟨fun hc => absurd hc (nI_ge (by omega) (by omega)), fun _ => rla hf he h11 h12 (by omega) (re1 _ ?_)⟩))
    rw [nI_1]
    exact re2 Q hQ
/-- the kind of an event -/
theorem sp_kind {S : cs_S} {σ : rf_S} {y : Nat} (hf : wdF n f) (he : e ≤ 4000) (hJ : pkJ S σ rc pk y) (hy : y + 13 ≤ 301) (h11 : σ.2.2.2 11 e = Int64.ofNat (dg 8 8 (w8 f) 8)) (h12 : σ.2.2.2 12 e = Int64.ofNat (dg 8 8 (w8 (fun i => f (i + 8))) 8)) (h : ∀ S' σ' y', pkJ S' σ' rc pk y' → y' ≤ y + 13 → pg rc pk S S' → qg σ σ' → (∀ Q : Int32 → rf_S → Prop, pkK Q (nI e) σ' → ∃ n9, w_X12_pack_84 Q n9 σ (nI e) 0) → post S') : wp_X6_putWord post G S rc (Int64.ofNat (dg 5 12 f 12)) := by
  have hn := hf.1
  refine cl_of hf ⟨hJ.1, sp_put (x := nI n) hJ (by omega) ⟨n, by omega, rfl⟩ (nar8 n (by omega)) (fun S1 σ1 J1 p1 q1 re1 => ⟨n + 1, ?_⟩)⟩
  refine sp_kl hf he n 0 S1 σ1 (y + 1) (by omega) J1 (by omega) (by rw [q1.2.2.2]; exact h11) (by rw [q1.2.2.2]; exact h12) (fun S2 σ2 J2 p2 q2 re2 => h S2 σ2 (y + 1 + n) J2 (by omega) (p1.trans p2) (q1.trans q2) (fun Q hQ => ⟨n + 1, rp_84 hf he h11 h12 (re1 _ ⟨n + 1, re2 Q hQ⟩) n 0 (by omega)⟩))
theorem rn_at {σ : rf_S} (hf : wdF n f) (hf1 : f1 < 32008) (h13 : σ.2.2.2 13 f1 = Int64.ofNat (dg 8 8 (w8 f) 8)) {k : Nat} (hk : k ≤ 7) : ((σ.2.2.2 13 (nI f1).toNatClampNeg) >>> ((56 - (8 * nI k)).toInt64 &&& 63)) &&& 255 = Int64.ofNat (w8 f k) := by
  rw [nI_clamp (by omega), h13, rl_at (wd_26 hf.2) hk]
theorem rf_2 {σ : rf_S} {post : rf_S → Prop} (hf : wdF n f) (hn8 : n ≤ 8) (hf1 : f1 < 32008) (h13 : σ.2.2.2 13 f1 = Int64.ofNat (dg 8 8 (w8 f) 8)) (h : w_X12_putField_37 post σ (nI f1) (nI n)) : ∀ r k, k + r = n → w_X12_putField_2 post (r + 1) σ (nI f1) (nI k) := by
  intro r
  induction r with
  | zero =>
    intro k hk
    have : k = n := by omega
    subst this
    refine ⟨fun _ => h, fun hc => ⟨nI_in (N := 32008) hf1 (by decide), fun _ => h, fun hd => absurd ?_ hd⟩⟩
    have hk8 : k < 8 := Nat.not_le.mp (fun q => hc (nI_le (a := 8) q (by omega)))
    rw [rn_at hf hf1 h13 (by omega), w8_0 hf (Nat.le_refl _)]
    decide
  | succ r ih =>
    intro k hk
    have hfk := hf.2 k
    refine ⟨fun hc => absurd hc (nI_ge (a := k) (b := 8) (by omega) (by decide)), fun _ => ⟨nI_in (N := 32008) hf1 (by decide), fun hd => ?_, fun _ => ?_⟩⟩
    · rw [rn_at hf hf1 h13 (by omega), w8_1 hf (by omega), ← Int32.not_lt, lg_pos] at hd
      exact absurd ((i64_lt (a := 0) (by decide) (by omega)).mpr (by omega)) hd
    · rw [nI_1]
      exact ih (k + 1) (by omega)
theorem sp_nl (hf : wdF n f) (hn8 : n ≤ 8) (hf1 : f1 < 32008) : ∀ r k (S : cs_S) (σ : rf_S) y, k + r = n → pkJ S σ rc pk y → y + r ≤ 301 → σ.2.2.2 13 f1 = Int64.ofNat (dg 8 8 (w8 f) 8) → (∀ S' σ', pkJ S' σ' rc pk (y + r) → pg rc pk S S' → qg σ σ' → (∀ Q : rf_S → Prop, pkF Q (nI f1) σ' → w_X12_putField_44 Q (r + 1) σ (nI f1) (nI n) (nI k)) → post S') → w_X6_putWord_13 post G (r + 1) S rc (Int64.ofNat (dg 5 12 f 12)) (nI n) (nI k) := by
  intro r
  induction r with
  | zero =>
    intro k S σ y hk hJ hy h13 h
    have : k = n := by omega
    subst this
    exact ⟨fun _ => h S σ hJ pg.rfl qg.rfl (fun Q hQ => ⟨fun _ => hQ, fun hc => absurd (nI_le (Nat.le_refl _) (by omega)) hc⟩), fun hc => absurd (nI_le (Nat.le_refl _) (by omega)) hc⟩
  | succ r ih =>
    intro k S σ y hk hJ hy h13 h
    have hfk := hf.2 k
    refine ⟨fun hc => absurd hc (nI_ge (by omega) (by omega)), fun _ => cla hf (by omega) ⟨hJ.1, sp_put (x := nI (w8 f k)) hJ (by omega) ⟨f k + 96, by omega, rfl⟩ (by rw [w8_1 hf (by omega)]; exact nar8 _ (by omega)) (fun S1 σ1 J1 p1 q1 re1 => ?_)⟩⟩
    rw [nI_1]
    have hw : w8 f k < 2 ^ 31 := by rw [w8_1 hf (by omega)]; omega
    refine ih (k + 1) S1 σ1 (y + 1) (by omega) J1 (by omega) (by rw [q1.2.2.2]; exact h13) (fun S2 σ2 J2 p2 q2 re2 => h S2 σ2 (by rw [show y + (r + 1) = y + 1 + r from by omega]; exact J2) (p1.trans p2) (q1.trans q2) (fun Q hQ => ⟨fun hc => absurd hc (nI_ge (by omega) (by omega)), fun _ => ⟨nI_in (N := 32008) hf1 (by decide), ?_⟩⟩))
    rw [rn_at hf hf1 h13 (by omega), i64_32 hw, nI_1]
    exact re1 _ (re2 Q hQ)
/-- a name -/
theorem sp_name {S : cs_S} {σ : rf_S} {y : Nat} (hf : wdF n f) (hn8 : n ≤ 8) (hf1 : f1 < 32008) (hJ : pkJ S σ rc pk y) (hy : y + 9 ≤ 301) (h13 : σ.2.2.2 13 f1 = Int64.ofNat (dg 8 8 (w8 f) 8)) (h : ∀ S' σ' y', pkJ S' σ' rc pk y' → y' ≤ y + 9 → pg rc pk S S' → qg σ σ' → (∀ Q : rf_S → Prop, pkF Q (nI f1) σ' → wp_X12_putField Q σ (nI f1)) → post S') : wp_X6_putWord post G S rc (Int64.ofNat (dg 5 12 f 12)) := by
  refine cl_of hf ⟨hJ.1, sp_put (x := nI n) hJ (by omega) ⟨n, by omega, rfl⟩ (nar8 n (by omega)) (fun S1 σ1 J1 p1 q1 re1 => ⟨n + 1, ?_⟩)⟩
  refine sp_nl hf hn8 hf1 n 0 S1 σ1 (y + 1) (by omega) J1 (by omega) (by rw [q1.2.2.2]; exact h13) (fun S2 σ2 J2 p2 q2 re2 => h S2 σ2 (y + 1 + n) J2 (by omega) (p1.trans p2) (q1.trans q2) (fun Q hQ => ⟨n + 1, rf_2 hf hn8 hf1 h13 (re1 _ ⟨n + 1, re2 Q hQ⟩) n 0 (by omega)⟩))
end PW
