/-! ===== the reference's emptyLog ===== -/
def rf_fl (σ : rf_S) (f n : Nat) (c : Int32) : rf_S := (σ.1, σ.2.1, (fun h j => if h = f ∧ j < n then c else σ.2.2.1 h j), σ.2.2.2)
theorem rf_fl_up {σ : rf_S} {f n : Nat} {c : Int32} : rf_ua (rf_fl σ f n c) f n c = rf_fl σ f (n + 1) c := by
  refine Prod.ext rfl (Prod.ext rfl (Prod.ext (funext fun h => funext fun j => ?_) rfl))
  show (rf_ua (rf_fl σ f n c) f n c).2.2.1 h j = (if h = f ∧ j < n + 1 then c else σ.2.2.1 h j)
  rw [r3ua]
  by_cases hh : h = f
  · by_cases h1 : j = n
    · have h2 : j < n + 1 := by omega
      simp [hh, h1]
    · by_cases h3 : j < n
      · have h2 : j < n + 1 := by omega
        simp [hh, h1, h2, h3, rf_fl]
      · have h2 : ¬ j < n + 1 := by omega
        simp [hh, h1, h2, h3, rf_fl]
  · simp [hh, rf_fl]
theorem rf_fl0 {σ : rf_S} {f : Nat} {c : Int32} : rf_fl σ f 0 c = σ := by
  refine Prod.ext rfl (Prod.ext rfl (Prod.ext (funext fun h => funext fun j => ?_) rfl))
  show (if h = f ∧ j < 0 then c else σ.2.2.1 h j) = _
  simp
def rf_f3 (σ : rf_S) (n : Nat) : rf_S := (σ.1, σ.2.1, (fun h j => if j < n ∧ (h = 63 ∨ h = 65) then -1 else if j < n ∧ h = 66 then 0 else σ.2.2.1 h j), σ.2.2.2)
theorem rf_f3_up {σ : rf_S} {n : Nat} : rf_ua (rf_ua (rf_ua (rf_f3 σ n) 63 n (-1)) 65 n (-1)) 66 n 0 = rf_f3 σ (n + 1) := by
  refine Prod.ext rfl (Prod.ext rfl (Prod.ext (funext fun h => funext fun j => ?_) rfl))
  show (rf_ua (rf_ua (rf_ua (rf_f3 σ n) 63 n (-1)) 65 n (-1)) 66 n 0).2.2.1 h j = (if j < n + 1 ∧ (h = 63 ∨ h = 65) then -1 else if j < n + 1 ∧ h = 66 then 0 else σ.2.2.1 h j)
  rw [r3ua, r3ua, r3ua]
  show (if h = 66 ∧ j = n then 0 else if h = 65 ∧ j = n then -1 else if h = 63 ∧ j = n then -1 else if j < n ∧ (h = 63 ∨ h = 65) then -1 else if j < n ∧ h = 66 then 0 else σ.2.2.1 h j) = _
  by_cases h1 : j = n
  · subst h1
    have h2 : j < j + 1 := by omega
    have h3 : ¬ j < j := by omega
    by_cases a : h = 66
    · subst a; simp [h2]
    · by_cases b : h = 65
      · subst b; simp [h2]
      · by_cases c : h = 63
        · subst c; simp [h2]
        · simp [a, b, c, h3]
  · by_cases h3 : j < n
    · have h2 : j < n + 1 := by omega
      simp [h1, h2, h3]
    · have h2 : ¬ j < n + 1 := by omega
      simp [h1, h2, h3]
theorem rf_f30 {σ : rf_S} : rf_f3 σ 0 = σ := by
  refine Prod.ext rfl (Prod.ext rfl (Prod.ext (funext fun h => funext fun j => ?_) rfl))
  show (if j < 0 ∧ (h = 63 ∨ h = 65) then -1 else if j < 0 ∧ h = 66 then 0 else σ.2.2.1 h j) = _
  simp
theorem el_89 {post : rf_S → Prop} {σ : rf_S} (h : post (rf_f3 σ 48000)) : ∀ r k, k + r = 48000 → w_X12_emptyLog_89 post (r + 1) (rf_f3 σ k) (nI k) := by
  intro r
  induction r with
  | zero =>
    intro k hk
    have : k = 48000 := by omega
    subst this
    exact ⟨fun _ => h, fun hc => absurd (by decide) hc⟩
  | succ r ih =>
    intro k hk
    have hk1 : k < 48000 := by omega
    have hc : (nI k).toNatClampNeg = k := nI_clamp (by omega)
    refine ⟨fun hc => absurd hc (nI_ge hk1 (by decide)), fun _ => ⟨nI_in hk1 (by decide), nI_in hk1 (by decide), nI_in hk1 (by decide), ?_⟩⟩
    have e1 : vp_nar .short (-1) = -1 := by decide
    have e2 : vp_nar .short 0 = 0 := by decide
    have e3 : nI k + 1 = nI (k + 1) := (nI_succ k).symm
    rw [hc, e1, e2, e3, rf_f3_up]
    exact ih (k + 1) (by omega)
theorem el_68 {post : rf_S → Prop} {σ : rf_S} (h : ∃ n9, w_X12_emptyLog_89 post n9 (rf_fl σ 67 12 0) 0) : ∀ r k, k + r = 12 → w_X12_emptyLog_68 post (r + 1) (rf_fl σ 67 k 0) (nI k) := by
  intro r
  induction r with
  | zero =>
    intro k hk
    have : k = 12 := by omega
    subst this
    exact ⟨fun _ => h, fun hc => absurd (by decide) hc⟩
  | succ r ih =>
    intro k hk
    have hk1 : k < 12 := by omega
    have hc : (nI k).toNatClampNeg = k := nI_clamp (by omega)
    refine ⟨fun hc => absurd hc (nI_ge hk1 (by decide)), fun _ => ⟨nI_in hk1 (by decide), ?_⟩⟩
    have e3 : nI k + 1 = nI (k + 1) := (nI_succ k).symm
    rw [hc, e3, rf_fl_up]
    exact ih (k + 1) (by omega)
theorem el_32 {post : rf_S → Prop} {σ : rf_S} (h : ∃ n9, w_X12_emptyLog_68 post n9 (rf_ui (rf_ui (rf_ui (rf_fl σ 25 65536 0) 78 0) 79 0) 72 0) 0) : ∀ r k, k + r = 65536 → w_X12_emptyLog_32 post (r + 1) (rf_fl σ 25 k 0) (nI k) := by
  intro r
  induction r with
  | zero =>
    intro k hk
    have : k = 65536 := by omega
    subst this
    exact ⟨fun _ => h, fun hc => absurd (by decide) hc⟩
  | succ r ih =>
    intro k hk
    have hk1 : k < 65536 := by omega
    have hc : (nI k).toNatClampNeg = k := nI_clamp (by omega)
    refine ⟨fun hc => absurd hc (nI_ge hk1 (by decide)), fun _ => ⟨nI_in hk1 (by decide), ?_⟩⟩
    have e3 : nI k + 1 = nI (k + 1) := (nI_succ k).symm
    rw [hc, e3, rf_fl_up]
    exact ih (k + 1) (by omega)
/-- the reference's state behind emptyLog -/
def rf_E (σ : rf_S) : rf_S := rf_f3 (rf_fl (rf_ui (rf_ui (rf_ui (rf_fl (rf_ui (rf_ui (rf_ui (rf_ui (rf_ui (rf_ui σ 19 0) 20 0) 21 0) 22 0) 23 0) 26 0) 25 65536 0) 78 0) 79 0) 72 0) 67 12 0) 48000
theorem el_all {post : rf_S → Prop} {σ : rf_S} (h : post (rf_E σ)) : wp_X12_emptyLog post σ := by
  have h1 := el_89 (σ := rf_fl (rf_ui (rf_ui (rf_ui (rf_fl (rf_ui (rf_ui (rf_ui (rf_ui (rf_ui (rf_ui σ 19 0) 20 0) 21 0) 22 0) 23 0) 26 0) 25 65536 0) 78 0) 79 0) 72 0) 67 12 0) h 48000 0 rfl
  rw [rf_f30] at h1
  have h2 := el_68 (σ := rf_ui (rf_ui (rf_ui (rf_fl (rf_ui (rf_ui (rf_ui (rf_ui (rf_ui (rf_ui σ 19 0) 20 0) 21 0) 22 0) 23 0) 26 0) 25 65536 0) 78 0) 79 0) 72 0) ⟨_, h1⟩ 12 0 rfl
  rw [rf_fl0] at h2
  have h3 := el_32 (σ := rf_ui (rf_ui (rf_ui (rf_ui (rf_ui (rf_ui σ 19 0) 20 0) 21 0) 22 0) 23 0) 26 0) ⟨_, h2⟩ 65536 0 rfl
  rw [rf_fl0] at h3
  exact ⟨_, h3⟩
theorem rf_E1 {σ : rf_S} (k : Nat) : (rf_E σ).1 k = if k = 72 ∨ k = 79 ∨ k = 78 ∨ k = 26 ∨ k = 23 ∨ k = 22 ∨ k = 21 ∨ k = 20 ∨ k = 19 then 0 else σ.1 k := by
  show (rf_ui (rf_ui (rf_ui (rf_fl (rf_ui (rf_ui (rf_ui (rf_ui (rf_ui (rf_ui σ 19 0) 20 0) 21 0) 22 0) 23 0) 26 0) 25 65536 0) 78 0) 79 0) 72 0).1 k = _
  rw [r1ui, r1ui, r1ui]
  show (if k = 72 then 0 else if k = 79 then 0 else if k = 78 then 0 else (rf_ui (rf_ui (rf_ui (rf_ui (rf_ui (rf_ui σ 19 0) 20 0) 21 0) 22 0) 23 0) 26 0).1 k) = _
  rw [r1ui, r1ui, r1ui, r1ui, r1ui, r1ui]
  by_cases a : k = 72
  · simp [a]
  · by_cases b : k = 79
    · simp [b]
    · by_cases c : k = 78
      · simp [c]
      · by_cases d : k = 26
        · simp [d]
        · by_cases e : k = 23
          · simp [e]
          · by_cases f : k = 22
            · simp [f]
            · by_cases g : k = 21
              · simp [g]
              · by_cases h : k = 20
                · simp [h]
                · by_cases i : k = 19
                  · simp [i]
                  · simp [a, b, c, d, e, f, g, h, i]
/-- the reference at first -/
def rf_F (σ : rf_S) : Prop := (∀ k, k ≠ 6 → k ≠ 7 → σ.1 k = 0) ∧ σ.1 7 = -1
theorem rf_F0 : rf_F (rf_E rf_i0) := by
  have h : ∀ k, rf_i0.1 k = if k = 7 then -1 else if k = 6 then -1 else 0 := by
    intro k
    show (rf_ui (rf_ui rf_z 6 (-1)) 7 (-1)).1 k = _
    rw [r1ui, r1ui]
    rfl
  refine ⟨fun k h6 h7 => ?_, ?_⟩
  · rw [rf_E1, h, if_neg h7, if_neg h6]
    simp
  · rw [rf_E1, h]
    simp
/-! ===== feed ===== -/
def pf1 (S : cs_S) (o tp z : Nat) (x : Int32) : cs_S := cs_ui (cs_uai S tp z x) 1201 o (nI (z + 1))
def pfb (a s : Int32) : Int32 := ((a.toUInt32 >>> (s.toUInt32 &&& Int32.toUInt32 31)).toInt32) &&& 255
theorem pf_step {post : cs_S → Prop} {G : Nat → Nat} {n : Nat} {S : cs_S} {o tp z : Nat} {a s : Int32} (hk : cs_k S o = 13) (ht : cs_r S 1200 o = some tp) (hkt : cs_k S tp = 20) (hn : cs_n S tp = 2100) (hs : cs_i S 1201 o = nI z) (hz : z < 2100) (h0 : ¬ s < 0)
    (h : w_X11_putFour_3 post G n (pf1 S o tp z (pfb a s)) o a (s + (-8))) : w_X11_putFour_3 post G (n + 1) S o a s := by
  refine ⟨fun hc => absurd hc h0, fun _ => ⟨hk, fun r12 e12 => ⟨tp, e12.trans ht, hkt, fun hc => ?_, fun _ => fun r15 e15 => ⟨tp, e15.trans ht, hkt, ?_, fun S18 e18 => ?_⟩⟩⟩⟩
  · rw [hn, hs] at hc
    exact absurd hc (nI_ge hz (by decide))
  · rw [hn, hs]
    exact nI_in hz (by decide)
  · subst e18
    refine ⟨hk, fun S20 e20 => ?_⟩
    subst e20
    rw [iuai, hs, nI_clamp (by omega : z < 2 ^ 31), ← nI_succ]
    exact h
theorem pf_end {post : cs_S → Prop} {G : Nat → Nat} {S : cs_S} {o : Nat} {a s : Int32} (hs : s < 0) (h : post S) : w_X11_putFour_3 post G 1 S o a s := ⟨fun _ => h, fun hc => absurd hs hc⟩
/-- four bytes more -/
def pf4 (S : cs_S) (o tp z : Nat) (a : Int32) : cs_S := pf1 (pf1 (pf1 (pf1 S o tp z (pfb a 24)) o tp (z + 1) (pfb a 16)) o tp (z + 1 + 1) (pfb a 8)) o tp (z + 1 + 1 + 1) (pfb a 0)
/-- the tape and how long it is -/
def pf_I (S : cs_S) (o tp z : Nat) : Prop := cs_k S o = 13 ∧ cs_r S 1200 o = some tp ∧ cs_k S tp = 20 ∧ cs_n S tp = 2100 ∧ cs_i S 1201 o = nI z
theorem pf_I.up {S : cs_S} {o tp z : Nat} {x : Int32} (h : pf_I S o tp z) : pf_I (pf1 S o tp z x) o tp (z + 1) := ⟨h.1, h.2.1, h.2.2.1, h.2.2.2.1, by simp [pf1, iui]⟩
theorem pf_I.up4 {S : cs_S} {o tp z : Nat} {a : Int32} (h : pf_I S o tp z) : pf_I (pf4 S o tp z a) o tp (z + 4) := h.up.up.up.up
theorem pf_four {post : cs_S → Prop} {G : Nat → Nat} {S : cs_S} {o tp z : Nat} {a : Int32} (h : pf_I S o tp z) (hz : z + 4 ≤ 2100) (hp : post (pf4 S o tp z a)) : wp_X11_putFour post G S o a := by
  have h1 := h.up (x := pfb a 24)
  have h2 := h1.up (x := pfb a 16)
  have h3 := h2.up (x := pfb a 8)
  refine ⟨5, pf_step h.1 h.2.1 h.2.2.1 h.2.2.2.1 h.2.2.2.2 (by omega) (by decide) ?_⟩
  refine pf_step h1.1 h1.2.1 h1.2.2.1 h1.2.2.2.1 h1.2.2.2.2 (by omega) (by decide) ?_
  refine pf_step h2.1 h2.2.1 h2.2.2.1 h2.2.2.2.1 h2.2.2.2.2 (by omega) (by decide) ?_
  refine pf_step h3.1 h3.2.1 h3.2.2.1 h3.2.2.2.1 h3.2.2.2.2 (by omega) (by decide) ?_
  exact pf_end (by decide) hp
def rf4b (a s : Int32) : Int32 := vp_nar .byte ((a >>> (s &&& 31)).toInt8.toInt32)
def rf1 (σ : rf_S) (z : Nat) (x : Int32) : rf_S := rf_ui (rf_ua σ 1 z x) 2 (nI (z + 1))
theorem rf4_step {post : rf_S → Prop} {n : Nat} {σ : rf_S} {z : Nat} {a s : Int32} (hs : σ.1 2 = nI z) (hz : z < 2120) (h0 : ¬ s < 0) (h : w_X12_four_3 post n (rf1 σ z (rf4b a s)) a (s + (-8))) : w_X12_four_3 post (n + 1) σ a s := by
  refine ⟨fun hc => absurd hc h0, fun _ => ⟨?_, ?_⟩⟩
  · rw [hs]
    exact nI_in hz (by decide)
  · rw [hs, nI_clamp (by omega : z < 2 ^ 31), ← nI_succ]
    exact h
def rf4 (σ : rf_S) (z : Nat) (a : Int32) : rf_S := rf1 (rf1 (rf1 (rf1 σ z (rf4b a 24)) (z + 1) (rf4b a 16)) (z + 1 + 1) (rf4b a 8)) (z + 1 + 1 + 1) (rf4b a 0)
theorem rf4_len {σ : rf_S} {z : Nat} {a : Int32} : (rf4 σ z a).1 2 = nI (z + 4) := rfl
theorem rf4_four {post : rf_S → Prop} {σ : rf_S} {z : Nat} {a : Int32} (hs : σ.1 2 = nI z) (hz : z + 4 ≤ 2120) (hp : post (rf4 σ z a)) : wp_X12_four post σ a := by
  refine ⟨5, rf4_step hs (by omega) (by decide) ?_⟩
  refine rf4_step (z := z + 1) rfl (by omega) (by decide) ?_
  refine rf4_step (z := z + 1 + 1) rfl (by omega) (by decide) ?_
  refine rf4_step (z := z + 1 + 1 + 1) rfl (by omega) (by decide) ?_
  exact ⟨fun _ => hp, fun hc => absurd (by decide) hc⟩
theorem pf_feed {post : Int32 → cs_S → Prop} {G : Nat → Nat} {S : cs_S} {o tp z : Nat} {a b c d e : Int32} (h : pf_I S o tp z) (hz : z + 20 ≤ 2100) (hp : post (nI (z + 20)) (pf4 (pf4 (pf4 (pf4 (pf4 S o tp z a) o tp (z + 4) b) o tp (z + 8) c) o tp (z + 12) d) o tp (z + 16) e)) : wp_X11_feed post G S o a b c d e := by
  have h1 := h.up4 (a := a)
  have h2 := h1.up4 (a := b)
  have h3 := h2.up4 (a := c)
  have h4 := h3.up4 (a := d)
  have h5 := h4.up4 (a := e)
  refine ⟨h.1, fun r16 e16 => ⟨tp, e16.trans h.2.1, h.2.2.1, fun _ => ?_, fun hc => ?_⟩⟩
  · refine pf_four h (by omega) ⟨h1.1, ?_⟩
    refine pf_four h1 (by omega) ⟨h2.1, ?_⟩
    refine pf_four h2 (by omega) ⟨h3.1, ?_⟩
    refine pf_four h3 (by omega) ⟨h4.1, ?_⟩
    refine pf_four h4 (by omega) ⟨h5.1, ?_⟩
    rw [h5.2.2.2.2]
    exact hp
  · exfalso
    rw [h.2.2.2.1, h.2.2.2.2] at hc
    exact hc (by rw [show nI z + 20 = nI (z + 20) from lw_ad z 20]; exact nI_le hz (by decide))
theorem rf_feed {post : Int32 → rf_S → Prop} {σ : rf_S} {z : Nat} {a b c d e : Int32} (hs : σ.1 2 = nI z) (hz : z + 20 ≤ 2100) (hp : post (nI (z + 20)) (rf4 (rf4 (rf4 (rf4 (rf4 (rf_ui σ 0 0) z a) (z + 4) b) (z + 8) c) (z + 12) d) (z + 16) e)) : wp_X12_feed post σ a b c d e := by
  refine ⟨fun _ => ?_, fun hc => ?_⟩
  · refine rf4_four (z := z) hs (by omega) ?_
    refine rf4_four (z := z + 4) rf4_len (by omega) ?_
    refine rf4_four (z := z + 8) rf4_len (by omega) ?_
    refine rf4_four (z := z + 12) rf4_len (by omega) ?_
    refine rf4_four (z := z + 16) rf4_len (by omega) ?_
    exact hp
  · exfalso
    rw [hs] at hc
    exact hc (by rw [show nI z + 20 = nI (z + 20) from lw_ad z 20]; exact nI_le hz (by decide))
