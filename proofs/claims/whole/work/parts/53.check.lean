/-! ===== the check byte ===== -/
def mx1 (c : Int32) : Int32 := if c * 2 ≤ 255 then c * 2 else (c * 2) ^^^ 263
def mxn : Nat → Int32 → Int32
  | 0, c => c
  | n + 1, c => mxn n (mx1 c)
def ckf (B : Nat → Int32) : Nat → Nat → Int32 → Int32
  | 0, _, c => c
  | r + 1, k, c => ckf B r (k + 1) (mxn 8 (c ^^^ B k))
theorem ckf_cong {B B' : Nat → Int32} : ∀ r k c, (∀ j, k ≤ j → j < k + r → B j = B' j) → ckf B r k c = ckf B' r k c := by
  intro r
  induction r with
  | zero => intro k c _; rfl
  | succ r ih =>
    intro k c h
    rw [ckf, ckf, h k (Nat.le_refl _) (by omega)]
    exact ih _ _ (fun j h1 h2 => h j (by omega) (by omega))
theorem mixed_6 {post : Int32 → rf_S → Prop} {σ : rf_S} : ∀ r j c, j + r = 8 → post (mxn r c) σ → w_X12_mixed_6 post (r + 1) σ c (nI j) := by
  intro r
  induction r with
  | zero =>
    intro j c hj h
    have : j = 8 := by omega
    subst this
    exact ⟨fun _ => h, fun hc => absurd (by decide) hc⟩
  | succ r ih =>
    intro j c hj h
    have e3 : nI j + 1 = nI (j + 1) := nI_1 j
    have hcm : (2 : Int32) * c = c * 2 := Int32.mul_comm _ _
    refine ⟨fun hc => absurd hc (nI_ge (a := j) (b := 8) (by omega) (by decide)), fun _ => ⟨fun hc => ?_, fun hc => ?_⟩⟩
    · show w_X12_mixed_6 post (r + 1) σ (2 * c) (nI j + 1)
      rw [e3]
      refine ih _ _ (by omega) ?_
      rw [hcm] at hc ⊢
      have : mx1 c = c * 2 := if_pos hc
      rw [← this]
      exact h
    · show w_X12_mixed_6 post (r + 1) σ ((2 * c) ^^^ 263) (nI j + 1)
      rw [e3]
      refine ih _ _ (by omega) ?_
      rw [hcm] at hc ⊢
      have : mx1 c = (c * 2) ^^^ 263 := if_neg hc
      rw [← this]
      exact h
theorem mixed_ok {post : Int32 → rf_S → Prop} {σ : rf_S} {a b : Int32} (h : post (mxn 8 (a ^^^ b)) σ) : wp_X12_mixed post σ a b := ⟨9, mixed_6 8 0 _ rfl h⟩
theorem rck_5 {post : Int32 → rf_S → Prop} {σ : rf_S} {e : Nat} (he : e ≤ 2120) : ∀ r k c, k + r = e → post (ckf (fun j => σ.2.2.1 1 j &&& 255) r k c) σ → w_X12_checkOf_5 post (r + 1) σ (nI e) c (nI k) := by
  intro r
  induction r with
  | zero =>
    intro k c hk h
    have : k = e := by omega
    subst this
    exact ⟨fun _ => h, fun hc => absurd (nI_le (Nat.le_refl _) (by omega)) hc⟩
  | succ r ih =>
    intro k c hk h
    refine ⟨fun hc => absurd hc (nI_ge (by omega) (by omega)), fun _ => ⟨nI_in (N := 2120) (by omega) (by decide), mixed_ok ?_⟩⟩
    rw [nI_clamp (by omega), nI_1]
    exact ih _ _ (by omega) h
theorem rck_ok {post : Int32 → rf_S → Prop} {σ : rf_S} {k e : Nat} (he : e ≤ 2120) (hk : k ≤ e) (h : post (ckf (fun j => σ.2.2.1 1 j &&& 255) (e - k) k 0) σ) : wp_X12_checkOf post σ (nI k) (nI e) := ⟨_, rck_5 he (e - k) k 0 (by omega) h⟩
section CK
variable {G : Nat → Nat} {post : Int32 → cs_S → Prop}
theorem cck_32 {k9 : cs_S → Option Nat → Int32 → Int32 → Int32 → Prop} {S : cs_S} {x0 : Option Nat} {x2 x4 : Int32} : ∀ r j c, j + r = 8 → k9 S x0 x2 (mxn r c) (x4 + 1) → w_X6_checkOf_32 post G k9 (r + 1) S x0 x2 c x4 (nI j) := by
  intro r
  induction r with
  | zero =>
    intro j c hj h
    have : j = 8 := by omega
    subst this
    exact ⟨fun _ => h, fun hc => absurd (by decide) hc⟩
  | succ r ih =>
    intro j c hj h
    have e3 : nI j + 1 = nI (j + 1) := nI_1 j
    refine ⟨fun hc => absurd hc (nI_ge (a := j) (b := 8) (by omega) (by decide)), fun _ => ⟨fun hc => ?_, fun hc => ?_⟩⟩
    · show w_X6_checkOf_32 post G k9 (r + 1) S x0 x2 (c * 2) x4 (nI j + 1)
      rw [e3]
      refine ih _ _ (by omega) ?_
      have : mx1 c = c * 2 := if_pos hc
      rw [← this]
      exact h
    · show w_X6_checkOf_32 post G k9 (r + 1) S x0 x2 ((c * 2) ^^^ 263) x4 (nI j + 1)
      rw [e3]
      refine ih _ _ (by omega) ?_
      have : mx1 c = (c * 2) ^^^ 263 := if_neg hc
      rw [← this]
      exact h
theorem cck_9 {S : cs_S} {tp e : Nat} (hk : cs_k S tp = 20) (he : e ≤ cs_n S tp) (hn : cs_n S tp < 2 ^ 31) : ∀ r k c, k + r = e → post (ckf (cs_ai S tp) r k c) S → w_X6_checkOf_9 post G (r + 1) S (some tp) (nI e) c (nI k) := by
  intro r
  induction r with
  | zero =>
    intro k c hj h
    have : k = e := by omega
    subst this
    exact ⟨fun _ => h, fun hc => absurd (nI_le (Nat.le_refl _) (by omega)) hc⟩
  | succ r ih =>
    intro k c hj h
    refine ⟨fun hc => absurd hc (nI_ge (by omega) (by omega)), fun _ => ⟨tp, rfl, hk, fun hc => absurd hc (nI_ge (by omega) hn), fun _ => ⟨nI_in (by omega) hn, 9, ?_⟩⟩⟩
    refine cck_32 8 0 _ rfl ?_
    rw [nI_clamp (by omega), nI_1]
    exact ih _ _ (by omega) h
theorem cck_ok {S : cs_S} {tp k e : Nat} (hk : cs_k S tp = 20) (he : e ≤ cs_n S tp) (hn : cs_n S tp < 2 ^ 31) (hke : k ≤ e) (h : post (ckf (cs_ai S tp) (e - k) k 0) S) : wp_X6_checkOf post G S (some tp) (nI k) (nI e) := by
  have e0 : (if nI k < 0 then 0 else nI k) = nI k := if_neg (nI_pos (by omega))
  refine ⟨e - k + 1, ?_⟩
  rw [e0]
  exact cck_9 hk he hn (e - k) k 0 (by omega) h
end CK
