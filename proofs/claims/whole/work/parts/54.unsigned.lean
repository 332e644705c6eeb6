/-! ===== unsigned numbers of the tape ===== -/
theorem rf_uu {σ : rf_S} {f : Nat} {a b : Int32} : rf_ui (rf_ui σ f a) f b = rf_ui σ f b := by
  refine Prod.ext (funext fun k => ?_) rfl
  rw [r1ui, r1ui, r1ui]
  by_cases h : k = f <;> simp [h]
theorem rf_us {σ : rf_S} {f : Nat} {a : Int32} (h : σ.1 f = a) : rf_ui σ f a = σ := by
  refine Prod.ext (funext fun k => ?_) rfl
  rw [r1ui]
  by_cases e : k = f
  · rw [if_pos e, e, h]
  · rw [if_neg e]
theorem rf_ls {σ : rf_S} {f : Nat} : rf_ul σ f (σ.2.1 f) = σ := by
  refine Prod.ext rfl (Prod.ext (funext fun k => ?_) rfl)
  show (rf_ul σ f (σ.2.1 f)).2.1 k = σ.2.1 k
  rw [r2ul]
  by_cases e : k = f
  · rw [if_pos e, e]
  · rw [if_neg e]
def ruv (b : Int32) (k : Nat) (v : Int64) : Int64 := v ||| (((b &&& 127).toInt64) <<< ((7 * nI k).toInt64 &&& 63))
/-- what is read: a fault or 0, the place behind, the number -/
def ruf (B : Nat → Int32) (z : Nat) : Nat → Nat → Nat → Int64 → Int32 × Nat × Int64
  | 0, _, p, v => (3, p, v)
  | r + 1, k, p, v => if z ≤ p then (1, p, v) else if 128 ≤ B p then ruf B z r (k + 1) (p + 1) (ruv (B p) k v) else if 0 < lg_cmp (ruv (B p) k v) 4294967295 then (3, p + 1, ruv (B p) k v) else if 0 < B p then (0, p + 1, ruv (B p) k v) else if k = 0 then (0, p + 1, ruv (B p) k v) else (3, p + 1, ruv (B p) k v)
theorem ruf_le (B : Nat → Int32) (z : Nat) : ∀ r k p v, p ≤ z → p ≤ (ruf B z r k p v).2.1 ∧ (ruf B z r k p v).2.1 ≤ z := by
  intro r
  induction r with
  | zero => intro k p v hp; exact ⟨Nat.le_refl _, hp⟩
  | succ r ih =>
    intro k p v hp
    rw [ruf]
    split
    · exact ⟨Nat.le_refl _, hp⟩
    · split
      · have := ih (k + 1) (p + 1) (ruv (B p) k v) (by omega)
        exact ⟨by omega, this.2⟩
      · split
        · exact ⟨Nat.le_succ _, by show p + 1 ≤ z; omega⟩
        · split
          · exact ⟨Nat.le_succ _, by show p + 1 ≤ z; omega⟩
          · split
            · exact ⟨Nat.le_succ _, by show p + 1 ≤ z; omega⟩
            · exact ⟨Nat.le_succ _, by show p + 1 ≤ z; omega⟩
theorem ruf_cong {B B' : Nat → Int32} {z : Nat} (h : ∀ j, j < z → B j = B' j) : ∀ r k p v, ruf B z r k p v = ruf B' z r k p v := by
  intro r
  induction r with
  | zero => intro k p v; rfl
  | succ r ih =>
    intro k p v
    rw [ruf, ruf]
    by_cases hp : z ≤ p
    · rw [if_pos hp, if_pos hp]
    · rw [if_neg hp, if_neg hp, h p (by omega), ih]
theorem rub_0 {x : Int32} : (0 : Int32) ≤ x &&& 255 := by
  apply Int32.le_iff_toInt_le.mpr
  have h : (x &&& 255).toBitVec.toNat ≤ 255 := by
    rw [Int32.toBitVec_and, BitVec.toNat_and]
    exact Nat.and_le_right
  have h2 : (x &&& 255).toInt = ((x &&& 255).toBitVec.toNat : Int) := by
    show (x &&& 255).toBitVec.toInt = _
    rw [BitVec.toInt_eq_toNat_of_lt (by omega)]
  rw [h2]
  show (0 : Int) ≤ _
  omega
theorem ru_10 {post : Int32 → rf_S → Prop} {fr : Int32} {z : Nat} : ∀ r k p v (σ : rf_S), k + r = 5 → rdR σ p z →
    ((ruf (fun j => σ.2.2.1 1 j &&& 255) z r k p v).1 = 0 → post 1 (rf_ul (rf_ui σ 4 (nI (ruf (fun j => σ.2.2.1 1 j &&& 255) z r k p v).2.1)) 27 (ruf (fun j => σ.2.2.1 1 j &&& 255) z r k p v).2.2)) →
    (¬ (ruf (fun j => σ.2.2.1 1 j &&& 255) z r k p v).1 = 0 → ∀ y, post 0 (rf_ui (rf_ui (rf_ul (rf_ui σ 4 (nI (ruf (fun j => σ.2.2.1 1 j &&& 255) z r k p v).2.1)) 27 y) 5 (ruf (fun j => σ.2.2.1 1 j &&& 255) z r k p v).1) 6 (if (ruf (fun j => σ.2.2.1 1 j &&& 255) z r k p v).1 = 1 then nI z else fr))) →
    w_X12_readsUnsigned_10 post (r + 1) σ fr v (nI k) := by
  intro r
  induction r with
  | zero =>
    intro k p v σ hk hr h0 h1
    have : k = 5 := by omega
    subst this
    refine ⟨fun _ => ⟨rfl, ?_⟩, fun hc => absurd (by decide) hc⟩
    have h2 := h1 (by show ¬ (3 : Int32) = 0; decide) (σ.2.1 27)
    have e1 : rf_ui σ 4 (nI p) = σ := rf_us hr.2.1
    have h3 : post 0 (rf_ui (rf_ui (rf_ul (rf_ui σ 4 (nI p)) 27 (σ.2.1 27)) 5 3) 6 fr) := h2
    rw [e1, rf_ls] at h3
    exact h3
  | succ r ih =>
    intro k p v σ hk hr h0 h1
    rw [ruf] at h0 h1
    refine ⟨fun hc => absurd hc (nI_ge (a := k) (b := 5) (by omega) (by decide)), fun _ => ?_⟩
    by_cases hp : z ≤ p
    · rw [if_pos hp] at h0 h1
      rw [hr.2.1]
      refine re_none hr hp (by have := hr.2.2; omega) ⟨fun hc => absurd hc (by decide), fun _ => ⟨rfl, ?_⟩⟩
      have h2 := h1 (by show ¬ (1 : Int32) = 0; decide) (σ.2.1 27)
      have e1 : rf_ui σ 4 (nI p) = σ := rf_us hr.2.1
      have h3 : post 0 (rf_ui (rf_ui (rf_ul (rf_ui σ 4 (nI p)) 27 (σ.2.1 27)) 5 1) 6 (nI z)) := h2
      rw [e1, rf_ls] at h3
      rw [hr.1]
      exact h3
    · rw [if_neg hp] at h0 h1
      rw [hr.2.1]
      have hpz : p < z := by omega
      refine re_byte hr hpz ⟨fun _ => ?_, fun hc => absurd rub_0 hc⟩
      have hr1 : rdR (rf_ui σ 4 (nI (p + 1))) (p + 1) z := ⟨by rw [r1ui, if_neg (by decide)]; exact hr.1, by rw [r1ui, if_pos rfl], hr.2.2.1, hpz⟩
      rw [hr.2.1, nI_1, nI_1]
      refine ⟨fun hc => ?_, fun hc => ?_⟩
      · have hc2 : (128 : Int32) ≤ (fun j => σ.2.2.1 1 j &&& 255) p := hc
        rw [if_pos hc2] at h0 h1
        refine ih (k + 1) (p + 1) _ _ (by omega) hr1 (fun hz => ?_) (fun hz y => ?_)
        · rw [rf_uu]; exact h0 hz
        · rw [rf_uu]; exact h1 hz y
      · have hc2 : ¬ (128 : Int32) ≤ (fun j => σ.2.2.1 1 j &&& 255) p := hc
        rw [if_neg hc2] at h0 h1
        refine ⟨fun hd => ?_, fun hd => ?_⟩
        · have hd2 : 0 < lg_cmp (ruv ((fun j => σ.2.2.1 1 j &&& 255) p) k v) 4294967295 := hd
          rw [if_pos hd2] at h1
          exact ⟨fun _ => ⟨rfl, h1 (by show ¬ (3 : Int32) = 0; decide) _⟩, fun hq => absurd rfl hq⟩
        · have hd2 : ¬ 0 < lg_cmp (ruv ((fun j => σ.2.2.1 1 j &&& 255) p) k v) 4294967295 := hd
          rw [if_neg hd2] at h0 h1
          refine ⟨fun he => ?_, fun he => ⟨fun hk0 => ?_, fun hk0 => ?_⟩⟩
          · have he2 : 0 < (fun j => σ.2.2.1 1 j &&& 255) p := he
            rw [if_pos he2] at h0
            exact ⟨rfl, h0 rfl⟩
          · have he2 : ¬ 0 < (fun j => σ.2.2.1 1 j &&& 255) p := he
            rw [if_neg he2] at h0
            have hk1 : k = 0 := (nI_eq (b := 0) (by omega) (by decide)).mp hk0
            rw [if_pos hk1] at h0
            exact ⟨rfl, h0 rfl⟩
          · have he2 : ¬ 0 < (fun j => σ.2.2.1 1 j &&& 255) p := he
            rw [if_neg he2] at h1
            have hk1 : ¬ k = 0 := fun e => hk0 (by rw [e]; rfl)
            rw [if_neg hk1] at h1
            exact ⟨fun _ => ⟨rfl, h1 (by show ¬ (3 : Int32) = 0; decide) _⟩, fun hq => absurd rfl hq⟩
