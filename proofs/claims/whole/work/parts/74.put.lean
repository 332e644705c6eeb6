/-! ===== packing, both in step: bytes and unsigned numbers ===== -/
def pkJ (S : cs_S) (σ : rf_S) (rc pk y : Nat) : Prop := cs_k S rc = 8 ∧ cs_r S 702 rc = some pk ∧ cs_k S pk = 20 ∧ cs_n S pk = 301 ∧ cs_i S 703 rc = nI y ∧ σ.1 85 = nI y ∧ y ≤ 301 ∧ ∀ j, j < y → ∃ b, b < 256 ∧ cs_ai S pk j = nI b ∧ σ.2.2.1 84 j &&& 255 = nI b
/-- the class's heap: the packer's size and row alone change -/
def pg (rc pk : Nat) (S S' : cs_S) : Prop := ∀ a, cs_k S' a = cs_k S a ∧ cs_n S' a = cs_n S a ∧ (∀ f, cs_l S' f a = cs_l S f a) ∧ (∀ f, cs_r S' f a = cs_r S f a) ∧ (∀ f, (a = rc → f ≠ 703) → cs_i S' f a = cs_i S f a) ∧ (∀ j, cs_al S' a j = cs_al S a j) ∧ (∀ j, cs_ar S' a j = cs_ar S a j) ∧ (a ≠ pk → ∀ j, cs_ai S' a j = cs_ai S a j)
def qg (σ σ' : rf_S) : Prop := (∀ k, k ≠ 85 → σ'.1 k = σ.1 k) ∧ σ'.2.1 = σ.2.1 ∧ (∀ k, k ≠ 84 → σ'.2.2.1 k = σ.2.2.1 k) ∧ σ'.2.2.2 = σ.2.2.2
theorem pg.rfl {rc pk : Nat} {S : cs_S} : pg rc pk S S := fun _ => ⟨Eq.refl _, Eq.refl _, fun _ => Eq.refl _, fun _ => Eq.refl _, fun _ _ => Eq.refl _, fun _ => Eq.refl _, fun _ => Eq.refl _, fun _ _ => Eq.refl _⟩
theorem pg.trans {rc pk : Nat} {S S1 S2 : cs_S} (h : pg rc pk S S1) (g : pg rc pk S1 S2) : pg rc pk S S2 := by
  intro a
  obtain ⟨h1, h2, h3, h4, h5, h6, h7, h8⟩ := h a
  obtain ⟨g1, g2, g3, g4, g5, g6, g7, g8⟩ := g a
  exact ⟨g1.trans h1, g2.trans h2, fun f => (g3 f).trans (h3 f), fun f => (g4 f).trans (h4 f), fun f e => (g5 f e).trans (h5 f e), fun j => (g6 j).trans (h6 j), fun j => (g7 j).trans (h7 j), fun e j => (g8 e j).trans (h8 e j)⟩
theorem qg.rfl {σ : rf_S} : qg σ σ := ⟨fun _ _ => Eq.refl _, Eq.refl _, fun _ _ => Eq.refl _, Eq.refl _⟩
theorem qg.trans {σ σ1 σ2 : rf_S} (h : qg σ σ1) (g : qg σ1 σ2) : qg σ σ2 :=
  ⟨fun k e => (g.1 k e).trans (h.1 k e), g.2.1.trans h.2.1, fun k e => (g.2.2.1 k e).trans (h.2.2.1 k e), g.2.2.2.trans h.2.2.2⟩
theorem b255 (x : Int32) : ∃ b, b < 256 ∧ x &&& 255 = nI b := by
  have h : (x &&& 255).toBitVec.toNat ≤ 255 := by
    rw [Int32.toBitVec_and, BitVec.toNat_and]
    exact Nat.and_le_right
  refine ⟨(x &&& 255).toBitVec.toNat, by omega, ?_⟩
  apply Int32.toBitVec_inj.mp
  apply BitVec.eq_of_toNat_eq
  show _ = (BitVec.ofNat 32 (x &&& 255).toBitVec.toNat).toNat
  rw [BitVec.toNat_ofNat, Nat.mod_eq_of_lt (by omega)]
theorem nar8 : ∀ b, b < 256 → vp_nar .byte ((nI b).toInt8.toInt32) &&& 255 = nI b := by decide +kernel
section PUT
variable {G : Nat → Nat} {rc pk y : Nat} {S : cs_S} {σ : rf_S} {post : cs_S → Prop}
theorem sp_put {c x : Int32} (hJ : pkJ S σ rc pk y) (hy : y < 301) (hc : ∃ b, b < 256 ∧ c = nI b) (hx : vp_nar .byte x.toInt8.toInt32 &&& 255 = c)
    (h : ∀ S' σ', pkJ S' σ' rc pk (y + 1) → pg rc pk S S' → qg σ σ' → (∀ Q : rf_S → Prop, Q σ' → wp_X12_put Q σ x) → post S') : wp_X6_put post G S rc c := by
  obtain ⟨k1, k2, k3, k4, k5, k6, k7, k8⟩ := id hJ
  have hne : rc ≠ pk := fun e => by rw [e, k3] at k1; exact absurd k1 (by decide)
  refine ⟨k1, fun r12 e12 => ⟨pk, e12.trans k2, k3, fun hq => ?_, fun _ r15 e15 => ⟨pk, e15.trans k2, k3, by rw [k4, k5]; exact nI_in hy (by decide), fun S18 e18 => ?_⟩⟩⟩
  · rw [k4, k5] at hq
    exact absurd hq (nI_ge (b := 301) hy (by decide))
  · rw [k5, nI_clamp (by omega)] at e18
    subst e18
    refine ⟨k1, fun S20 e20 => ?_⟩
    subst e20
    rw [iuai, k5, nI_1]
    refine h _ (rf_ui (rf_ua σ 84 y (vp_nar .byte x.toInt8.toInt32)) 85 (nI (y + 1))) ⟨k1, k2, k3, k4, by rw [iui, if_pos ⟨rfl, rfl⟩], by rw [r1ui, if_pos rfl], hy, fun j hj => ?_⟩ (fun a => ⟨rfl, rfl, fun _ => rfl, fun _ => rfl, fun f hf => ?_, fun _ => rfl, fun _ => rfl, fun ha j => ?_⟩) ⟨fun k hk => by rw [r1ui, if_neg hk, r1ua], rfl, fun k hk => ?_, rfl⟩ (fun Q hQ => ⟨by rw [k6]; exact nI_in (N := 400) (by omega) (by decide), ?_⟩)
    · rw [aiui, aiuai, r3ui, r3ua]
      by_cases e : j = y
      · subst e
        rw [if_pos ⟨rfl, rfl⟩, if_pos ⟨rfl, rfl⟩]
        obtain ⟨b, hb, e⟩ := hc
        exact ⟨b, hb, e, hx.trans e⟩
      · rw [if_neg (fun q => e q.2), if_neg (fun q => e q.2)]
        exact k8 j (by omega)
    · rw [iui, if_neg (fun q => hf q.2 q.1), iuai]
    · rw [aiui, aiuai, if_neg (fun q => ha q.1)]
    · funext j
      rw [r3ui, r3ua, if_neg (fun q => hk q.1)]
    · rw [k6, nI_clamp (by omega), nI_1]
      exact hQ
theorem lg_le {v : Nat} (hv : v < 2 ^ 63) : lg_cmp (Int64.ofNat v) 127 ≤ 0 ↔ v ≤ 127 := by
  have e : (127 : Int64) = Int64.ofNat 127 := rfl
  rw [← Int32.not_lt, lg_pos, e, i64_lt (by decide) hv]
  omega
theorem sp_u : ∀ r k v (S : cs_S) (σ : rf_S) y, k + r = 4 → v < 2 ^ (7 * (r + 1)) → pkJ S σ rc pk y → y + r + 1 ≤ 301 →
    (∀ S' σ' y', pkJ S' σ' rc pk y' → y' ≤ y + r + 1 → pg rc pk S S' → qg σ σ' → (∀ Q : rf_S → Prop, Q σ' → w_X12_putUnsigned_2 Q (r + 1) σ (Int64.ofNat v)) → post S') → w_X6_putUnsigned_5 post G (r + 1) S rc (Int64.ofNat v) (nI k) := by
  have h35 : ∀ r, r ≤ 5 → (2 : Nat) ^ (7 * r) ≤ 2 ^ 35 := fun r hr => Nat.pow_le_pow_right (by decide) (by omega)
  have small : ∀ (n v : Nat) (S : cs_S) (σ : rf_S) (y : Nat), v ≤ 127 → pkJ S σ rc pk y → y < 301 → (∀ S' σ', pkJ S' σ' rc pk (y + 1) → pg rc pk S S' → qg σ σ' → (∀ Q : rf_S → Prop, Q σ' → w_X12_putUnsigned_2 Q (n + 1) σ (Int64.ofNat v)) → post S') → w_X6_putUnsigned_44 post G S rc (Int64.ofNat v) := by
    intro n v S σ y hv hJ hy h
    refine ⟨hJ.1, sp_put (x := (Int64.ofNat v).toInt32) hJ hy ⟨v, by omega, i64_32 (by omega)⟩ (by rw [i64_32 (by omega)]; exact nar8 v (by omega)) (fun S' σ' J' p' q' re => h S' σ' J' p' q' (fun Q hQ => ⟨fun _ => re Q hQ, fun hc => absurd ((lg_le (by omega)).mpr hv) hc⟩))⟩
  intro r
  induction r with
  | zero =>
    intro k v S σ y hk hv hJ hy h
    have hv0 : v < 128 := hv
    refine ⟨fun hc => absurd hc (nI_ge (a := k) (b := 5) (by omega) (by decide)), fun _ => ⟨fun _ => small 0 v S σ y (by omega) hJ (by omega) (fun S' σ' J p q re => h S' σ' (y + 1) J (by omega) p q re), fun hc => absurd ((lg_le (by omega)).mpr (by omega)) hc⟩⟩
  | succ r ih =>
    intro k v S σ y hk hv hJ hy h
    have hv35 := h35 (r + 1 + 1) (by omega)
    have hv63 : v < 2 ^ 63 := by omega
    refine ⟨fun hc => absurd hc (nI_ge (a := k) (b := 5) (by omega) (by decide)), fun _ => ⟨fun hc => small (r + 1) v S σ y ((lg_le hv63).mp hc) hJ (by omega) (fun S' σ' J p q re => h S' σ' (y + 1) J (by omega) p q re), fun hc => ⟨hJ.1, ?_⟩⟩⟩
    have hv127 : ¬ v ≤ 127 := fun q => hc ((lg_le hv63).mpr q)
    have e127 : (127 : Int64) = Int64.ofNat 127 := rfl
    have e128 : (128 : Int64) = Int64.ofNat 128 := rfl
    have ea : Int64.ofNat v &&& 127 = Int64.ofNat (v % 128) := by
      rw [e127, i64_and _ _ (by omega) (by decide), show (127 : Nat) = 2 ^ 7 - 1 from rfl, Nat.and_two_pow_sub_one_eq_mod]
    have eo : v % 128 ||| 128 = v % 128 + 128 := by
      have h7 : 128 + v % 128 = 128 ||| v % 128 := Nat.two_pow_add_eq_or_of_lt (i := 7) (b := v % 128) (by omega) 1
      rw [Nat.or_comm]
      omega
    have es : Int64.ofNat v >>> ((7 : Int32).toInt64 &&& 63) = Int64.ofNat (v / 128) := i64_sr (n := 7) (by decide) (by decide) hv63
    have ec : (Int64.ofNat v &&& 127).toInt32 + 128 = nI (v % 128 + 128) := by
      rw [ea, i64_32 (by omega)]
      exact nI_add _ 128
    have ex : ((Int64.ofNat v &&& 127) ||| 128).toInt32 = nI (v % 128 + 128) := by
      rw [ea, e128, i64_or _ _ (by omega) (by decide), eo, i64_32 (by omega)]
    refine sp_put (x := ((Int64.ofNat v &&& 127) ||| 128).toInt32) hJ (by omega) ⟨v % 128 + 128, by omega, ec⟩ (by rw [ec, ex]; exact nar8 _ (by omega)) (fun S1 σ1 J1 p1 q1 re1 => ?_)
    rw [es, nI_1]
    have hv2 : v / 128 < 2 ^ (7 * (r + 1)) := by
      rw [Nat.div_lt_iff_lt_mul (by decide)]
      have : (2 : Nat) ^ (7 * (r + 1 + 1)) = 2 ^ (7 * (r + 1)) * 128 := by rw [Nat.mul_add 7 (r + 1) 1, Nat.pow_add]
      omega
    refine ih (k + 1) (v / 128) S1 σ1 (y + 1) (by omega) hv2 J1 (by omega) (fun S2 σ2 y2 J2 hy2 p2 q2 re2 => h S2 σ2 y2 J2 (by omega) (p1.trans p2) (q1.trans q2) (fun Q hQ => ⟨fun hq => absurd hq hc, fun _ => re1 _ ?_⟩))
    rw [es]
    exact re2 Q hQ
theorem sp_un {v : Nat} (hv : v < 2 ^ 32) (hJ : pkJ S σ rc pk y) (hy : y + 5 ≤ 301) (h : ∀ S' σ' y', pkJ S' σ' rc pk y' → y' ≤ y + 5 → pg rc pk S S' → qg σ σ' → (∀ Q : rf_S → Prop, Q σ' → wp_X12_putUnsigned Q σ (Int64.ofNat v)) → post S') : wp_X6_putUnsigned post G S rc (Int64.ofNat v) := by
  have h35 : (2 : Nat) ^ (7 * (4 + 1)) = 34359738368 := by decide
  exact ⟨5, sp_u 4 0 v S σ y rfl (by omega) hJ hy (fun S' σ' y' J e p q re => h S' σ' y' J e p q (fun Q hQ => ⟨5, re Q hQ⟩))⟩
end PUT
