/-! ===== both readers in step: a byte, an unsigned number, a word ===== -/
/-- the reference ends with a fault, the class's own -/
def bdR (W : (Int32 → rf_S → Prop) → Prop) (rc m f0 te : Nat) (S S' : cs_S) (σ : rf_S) : Prop := ∀ Q : Int32 → rf_S → Prop, (∀ σ', rdB rc m f0 te S S' σ σ' → Q 0 σ') → W Q
section LEAF
variable {G : Nat → Nat} {rc tp z p m f0 te : Nat} {bf : Nat → Nat} {S : cs_S} {σ : rf_S}
theorem sm_b {post : Int32 → cs_S → Prop} {lo hi : Nat} (hlo : lo < 2 ^ 31) (hhi : hi < 2 ^ 31) (h : rdJ S σ rc tp z p bf)
    (hok : ∀ S' σ', p < z → lo ≤ bf p → bf p ≤ hi → rdJ S' σ' rc tp z (p + 1) bf → rg rc S S' → sg m f0 te σ σ' → σ'.1 20 = σ.1 20 → σ'.1 31 = σ.1 31 → σ'.1 28 = nI (bf p) → σ'.2.2 = σ.2.2 → (∀ Q : Int32 → rf_S → Prop, Q 1 σ' → wp_X12_readsCount Q σ (nI lo) (nI hi)) → post (nI (bf p)) S')
    (hbad : ∀ S', rg rc S S' → ¬ cs_i S' 700 rc = 0 → bdR (fun Q => wp_X12_readsCount Q σ (nI lo) (nI hi)) rc m f0 te S S' σ → post (nI lo) S') : wp_X6_nextByte post G S rc (nI lo) (nI hi) := by
  have hbd : ∀ c : Int32, ∀ a : Int32, ¬ c = 0 → rg rc S (cs_ui (cs_ui S 700 rc c) 701 rc a) ∧ ¬ cs_i (cs_ui (cs_ui S 700 rc c) 701 rc a) 700 rc = 0 ∧ rdB rc m f0 te S (cs_ui (cs_ui S 700 rc c) 701 rc a) σ (rf_ui (rf_ui σ 5 c) 6 a) := fun c a hc =>
    have hB := rdB.mk (rc := rc) (m := m) (f0 := f0) (te := te) (S := S) (σ := σ) (a := a) rg.rfl sg.rfl hc
    ⟨hB.1, hB.2.2.1, hB⟩
  by_cases hp : p < z
  · have ea := h.2.2.2.2.1 p hp
    have er := h.2.2.2.2.2 p hp
    have hb := h.2.2.2.1 p hp
    by_cases hl : bf p < lo ∨ hi < bf p
    · have hc : nI (bf p) < nI lo ∨ ¬ nI (bf p) ≤ nI hi := by
        rcases hl with hl | hl
        · exact Or.inl (nI_lt hl hlo)
        · exact Or.inr (nI_ge hl (by omega))
      obtain ⟨b1, b2, b3⟩ := hbd 2 (nI p) (by decide)
      refine rd_bad h.1 h.2.2.1 hp (by rw [ea]; exact hc) (hbad _ b1 b2 (fun Q hQ => re_count h.2.1 (fun _ h1 h2 => ?_) (fun _ _ => hQ _ b3) (fun hn => absurd hp hn)))
      rw [er] at h1 h2
      rcases hc with hc | hc
      · exact absurd hc h1
      · exact absurd h2 hc
    · have h1 : lo ≤ bf p := by omega
      have h2 : bf p ≤ hi := by omega
      refine rd_ok h.1 h.2.2.1 hp (by rw [ea]; exact nI_nlt h1 (by omega)) (by rw [ea]; exact nI_le h2 hhi) ?_
      rw [ea]
      have hsg : sg m f0 te σ (rf_ui (rf_ui σ 28 (nI (bf p))) 4 (nI (p + 1))) := (sg.rfl.ui (by omega)).ui (by omega)
      have hrg : rg rc S (cs_ui S 706 rc (nI (p + 1))) := rg.ui (by omega)
      refine hok _ (rf_ui (rf_ui σ 28 (nI (bf p))) 4 (nI (p + 1))) hp h1 h2 (h.on2 hrg hsg (by rw [iui, if_neg (fun q => absurd q.1 (by decide))]; exact h.2.2.1) (by rw [iui, if_pos ⟨rfl, rfl⟩]) (by rw [r1ui, if_pos rfl]) hp) hrg hsg (by rw [r1ui, if_neg (by decide), r1ui, if_neg (by decide)]) (by rw [r1ui, if_neg (by decide), r1ui, if_neg (by decide)]) (by rw [r1ui, if_neg (by decide), r1ui, if_pos rfl]) rfl (fun Q hQ => re_count h.2.1 (fun _ _ _ => ?_) (fun _ hc => ?_) (fun hn => absurd hp hn))
      · rw [er]; exact hQ
      · rw [er] at hc
        rcases hc with hc | hc
        · exact absurd hc (nI_nlt h1 (by omega))
        · exact absurd (nI_le h2 hhi) hc
  · obtain ⟨b1, b2, b3⟩ := hbd 1 (nI z) (by decide)
    have hpz : p = z := Nat.le_antisymm h.2.1.2.2.2 (by omega)
    exact rd_end h.1 h.2.2.1 hpz (hbad _ b1 b2 (fun Q hQ => re_count h.2.1 (fun hn => absurd hn hp) (fun hn => absurd hn hp) (fun _ => hQ _ b3)))
theorem ruf_gt (B : Nat → Int32) (z : Nat) : ∀ r k p v, p ≤ z → (ruf B z r k p v).1 = 0 → p < (ruf B z r k p v).2.1 := by
  intro r
  cases r with
  | zero => intro k p v hp h0; exact absurd h0 (by decide : ¬ (3 : Int32) = 0)
  | succ r =>
    intro k p v hp h0
    rw [ruf] at h0 ⊢
    by_cases h1 : z ≤ p
    · rw [if_pos h1] at h0; exact absurd h0 (by decide : ¬ (1 : Int32) = 0)
    · rw [if_neg h1] at h0 ⊢
      by_cases h2 : 128 ≤ B p
      · rw [if_pos h2]
        have := (ruf_le B z r (k + 1) (p + 1) (ruv (B p) k v) (by omega)).1
        omega
      · rw [if_neg h2]
        split
        · exact Nat.lt_succ_self p
        · split
          · exact Nat.lt_succ_self p
          · split <;> exact Nat.lt_succ_self p
theorem sm_u {post : Int64 → cs_S → Prop} (h : rdJ S σ rc tp z p bf)
    (hok : ∀ v p' S' σ', p < p' → rdJ S' σ' rc tp z p' bf → rg rc S S' → sg m f0 te σ σ' → σ'.1 20 = σ.1 20 → σ'.1 31 = σ.1 31 → σ'.2.2 = σ.2.2 → σ'.2.1 27 = v → (∀ Q : Int32 → rf_S → Prop, Q 1 σ' → wp_X12_readsUnsigned Q σ) → post v S')
    (hbad : ∀ y S', rg rc S S' → ¬ cs_i S' 700 rc = 0 → bdR (fun Q => wp_X12_readsUnsigned Q σ) rc m f0 te S S' σ → post y S') : wp_X6_readUnsigned post G S rc := by
  have e1 : ruf (cs_ai S tp) z 5 0 p 0 = ruf (fun j => nI (bf j)) z 5 0 p 0 := ruf_cong (fun j hj => h.2.2.2.2.1 j hj) 5 0 p 0
  have e2 : ruf (fun j => σ.2.2.1 1 j &&& 255) z 5 0 p 0 = ruf (fun j => nI (bf j)) z 5 0 p 0 := ruf_cong (fun j hj => h.2.2.2.2.2 j hj) 5 0 p 0
  have hle := ruf_le (fun j => nI (bf j)) z 5 0 p 0 h.2.1.2.2.2
  have hgt := ruf_gt (fun j => nI (bf j)) z 5 0 p 0 h.2.1.2.2.2
  generalize ruf (fun j => nI (bf j)) z 5 0 p 0 = F at e1 e2 hle hgt
  refine cu_run h.1 h.2.2.1 (fun j hj => ⟨bf j, h.2.2.2.1 j hj, h.2.2.2.2.1 j hj⟩) (fun hz => ?_) (fun hz y q => ?_)
  · rw [e1] at hz ⊢
    have hrg : rg rc S (cs_ui S 706 rc (nI F.2.1)) := rg.ui (by omega)
    have hsg : sg m f0 te σ (rf_ul (rf_ui σ 4 (nI F.2.1)) 27 F.2.2) := (sg.rfl.ui (by omega)).ul (by omega)
    refine hok F.2.2 F.2.1 _ (rf_ul (rf_ui σ 4 (nI F.2.1)) 27 F.2.2) (hgt hz) (h.on2 hrg hsg (by rw [iui, if_neg (fun q => absurd q.1 (by decide))]; exact h.2.2.1) (by rw [iui, if_pos ⟨rfl, rfl⟩]) (by rw [r1ul, r1ui, if_pos rfl]) hle.2) hrg hsg (by rw [r1ul, r1ui, if_neg (by decide)]) (by rw [r1ul, r1ui, if_neg (by decide)]) rfl (by rw [r2ul, if_pos rfl]) (fun Q hQ => ru_run h.2.1 (fun _ => ?_) (fun hn => ?_))
    · rw [e2]; exact hQ
    · rw [e2] at hn; exact absurd hz hn
  · rw [e1] at hz ⊢
    have hB : ∀ y, rdB rc m f0 te S (cs_ui (cs_ui (cs_ui S 706 rc q) 700 rc F.1) 701 rc (if F.1 = 1 then nI z else nI p)) σ (rf_ui (rf_ui (rf_ul (rf_ui σ 4 (nI F.2.1)) 27 y) 5 F.1) 6 (if F.1 = 1 then nI z else nI p)) := fun y => rdB.mk (rg.ui (by omega)) ((sg.rfl.ui (by omega)).ul (by omega)) hz
    refine hbad y _ (hB 0).1 (hB 0).2.2.1 (fun Q hQ => ru_run h.2.1 (fun h0 => ?_) (fun _ y' => ?_))
    · rw [e2] at h0; exact absurd h0 hz
    · rw [e2]; exact hQ _ (hB y')
end LEAF
/-! the reference's letters -/
theorem rf_l1 {σ : rf_S} {V H L : Int64} {a b : Int32} : rf_ui (rf_ul (rf_ul (rf_ui (rf_ul σ 29 V) 4 a) 29 H) 30 L) 4 b = rf_ui (rf_ul (rf_ul σ 29 H) 30 L) 4 b := by
  refine Prod.ext (funext fun k => ?_) (Prod.ext (funext fun k => ?_) rfl)
  · rw [r1ui, r1ul, r1ul, r1ui, r1ul, r1ui, r1ul, r1ul]
    by_cases h : k = 4 <;> simp [h]
  · show (rf_ui (rf_ul (rf_ul (rf_ui (rf_ul σ 29 V) 4 a) 29 H) 30 L) 4 b).2.1 k = (rf_ui (rf_ul (rf_ul σ 29 H) 30 L) 4 b).2.1 k
    rw [r2ui, r2ul, r2ul, r2ui, r2ul, r2ui, r2ul, r2ul]
    by_cases h : k = 29 <;> simp [h]
theorem rf_l2 {σ : rf_S} {V H L : Int64} {a b : Int32} : rf_ui (rf_ul (rf_ul (rf_ui (rf_ul σ 30 V) 4 a) 29 H) 30 L) 4 b = rf_ui (rf_ul (rf_ul σ 29 H) 30 L) 4 b := by
  refine Prod.ext (funext fun k => ?_) (Prod.ext (funext fun k => ?_) rfl)
  · rw [r1ui, r1ul, r1ul, r1ui, r1ul, r1ui, r1ul, r1ul]
    by_cases h : k = 4 <;> simp [h]
  · show (rf_ui (rf_ul (rf_ul (rf_ui (rf_ul σ 30 V) 4 a) 29 H) 30 L) 4 b).2.1 k = (rf_ui (rf_ul (rf_ul σ 29 H) 30 L) 4 b).2.1 k
    rw [r2ui, r2ul, r2ul, r2ui, r2ul, r2ui, r2ul, r2ul]
    by_cases h : k = 30 <;> simp [h]
theorem rf_l0 {σ : rf_S} {H L : Int64} {b : Int32} (h1 : σ.2.1 29 = H) (h2 : σ.2.1 30 = L) (h3 : σ.1 4 = b) : rf_ui (rf_ul (rf_ul σ 29 H) 30 L) 4 b = σ := by
  subst h1
  subst h2
  rw [rf_ls, rf_ls, rf_us h3]
theorem nI_m8 (c : Nat) : nI (c + 8) - 8 = nI c := by
  have e1 : nI (c + 8) = nI c + 8 := (nI_add c 8).symm
  rw [e1, Int32.add_sub_cancel]
section RL
variable {z n p0 m f0 te : Nat} {bf : Nat → Nat} {post : Int32 → rf_S → Prop}
theorem rl_12 (hn : n ≤ 12) (hB : ∀ j, j < z → bf j < 256) : ∀ r k (σ : rf_S), k + r = n → rdR σ (p0 + k) z → (∀ j, j < z → σ.2.2.1 1 j &&& 255 = nI (bf j)) → σ.2.1 29 = Int64.ofNat (dg 8 8 (fun i => bf (p0 + i) % 256) (min k 8)) → σ.2.1 30 = Int64.ofNat (dg 8 8 (fun i => bf (p0 + 8 + i) % 256) (k - 8)) →
    ((wlf bf z r (p0 + k)).1 = 0 → post 1 (rf_ui (rf_ul (rf_ul σ 29 (Int64.ofNat (dg 8 8 (fun i => bf (p0 + i) % 256) (min n 8)))) 30 (Int64.ofNat (dg 8 8 (fun i => bf (p0 + 8 + i) % 256) (n - 8)))) 4 (nI (p0 + n)))) →
    (¬ (wlf bf z r (p0 + k)).1 = 0 → ∀ σ', sg m f0 te σ σ' → σ'.1 5 = (wlf bf z r (p0 + k)).1 → σ'.1 6 = nI (wlf bf z r (p0 + k)).2 → post 0 σ') →
    w_X12_readsLetters_12 post (r + 1) σ (nI n) (nI k) := by
  intro r
  induction r with
  | zero =>
    intro k σ hkn hr hA h29 h30 hok hbad
    have : k = n := by omega
    subst this
    refine ⟨fun _ => ?_, fun hc => absurd (nI_le (Nat.le_refl _) (by omega)) hc⟩
    have h := hok rfl
    rw [rf_l0 h29 h30 hr.2.1] at h
    exact h
  | succ r ih =>
    intro k σ hkn hr hA h29 h30 hok hbad
    rw [wlf] at hok hbad
    refine ⟨fun hc => absurd hc (nI_ge (by omega) (by omega)), fun _ => ?_⟩
    rw [hr.2.1]
    by_cases hp : z ≤ p0 + k
    · rw [if_pos hp] at hbad
      refine re_none hr hp (by have := hr.2.2; omega) ⟨fun hc => absurd hc (by decide), fun _ => ⟨rfl, ?_⟩⟩
      refine hbad (by show ¬ (1 : Int32) = 0; decide) _ ((sg.rfl.ui (by omega)).ui (by omega)) ?_ ?_
      · rw [r1ui, if_neg (by decide), r1ui, if_pos rfl]
      · rw [r1ui, if_pos rfl]; exact hr.1
    · rw [if_neg hp] at hok hbad
      have hpz : p0 + k < z := by omega
      have eb := hA _ hpz
      have hb256 := hB _ hpz
      refine re_byte hr hpz ?_
      rw [eb]
      refine ⟨fun _ => ⟨fun hc => ?_, fun hc => ⟨fun hd => ?_, fun hd => ?_⟩⟩, fun hc => absurd (nI_pos' (by omega)) hc⟩
      · have hl : bf (p0 + k) < 97 ∨ 122 < bf (p0 + k) := Or.inl ((nI_ltI (b := 97) (by omega) (by decide)).mp hc)
        rw [if_pos hl] at hbad
        refine ⟨rfl, hbad (by show ¬ (2 : Int32) = 0; decide) _ ((sg.rfl.ui (by omega)).ui (by omega)) ?_ ?_⟩
        · rw [r1ui, if_neg (by decide), r1ui, if_pos rfl]
        · rw [r1ui, if_pos rfl]; exact hr.2.1
      · have h1 : 97 ≤ bf (p0 + k) := Nat.not_lt.mp (fun q => hc (nI_lt (b := 97) q (by decide)))
        have h2 : bf (p0 + k) ≤ 122 := (nI_leI (b := 122) (by omega) (by decide)).mp hd
        have hl : ¬ (bf (p0 + k) < 97 ∨ 122 < bf (p0 + k)) := by omega
        rw [if_neg hl] at hok hbad
        refine ⟨fun h8 => ?_, fun h8 => ?_⟩
        · have hk8 : 8 ≤ k := (nI_leI (a := 8) (by decide) (by omega)).mp h8
          obtain ⟨c, rfl⟩ : ∃ c, k = c + 8 := ⟨k - 8, by omega⟩
          show w_X12_readsLetters_12 post (r + 1) (rf_ui (rf_ul σ 30 (σ.2.1 30 ||| ((nI (bf (p0 + (c + 8)))).toInt64 <<< ((56 - 8 * (nI (c + 8) - 8)).toInt64 &&& 63)))) 4 (σ.1 4 + 1)) (nI n) (nI (c + 8) + 1)
          have ek : c + 8 - 8 = c := by omega
          rw [ek] at h30
          rw [hr.2.1, h30, nI_m8, wl8_ok (f := fun i => bf (p0 + 8 + i) % 256) (fun i => Nat.mod_lt _ (by decide)) (by omega) h2 (by show bf (p0 + 8 + c) % 256 = _; rw [show p0 + 8 + c = p0 + (c + 8) from by omega]; exact Nat.mod_eq_of_lt hb256), nI_1, nI_1]
          refine ih (c + 8 + 1) _ (by omega) ⟨by rw [r1ui, if_neg (by decide)]; exact hr.1, by rw [r1ui, if_pos rfl]; rfl, hr.2.2.1, by omega⟩ hA ?_ ?_ (fun hz => ?_) (fun hz σ' hs h5 h6 => ?_)
          · rw [r2ui, r2ul, if_neg (by decide), h29, show min (c + 8) 8 = 8 from by omega, show min (c + 8 + 1) 8 = 8 from by omega]
          · rw [r2ui, r2ul, if_pos rfl, show c + 8 + 1 - 8 = c + 1 from by omega]
          · rw [rf_l2]; exact hok hz
          · exact hbad hz σ' (((sg.rfl.ul (by omega)).ui (by omega)).trans hs) h5 h6
        · have hk8 : k < 8 := Nat.not_le.mp (fun q => h8 (nI_le (a := 8) q (by omega)))
          show w_X12_readsLetters_12 post (r + 1) (rf_ui (rf_ul σ 29 (σ.2.1 29 ||| ((nI (bf (p0 + k))).toInt64 <<< ((56 - 8 * nI k).toInt64 &&& 63)))) 4 (σ.1 4 + 1)) (nI n) (nI k + 1)
          rw [show min k 8 = k from by omega] at h29
          rw [hr.2.1, h29, wl8_ok (f := fun i => bf (p0 + i) % 256) (fun i => Nat.mod_lt _ (by decide)) (by omega) h2 (Nat.mod_eq_of_lt hb256), nI_1, nI_1]
          refine ih (k + 1) _ (by omega) ⟨by rw [r1ui, if_neg (by decide)]; exact hr.1, by rw [r1ui, if_pos rfl]; rfl, hr.2.2.1, by omega⟩ hA ?_ ?_ (fun hz => ?_) (fun hz σ' hs h5 h6 => ?_)
          · rw [r2ui, r2ul, if_pos rfl, show min (k + 1) 8 = k + 1 from by omega]
          · rw [r2ui, r2ul, if_neg (by decide), h30, show k - 8 = 0 from by omega, show k + 1 - 8 = 0 from by omega]
          · rw [rf_l1]; exact hok hz
          · exact hbad hz σ' (((sg.rfl.ul (by omega)).ui (by omega)).trans hs) h5 h6
      · have hl : bf (p0 + k) < 97 ∨ 122 < bf (p0 + k) := Or.inr (Nat.not_le.mp (fun q => hd (nI_le (b := 122) q (by decide))))
        rw [if_pos hl] at hbad
        refine ⟨rfl, hbad (by show ¬ (2 : Int32) = 0; decide) _ ((sg.rfl.ui (by omega)).ui (by omega)) ?_ ?_⟩
        · rw [r1ui, if_neg (by decide), r1ui, if_pos rfl]
        · rw [r1ui, if_pos rfl]; exact hr.2.1
end RL
