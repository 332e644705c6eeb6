/-! ===== a word on both sides ===== -/
def w8 (f : Nat → Nat) (i : Nat) : Nat := if f i = 0 then 0 else f i + 96
/-- n letters: the class's word, and the reference's two -/
def wdR (n : Nat) (c h l : Int64) : Prop := ∃ f : Nat → Nat, n ≤ 12 ∧ (∀ i, (i < n ∧ 1 ≤ f i ∧ f i ≤ 26) ∨ (n ≤ i ∧ f i = 0)) ∧ c = Int64.ofNat (dg 5 12 f 12) ∧ h = Int64.ofNat (dg 8 8 (w8 f) 8) ∧ l = Int64.ofNat (dg 8 8 (w8 (fun i => f (i + 8))) 8)
theorem dg_tr (b N : Nat) (f g : Nat → Nat) (n : Nat) (hn : n ≤ N) (h1 : ∀ i, i < n → g i = f i) (h2 : ∀ i, n ≤ i → i < N → g i = 0) : dg b N f n = dg b N g N := by
  have key : ∀ r k, n + r = k → k ≤ N → dg b N f n = dg b N g k := by
    intro r
    induction r with
    | zero =>
      intro k hk _
      subst hk
      exact dg_cong b N f g n (fun i hi => (h1 i hi).symm)
    | succ r ih =>
      intro k hk hkN
      subst hk
      rw [ih (n + r) rfl (by omega), show n + (r + 1) = n + r + 1 from rfl, dg, h2 (n + r) (by omega) (by omega), Nat.zero_mul, Nat.add_zero]
  exact key (N - n) N (by omega) (Nat.le_refl _)
theorem wlf_ok (bf : Nat → Nat) (z : Nat) : ∀ r p, (wlf bf z r p).1 = 0 → ∀ i, i < r → p + i < z ∧ 97 ≤ bf (p + i) ∧ bf (p + i) ≤ 122 := by
  intro r
  induction r with
  | zero => intro p _ i hi; omega
  | succ r ih =>
    intro p h i hi
    rw [wlf] at h
    by_cases h1 : z ≤ p
    · rw [if_pos h1] at h; exact absurd h (by decide : ¬ (1 : Int32) = 0)
    · rw [if_neg h1] at h
      by_cases h2 : bf p < 97 ∨ 122 < bf p
      · rw [if_pos h2] at h; exact absurd h (by decide : ¬ (2 : Int32) = 0)
      · rw [if_neg h2] at h
        cases i with
        | zero => exact ⟨by omega, by show 97 ≤ bf p; omega, by show bf p ≤ 122; omega⟩
        | succ i =>
          have := ih (p + 1) h i (by omega)
          rw [show p + (i + 1) = p + 1 + i from by omega]
          exact this
theorem wd_of (bf : Nat → Nat) (p n : Nat) (hn : n ≤ 12) (h : ∀ i, i < n → 97 ≤ bf (p + i) ∧ bf (p + i) ≤ 122) : wdR n (Int64.ofNat (dg 5 12 (lf bf p) n)) (Int64.ofNat (dg 8 8 (fun i => bf (p + i) % 256) (min n 8))) (Int64.ofNat (dg 8 8 (fun i => bf (p + 8 + i) % 256) (n - 8))) := by
  refine ⟨fun i => if i < n then bf (p + i) - 96 else 0, hn, fun i => ?_, ?_, ?_, ?_⟩
  · by_cases hi : i < n
    · have := h i hi
      left
      show i < n ∧ 1 ≤ (if i < n then bf (p + i) - 96 else 0) ∧ (if i < n then bf (p + i) - 96 else 0) ≤ 26
      rw [if_pos hi]
      omega
    · right
      show n ≤ i ∧ (if i < n then bf (p + i) - 96 else 0) = 0
      rw [if_neg hi]
      omega
  · rw [dg_tr 5 12 (lf bf p) (fun i => if i < n then bf (p + i) - 96 else 0) n hn (fun i hi => by show (if i < n then _ else _) = _; rw [if_pos hi, lf, if_pos (h i hi)]) (fun i hi _ => by show (if i < n then _ else _) = _; rw [if_neg (by omega)])]
  · rw [dg_tr 8 8 (fun i => bf (p + i) % 256) (w8 (fun i => if i < n then bf (p + i) - 96 else 0)) (min n 8) (by omega) (fun i hi => ?_) (fun i hi hi2 => ?_)]
    · have hin : i < n := by omega
      have := h i hin
      show (if (if i < n then bf (p + i) - 96 else 0) = 0 then 0 else (if i < n then bf (p + i) - 96 else 0) + 96) = bf (p + i) % 256
      rw [if_pos hin, if_neg (by omega)]
      omega
    · have hin : ¬ i < n := by omega
      show (if (if i < n then bf (p + i) - 96 else 0) = 0 then 0 else (if i < n then bf (p + i) - 96 else 0) + 96) = 0
      rw [if_neg hin, if_pos rfl]
  · rw [dg_tr 8 8 (fun i => bf (p + 8 + i) % 256) (w8 (fun i => (fun i => if i < n then bf (p + i) - 96 else 0) (i + 8))) (n - 8) (by omega) (fun i hi => ?_) (fun i hi hi2 => ?_)]
    · have hin : i + 8 < n := by omega
      have := h (i + 8) hin
      show (if (if i + 8 < n then bf (p + (i + 8)) - 96 else 0) = 0 then 0 else (if i + 8 < n then bf (p + (i + 8)) - 96 else 0) + 96) = bf (p + 8 + i) % 256
      rw [if_pos hin, if_neg (by omega), show p + 8 + i = p + (i + 8) from by omega]
      omega
    · have hin : ¬ i + 8 < n := by omega
      show (if (if i + 8 < n then bf (p + (i + 8)) - 96 else 0) = 0 then 0 else (if i + 8 < n then bf (p + (i + 8)) - 96 else 0) + 96) = 0
      rw [if_neg hin, if_pos rfl]
/-- the reference reads a word: its count and its letters -/
def rwK (K0 K1 : rf_S → Prop) (σ : rf_S) (most : Int32) : Prop := wp_X12_readsCount (fun r σ1 => (r = 0 → K0 σ1) ∧ (¬ r = 0 → wp_X12_readsLetters (fun r2 σ2 => (¬ r2 = 0 → K1 σ2) ∧ (r2 = 0 → K0 σ2)) σ1 (σ1.1 28))) σ 1 most
section SW
variable {G : Nat → Nat} {rc tp z p m f0 te most : Nat} {bf : Nat → Nat} {S : cs_S} {σ : rf_S} {post : Int64 → cs_S → Prop}
theorem sm_w (hm : most ≤ 12) (h : rdJ S σ rc tp z p bf)
    (hok : ∀ n c S' σ', 1 ≤ n → n ≤ most → rdJ S' σ' rc tp z (p + 1 + n) bf → rg rc S S' → sg m f0 te σ σ' → σ'.1 20 = σ.1 20 → σ'.1 31 = σ.1 31 → σ'.2.2 = σ.2.2 → wdR n c (σ'.2.1 29) (σ'.2.1 30) → (∀ K0 K1 : rf_S → Prop, K1 σ' → rwK K0 K1 σ (nI most)) → post c S')
    (hbad : ∀ y S', rg rc S S' → ¬ cs_i S' 700 rc = 0 → (∀ K0 K1 : rf_S → Prop, (∀ σ', rdB rc m f0 te S S' σ σ' → K0 σ') → rwK K0 K1 σ (nI most)) → post y S') : wp_X6_readWord post G S rc (nI most) := by
  refine ⟨h.1.1, sm_b (m := m) (f0 := f0) (te := te) (lo := 1) (hi := most) (by decide) (by omega) h (fun S1 σ1 hp hl hh hJ1 g1 s1 e20 e31 e28 e22 re1 => ?_) (fun S1 g1 hf hB => ?_)⟩
  · have hn : bf p ≤ 12 := by omega
    refine ⟨bf p + 1, ?_⟩
    have key : ∀ (post : Int64 → cs_S → Prop), ((wlf bf z (bf p) (p + 1 + 0)).1 = 0 → post (Int64.ofNat (dg 5 12 (lf bf (p + 1)) (bf p))) (cs_ui S1 706 rc (nI (p + 1 + bf p)))) → (¬ (wlf bf z (bf p) (p + 1 + 0)).1 = 0 → ∀ y q, post y (cs_ui (cs_ui (cs_ui S1 706 rc q) 700 rc (wlf bf z (bf p) (p + 1 + 0)).1) 701 rc (nI (wlf bf z (bf p) (p + 1 + 0)).2))) → w_X6_readWord_12 post G (bf p + 1) S1 rc (nI (bf p)) 0 0 := fun post a b => cw_12 (n := bf p) (p0 := p + 1) hn h.2.2.2.1 (bf p) 0 S1 (by omega) hJ1.1 hJ1.2.2.1 hJ1.2.2.2.2.1 a b
    have hsg0 : sg m f0 te σ1 (rf_ul (rf_ul σ1 29 0) 30 0) := (sg.rfl.ul (by omega)).ul (by omega)
    have hA0 : ∀ j, j < z → (rf_ul (rf_ul σ1 29 0) 30 0).2.2.1 1 j &&& 255 = nI (bf j) := hJ1.2.2.2.2.2
    have hr0 : rdR (rf_ul (rf_ul σ1 29 0) 30 0) (p + 1 + 0) z := hJ1.2.1
    refine key post (fun hz => ?_) (fun hz y q => ?_)
    · have hlt := wlf_ok bf z (bf p) (p + 1 + 0) hz
      have hW := wd_of bf (p + 1) (bf p) hn (fun i hi => (hlt i hi).2)
      have hend : p + 1 + bf p ≤ z := by
        have := (hlt (bf p - 1) (by omega)).1
        omega
      have hrg : rg rc S1 (cs_ui S1 706 rc (nI (p + 1 + bf p))) := rg.ui (by omega)
      have hsg : sg m f0 te σ1 (rf_ui (rf_ul (rf_ul (rf_ul (rf_ul σ1 29 0) 30 0) 29 (Int64.ofNat (dg 8 8 (fun i => bf (p + 1 + i) % 256) (min (bf p) 8)))) 30 (Int64.ofNat (dg 8 8 (fun i => bf (p + 1 + 8 + i) % 256) (bf p - 8)))) 4 (nI (p + 1 + bf p))) := (((hsg0.ul (by omega)).ul (by omega))).ui (by omega)
      refine hok (bf p) _ _ (rf_ui (rf_ul (rf_ul (rf_ul (rf_ul σ1 29 0) 30 0) 29 (Int64.ofNat (dg 8 8 (fun i => bf (p + 1 + i) % 256) (min (bf p) 8)))) 30 (Int64.ofNat (dg 8 8 (fun i => bf (p + 1 + 8 + i) % 256) (bf p - 8)))) 4 (nI (p + 1 + bf p))) hl hh (hJ1.on2 hrg hsg (by rw [iui, if_neg (fun q => absurd q.1 (by decide))]; exact hJ1.2.2.1) (by rw [iui, if_pos ⟨rfl, rfl⟩]) (by rw [r1ui, if_pos rfl]) hend) (g1.trans hrg) (s1.trans hsg) ?_ ?_ e22 ?_ (fun K0 K1 hK => ?_)
      · rw [r1ui, if_neg (by decide)]; exact e20
      · rw [r1ui, if_neg (by decide)]; exact e31
      · rw [r2ui, r2ui, r2ul, if_neg (by decide), r2ul, if_pos rfl, r2ul, if_pos rfl]; exact hW
      · refine re1 _ ⟨fun hc => absurd hc (by decide), fun _ => ⟨bf p + 1, ?_⟩⟩
        rw [e28]
        refine rl_12 (m := m) (f0 := f0) (te := te) hn h.2.2.2.1 (bf p) 0 _ (by omega) hr0 hA0 ?_ ?_ (fun _ => ?_) (fun hq => absurd hz hq)
        · rw [r2ul, if_neg (by decide), r2ul, if_pos rfl]; rfl
        · rw [r2ul, if_pos rfl]; rfl
        · exact ⟨fun _ => hK, fun hc => absurd hc (by decide)⟩
    · have hrg : rg rc S1 (cs_ui (cs_ui (cs_ui S1 706 rc q) 700 rc (wlf bf z (bf p) (p + 1 + 0)).1) 701 rc (nI (wlf bf z (bf p) (p + 1 + 0)).2)) := ((rg.ui (by omega)).trans (rg.ui (by omega))).trans (rg.ui (by omega))
      have e1 : cs_i (cs_ui (cs_ui (cs_ui S1 706 rc q) 700 rc (wlf bf z (bf p) (p + 1 + 0)).1) 701 rc (nI (wlf bf z (bf p) (p + 1 + 0)).2)) 700 rc = (wlf bf z (bf p) (p + 1 + 0)).1 := by rw [iui, if_neg (fun q => absurd q.1 (by decide)), iui, if_pos ⟨rfl, rfl⟩]
      have e2 : cs_i (cs_ui (cs_ui (cs_ui S1 706 rc q) 700 rc (wlf bf z (bf p) (p + 1 + 0)).1) 701 rc (nI (wlf bf z (bf p) (p + 1 + 0)).2)) 701 rc = nI (wlf bf z (bf p) (p + 1 + 0)).2 := by rw [iui, if_pos ⟨rfl, rfl⟩]
      refine hbad y _ (g1.trans hrg) (by rw [e1]; exact hz) (fun K0 K1 hK => re1 _ ⟨fun hc => absurd hc (by decide), fun _ => ⟨bf p + 1, ?_⟩⟩)
      rw [e28]
      refine rl_12 (m := m) (f0 := f0) (te := te) hn h.2.2.2.1 (bf p) 0 _ (by omega) hr0 hA0 ?_ ?_ (fun hq => absurd hq hz) (fun _ σ' hs h5 h6 => ?_)
      · rw [r2ul, if_neg (by decide), r2ul, if_pos rfl]; rfl
      · rw [r2ul, if_pos rfl]; rfl
      · exact ⟨fun hc => absurd rfl hc, fun _ => hK σ' ⟨g1.trans hrg, s1.trans (hsg0.trans hs), by rw [e1]; exact hz, h5.trans e1.symm, h6.trans e2.symm⟩⟩
  · refine ⟨2, ?_⟩
    have hk1 : cs_k S1 rc = 8 := (g1 rc (by rw [h.1.1]; decide)).1.trans h.1.1
    refine cw_dead (n := 1) hk1 hf (by decide) (fun y => hbad y S1 g1 hf (fun K0 K1 hK => hB _ (fun σ' hb => ⟨fun _ => hK σ' hb, fun hc => absurd rfl hc⟩))) 1 0 0 rfl
end SW
