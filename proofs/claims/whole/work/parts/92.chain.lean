/-! ===== the reference alone: what counts; chains ===== -/
/-- the last place below t -/
noncomputable def lst (P : Nat → Prop) : Nat → Option Nat
  | 0 => none
  | t + 1 => @ite _ (P t) (Classical.propDecidable _) (some t) (lst P t)
section LST
variable {P : Nat → Prop}
theorem lst_yes {t : Nat} (h : P t) : lst P (t + 1) = some t := by rw [lst]; exact if_pos h
theorem lst_no {t : Nat} (h : ¬ P t) : lst P (t + 1) = lst P t := by rw [lst]; exact if_neg h
theorem lst_some : ∀ t o, lst P t = some o → o < t ∧ P o ∧ ∀ x, o < x → x < t → ¬ P x := by
  intro t
  induction t with
  | zero => intro o h; cases h
  | succ t ih =>
    intro o h
    by_cases c : P t
    · rw [lst_yes c] at h
      cases h
      exact ⟨by omega, c, fun x a b => absurd b (by omega)⟩
    · rw [lst_no c] at h
      obtain ⟨a, b, d⟩ := ih o h
      refine ⟨by omega, b, fun x h1 h2 => ?_⟩
      by_cases e : x = t
      · rw [e]; exact c
      · exact d x h1 (by omega)
theorem lst_none : ∀ t, lst P t = none → ∀ x, x < t → ¬ P x := by
  intro t
  induction t with
  | zero => intro _ x hx; omega
  | succ t ih =>
    intro h x hx
    by_cases c : P t
    · rw [lst_yes c] at h; cases h
    · rw [lst_no c] at h
      by_cases e : x = t
      · rw [e]; exact c
      · exact ih h x (by omega)
theorem lst_of : ∀ t o, o < t → P o → (∀ x, o < x → x < t → ¬ P x) → lst P t = some o := by
  intro t
  induction t with
  | zero => intro o h; omega
  | succ t ih =>
    intro o h1 h2 h3
    by_cases e : o = t
    · rw [e] at h2 ⊢; exact lst_yes h2
    · rw [lst_no (h3 t (by omega) (by omega))]
      exact ih o (by omega) h2 (fun x a b => h3 x a (by omega))
theorem lst_of_none : ∀ t, (∀ x, x < t → ¬ P x) → lst P t = none := by
  intro t
  induction t with
  | zero => intro _; rfl
  | succ t ih => intro h; rw [lst_no (h t (by omega))]; exact ih (fun x hx => h x (by omega))
theorem lst_cong {P' : Nat → Prop} : ∀ t, (∀ x, x < t → (P x ↔ P' x)) → lst P t = lst P' t := by
  intro t
  induction t with
  | zero => intro _; rfl
  | succ t ih =>
    intro h
    by_cases c : P t
    · rw [lst_yes c, lst_yes ((h t (by omega)).mp c)]
    · rw [lst_no c, lst_no (fun q => c ((h t (by omega)).mpr q)), ih (fun x hx => h x (by omega))]
end LST
/-- the first of a chain whose places are M 0 .. M c, below t -/
noncomputable def cfn (M : Nat → Nat → Prop) : Nat → Nat → Option Nat
  | 0, t => lst (M 0) t
  | c + 1, t => match lst (M (c + 1)) t with
    | some o => cfn M c o
    | none => none
def oI : Option Nat → Int32
  | some o => nI o
  | none => -1
/-- a bit of what rule r found true of event o, of key f -/
def bM (σ : rf_S) (r f c o : Nat) : Prop := σ.2.2.1 63 (4000 * r + o) = nI f ∧ ¬ ((σ.2.2.1 64 (4000 * r + o)) >>> (nI c &&& 31)) &&& 1 = 0
/-- event o breaks chains of key f -/
def bU (σ : rf_S) (r f o : Nat) : Prop := σ.2.2.1 63 (4000 * r + o) = nI f ∧ ¬ (σ.2.2.1 64 (4000 * r + o)) &&& 32 ≤ 0
section CHN
variable {σ : rf_S} {r f : Nat} {Q : Int32 → rf_S → Prop}
/-- down to the last one -/
theorem rcf_14 {k9 : rf_S → Int32 → Int32 → Int32 → Int32 → Prop} {c : Nat} (hr : r < 12) : ∀ t, t ≤ 4000 → (∀ o, lst (bM σ r f c) t = some o → w_X12_chainFirst_63 Q k9 σ (nI r) (nI f) (nI o) (nI c)) → (lst (bM σ r f c) t = none → Q (-1) σ) → w_X12_chainFirst_14 Q k9 (t + 1) σ (nI r) (nI f) (nI t - 1) (nI c) := by
  intro t
  induction t with
  | zero =>
    intro _ h1 h2
    refine ⟨fun _ => ⟨fun hc => absurd hc (by decide), fun _ => h2 rfl⟩, fun hc => absurd (by decide) hc⟩
  | succ t ih =>
    intro ht h1 h2
    rw [nI_pred]
    refine ⟨fun hc => absurd hc (nI_pos (by omega)), fun _ => ?_⟩
    rw [n4k, nI_clamp (by omega)]
    have hno : ¬ bM σ r f c t → w_X12_chainFirst_57 Q k9 (w_X12_chainFirst_14 Q k9 (t + 1)) σ (nI r) (nI f) (nI t) (nI c) := by
      intro q
      show w_X12_chainFirst_14 Q k9 (t + 1) σ (nI r) (nI f) (nI t + (-1)) (nI c)
      rw [nI_m1]
      exact ih (by omega) (fun o ho => h1 o (by rw [lst_no q]; exact ho)) (fun ho => h2 (by rw [lst_no q]; exact ho))
    refine ⟨nI_in (N := 48000) (by omega) (by decide), fun hc => hno (fun q => hc q.1), fun hc => ⟨nI_in (N := 48000) (by omega) (by decide), fun hd => h1 t (lst_yes ⟨hc, hd⟩), fun hd => hno (fun q => q.2 hd)⟩⟩
theorem rcf_9 (hr : r < 12) (hf : f < 4000) : ∀ c t n, c ≤ 5 → t ≤ 4000 → (Q (oI (cfn (bM σ r f) c t)) σ) → w_X12_chainFirst_9 Q (c + 2 + n) σ (nI r) (nI f) (nI t - 1) (nI c) := by
  intro c
  induction c with
  | zero =>
    intro t n _ ht h
    rw [show 0 + 2 + n = (n + 1) + 1 from by omega]
    refine ⟨fun hc => absurd hc (by decide), fun _ => ⟨t + 1, rcf_14 hr t ht (fun o ho => ?_) (fun ho => ?_)⟩⟩
    · have hlt := lst_some t o ho
      refine ⟨fun _ => ⟨fun _ => ?_, fun hc => absurd (by decide) hc⟩, fun hc => absurd (nI_pos' (by omega)) hc⟩
      show w_X12_chainFirst_9 Q (n + 1) σ (nI r) (nI f) (nI o) (nI 0 + (-1))
      refine ⟨fun _ => ?_, fun hc => absurd (by decide) hc⟩
      rw [cfn, ho] at h
      exact h
    · rw [cfn, ho] at h; exact h
  | succ c ih =>
    intro t n hc5 ht h
    rw [show c + 1 + 2 + n = (c + 2 + n) + 1 from by omega]
    refine ⟨fun hc => absurd hc (nI_pos (by omega)), fun _ => ⟨t + 1, rcf_14 hr t ht (fun o ho => ?_) (fun ho => ?_)⟩⟩
    · have hlt := lst_some t o ho
      refine ⟨fun _ => ⟨fun hc => absurd hc (nI_nle (by omega) (by omega)), fun _ => ?_⟩, fun hc => absurd (nI_pos' (by omega)) hc⟩
      show w_X12_chainFirst_9 Q (c + 2 + n) σ (nI r) (nI f) (nI o + (-1)) (nI (c + 1) + (-1))
      rw [nI_m1, nI_m1, nI_pred]
      refine ih o n (by omega) (by omega) ?_
      rw [cfn, ho] at h
      exact h
    · rw [cfn, ho] at h; exact h
theorem rcf (hr : r < 12) (hf : f < 4000) {c t : Nat} (hc : c ≤ 5) (ht : t ≤ 4000) (h : Q (oI (cfn (bM σ r f) c t)) σ) : wp_X12_chainFirst Q σ (nI r) (nI f) (nI (c + 1)) (nI t - 1) := by
  refine ⟨c + 2 + 0, ?_⟩
  rw [nI_pred]
  exact rcf_9 hr hf c t 0 hc ht h
/-- no event between breaks -/
def clr (σ : rf_S) (r f a b : Nat) : Prop := ∀ o, a < o → o < b → ¬ bU σ r f o
theorem rcl {a b : Nat} (hr : r < 12) (hb : b ≤ 4000) (ha : a < 4000) (hy : clr σ r f a b → Q 1 σ) (hn : ¬ clr σ r f a b → Q 0 σ) : wp_X12_isClear Q σ (nI r) (nI f) (nI a) (nI b) := by
  have key : ∀ q o, a < o → o + q = b → (∀ x, a < x → x < o → ¬ bU σ r f x) → w_X12_isClear_5 Q (q + 1) σ (nI r) (nI f) (nI b) (nI o) := by
    intro q
    induction q with
    | zero =>
      intro o hao ho h
      exact ⟨fun _ => hy (fun x h1 h2 => h x h1 (by omega)), fun hc => absurd (nI_le (by omega) (by omega)) hc⟩
    | succ q ih =>
      intro o hao ho h
      refine ⟨fun hc => absurd hc (nI_ge (by omega) (by omega)), fun _ => ?_⟩
      rw [n4k, nI_clamp (by omega)]
      have hno : ¬ bU σ r f o → w_X12_isClear_50 Q (w_X12_isClear_5 Q (q + 1)) σ (nI r) (nI f) (nI b) (nI o) := by
        intro z
        show w_X12_isClear_5 Q (q + 1) σ (nI r) (nI f) (nI b) (nI o + 1)
        rw [nI_1]
        refine ih (o + 1) (by omega) (by omega) (fun x h1 h2 => ?_)
        by_cases e : x = o
        · rw [e]; exact z
        · exact h x h1 (by omega)
      refine ⟨nI_in (N := 48000) (by omega) (by decide), fun hc => hno (fun z => hc z.1), fun hc => ⟨nI_in (N := 48000) (by omega) (by decide), fun hd => hno (fun z => z.2 hd), fun hd => ?_⟩⟩
      exact hn (fun z => z o hao (by omega) ⟨hc, hd⟩)
  by_cases hab : a + 1 ≤ b
  · refine ⟨b - (a + 1) + 1, ?_⟩
    rw [nI_1]
    exact key (b - (a + 1)) (a + 1) (by omega) (by omega) (fun x h1 h2 => absurd h2 (by omega))
  · refine ⟨1, ?_⟩
    rw [nI_1]
    exact ⟨fun _ => hy (fun x h1 h2 => absurd h2 (by omega)), fun hc => absurd (nI_le (by omega) (by omega)) hc⟩
/-- a time against the window -/
theorem tcmp {a b w : Nat} (ha : a < 2 ^ 31) (hb : b < 2 ^ 31) (hw : w < 2 ^ 31) : lg_cmp (nI a).toInt64 ((nI b).toInt64 - (nI w).toInt64) ≤ 0 ↔ a + w ≤ b := by
  rw [← Int32.not_lt, lg_pos, Int64.lt_iff_toInt_lt, Int64.toInt_sub, Int32.toInt_toInt64, Int32.toInt_toInt64, Int32.toInt_toInt64, nI_toInt ha, nI_toInt hb, nI_toInt hw, Int.bmod_eq_of_le (by omega) (by omega)]
  omega
/-- where the chain that ends with event e of key f begins, k conditions long -/
noncomputable def csF (σ : rf_S) (r f k e : Nat) : Option Nat := if k = 1 then some e else cfn (bM σ r f) (k - 2) e
theorem cfn_lt {M : Nat → Nat → Prop} : ∀ c t o, cfn M c t = some o → o < t := by
  intro c
  induction c with
  | zero => intro t o h; exact (lst_some t o h).1
  | succ c ih =>
    intro t o h
    rw [cfn] at h
    cases hl : lst (M (c + 1)) t with
    | none => rw [hl] at h; cases h
    | some o' =>
      rw [hl] at h
      have h1 := (lst_some t o' hl).1
      have h2 := ih o' o h
      omega
theorem rcs {bk b k e w : Nat} {tm : Nat → Nat} (h32 : σ.1 32 = nI bk) (hbk : bk ≤ 1) (hr : r < 12) (hbb : b = 12 * bk + r) (hf : f < 4000) (he : e < 4000) (hkey : σ.2.2.1 63 (4000 * r + e) = nI f) (hk : σ.2.2.1 40 b = nI k) (hk1 : 1 ≤ k) (hk5 : k ≤ 5) (hw : σ.2.2.1 44 b = nI w) (hw2 : w < 2 ^ 31) (ht : ∀ o, o ≤ e → σ.2.2.1 8 o = nI (tm o) ∧ tm o < 2 ^ 31) (hy : ∀ o, csF σ r f k e = some o → tm e < tm o + w → clr σ r f o e → Q (nI o) σ) (hn : (∀ o, csF σ r f k e = some o → tm e < tm o + w → ¬ clr σ r f o e) → Q (-1) σ) : wp_X12_chainStart Q σ (nI r) (nI e) := by
  have hb24 : b < 24 := by omega
  have i40 : vp_in (nI b) (rf_n 40) := nI_in (N := 24) hb24 (by decide)
  have h56 : w_X12_chainStart_56 Q σ (nI r) (nI e) (nI b) (nI f) (oI (csF σ r f k e)) := by
    cases hc : csF σ r f k e with
    | none => exact ⟨fun _ => ⟨fun _ => hn (fun o ho => by rw [hc] at ho; cases ho), fun q => absurd rfl q⟩, fun q => absurd (by show (-1 : Int32) < 0; decide) q⟩
    | some o =>
      have ho : o ≤ e := by
        unfold csF at hc
        by_cases c1 : k = 1
        · rw [if_pos c1] at hc; cases hc; exact Nat.le_refl _
        · rw [if_neg c1] at hc; have := cfn_lt _ _ _ hc; omega
      obtain ⟨t1, t2⟩ := ht o ho
      obtain ⟨t3, t4⟩ := ht e (Nat.le_refl _)
      show w_X12_chainStart_56 Q σ (nI r) (nI e) (nI b) (nI f) (nI o)
      refine ⟨fun q => absurd q (nI_pos (by omega)), fun _ => ⟨nI_in (N := 4001) (by omega) (by decide), nI_in (N := 4001) (by omega) (by decide), nI_in (N := 24) hb24 (by decide), ?_⟩⟩
      rw [nI_clamp (by omega), nI_clamp (by omega), nI_clamp (by omega), t1, t3, hw, tcmp t2 t4 hw2]
      refine ⟨fun hc2 => ⟨fun _ => hn (fun o' ho' h1 => ?_), fun q => absurd rfl q⟩, fun hc2 => rcl hr (by omega) (by omega) (fun hcl => ⟨fun q => absurd q (by decide), fun _ => ⟨fun q => absurd q (by decide), fun _ => hy o hc (by omega) hcl⟩⟩) (fun hcl => ⟨fun _ => ⟨fun _ => hn (fun o' ho' _ => ?_), fun q => absurd rfl q⟩, fun q => absurd rfl q⟩)⟩
      · rw [hc] at ho'; cases ho'; omega
      · rw [hc] at ho'; cases ho'; exact hcl
  refine ⟨?_, ?_, ?_⟩
  · rw [n4k]; exact nI_in (N := 48000) (by omega) (by decide)
  · rw [h32, n12, ← hbb]; exact i40
  · rw [h32, n12, n4k, ← hbb, nI_clamp (by omega), nI_clamp (by omega), hkey, hk]
    refine ⟨fun hc => ⟨i40, ?_⟩, fun hc => ?_⟩
    · have hk2 : ¬ k = 1 := fun q => hc (by rw [q]; rfl)
      have ek : nI k - 1 = nI (k - 2 + 1) := by
        rw [show nI k = nI (k - 2 + 1 + 1) from by rw [show k - 2 + 1 + 1 = k from by omega]]; exact nI_pred _
      rw [ek]
      refine rcf hr hf (by omega) (by omega) ?_
      have e1 : cfn (bM σ r f) (k - 2) e = csF σ r f k e := by unfold csF; rw [if_neg hk2]
      rw [e1]
      exact h56
    · have hk1' : k = 1 := (nI_eq (b := 1) (by omega) (by decide)).mp hc
      have e1 : csF σ r f k e = some e := by unfold csF; rw [if_pos hk1']
      rw [e1] at h56
      exact h56
end CHN
