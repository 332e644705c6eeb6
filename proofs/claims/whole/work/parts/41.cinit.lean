/-! ===== the class's constructor ===== -/
theorem ite0 {c : Prop} [Decidable c] {n x : Nat} : (if c then n + 1 else x) = 0 ↔ ¬ c ∧ x = 0 := by
  by_cases h : c <;> simp [h]
def cs_rowl (S : cs_S) (a : Nat) (f : Nat → Int64) : cs_S := (S.1, S.2.1, S.2.2.1, S.2.2.2.1, S.2.2.2.2.1, S.2.2.2.2.2.1, (fun b j => if b = a then f j else S.2.2.2.2.2.2.1 b j), S.2.2.2.2.2.2.2)
section ROWL
variable {S : cs_S} {a b j g : Nat} {f : Nat → Int64} {y : Int64}
theorem krw : cs_k (cs_rowl S a f) b = cs_k S b := rfl
theorem irw : cs_i (cs_rowl S a f) g b = cs_i S g b := rfl
theorem lrw : cs_l (cs_rowl S a f) g b = cs_l S g b := rfl
theorem rrw : cs_r (cs_rowl S a f) g b = cs_r S g b := rfl
theorem nrw : cs_n (cs_rowl S a f) b = cs_n S b := rfl
theorem airw : cs_ai (cs_rowl S a f) b j = cs_ai S b j := rfl
theorem arrw : cs_ar (cs_rowl S a f) b j = cs_ar S b j := rfl
theorem alrw : cs_al (cs_rowl S a f) b j = if b = a then f j else cs_al S b j := rfl
theorem cs_rowl_up : cs_ual (cs_rowl S a f) a j y = cs_rowl S a (fun m => if m = j then y else f m) := by
  unfold cs_ual cs_rowl
  refine Prod.ext rfl (Prod.ext rfl (Prod.ext rfl (Prod.ext rfl (Prod.ext rfl (Prod.ext rfl (Prod.ext (funext fun b => funext fun m => ?_) rfl))))))
  by_cases hb : b = a
  · subst hb
    by_cases hm : m = j <;> simp [cs_up2, hm]
  · simp [cs_up2, hb]
theorem cs_rowl_id (h : ∀ m, cs_al S a m = f m) : cs_rowl S a f = S := by
  unfold cs_rowl
  refine Prod.ext rfl (Prod.ext rfl (Prod.ext rfl (Prod.ext rfl (Prod.ext rfl (Prod.ext rfl (Prod.ext (funext fun b => funext fun m => ?_) rfl))))))
  by_cases hb : b = a
  · subst hb
    simp only [if_true]
    exact (h m).symm
  · simp [hb]
end ROWL
/-- the reserved words, letter by letter: how many are through, the next letter's place, the row -/
def cw_ch (k : Nat) : Int32 := (cs_byt.getD 0 []).getD k 0
def cw : Nat → Nat × Int32 × (Nat → Int64)
  | 0 => (0, 0, fun _ => 0)
  | k + 1 => if cw_ch k = 32 then ((cw k).1 + 1, 0, (cw k).2.2) else ((cw k).1, (cw k).2.1 + 1, fun m => if m = (cw k).1 then (cw k).2.2 (cw k).1 ||| ((((cw_ch k) - 97) + 1).toInt64 <<< ((5 * (11 - (cw k).2.1)).toInt64 &&& 63)) else (cw k).2.2 m)
def cw_n : Nat → Nat
  | 0 => 0
  | k + 1 => if cw_ch k = 32 then cw_n k + 1 else cw_n k
theorem cw_n_eq (k : Nat) : (cw k).1 = cw_n k := by
  induction k with
  | zero => rfl
  | succ k ih =>
    unfold cw cw_n
    by_cases h : cw_ch k = 32 <;> simp [h, ih]
theorem cw_lt : ∀ k, k < 100 → cw_n k < 20 := by decide +kernel
/-- the row of the reserved words -/
def cw_row : Nat → Int64 := (cw 100).2.2
theorem ci_loop {post : cs_S → Prop} {G : Nat → Nat} {mc ms : Nat} {S : cs_S} {o rv u v : Nat} (hk : cs_k S o = 10) (hr : cs_r S 903 o = some rv) (hkr : cs_k S rv = 21) (hn : cs_n S rv = 20) (hu : u ≤ mc) (hv : v ≤ ms) (h : post (cs_rowl S rv cw_row)) :
    ∀ (r k : Nat), k + r = 100 → w_X8_init_52 post G mc ms (r + 1) (cs_rowl S rv (cw k).2.2) u v o (nI (cw k).1) (cw k).2.1 (nI k) := by
  intro r
  induction r with
  | zero =>
    intro k hk9
    have : k = 100 := by omega
    subst this
    refine ⟨hu, hv, 0, by decide, rfl, fun _ => ⟨hu, hv, h⟩, fun hc => absurd (by decide) hc⟩
  | succ r ih =>
    intro k hk9
    have hk1 : k < 100 := by omega
    have hkc : (nI k).toNatClampNeg = k := nI_clamp (by omega)
    have hw : (cw k).1 < 20 := by rw [cw_n_eq]; exact cw_lt k hk1
    have hin : vp_in (nI k) (cs_len.getD 0 0) := nI_in (show k < 100 from hk1) (by decide)
    have hin2 : vp_in (nI (cw k).1) 20 := nI_in hw (by decide)
    have hwc : (nI (cw k).1).toNatClampNeg = (cw k).1 := nI_clamp (by omega)
    refine ⟨hu, hv, 0, by decide, rfl, fun hc => absurd hc (nI_ge (show k < 100 from hk1) (by decide)), fun _ => ⟨fun hc => absurd hc (nI_ge hw (by decide)), fun _ => ⟨0, by decide, rfl, hin, ?_⟩⟩⟩
    rw [hkc]
    show (¬ cw_ch k = 32 → _) ∧ (cw_ch k = 32 → _)
    refine ⟨fun hc => ?_, fun hc => ?_⟩
    · refine ⟨hk, fun r34 e34 r35 e35 => ⟨rv, e35.trans hr, hkr, by rw [nrw, hn]; exact hin2, 0, by decide, rfl, hin, rv, e34.trans hr, hkr, by rw [nrw, hn]; exact hin2, fun S42 e42 => ?_⟩⟩
      subst e42
      rw [hkc, hwc, cs_rowl_up]
      refine ⟨hu, hv, ?_⟩
      have e1 : nI k + 1 = nI (k + 1) := (nI_succ k).symm
      have e2 := ih (k + 1) (by omega)
      unfold cw at e2
      rw [if_neg hc] at e2
      rw [e1]
      have e3 : cs_al (cs_rowl S rv (cw k).2.2) rv (cw k).1 = (cw k).2.2 (cw k).1 := by rw [alrw, if_pos rfl]
      rw [e3]
      exact e2
    · refine ⟨hu, hv, ?_⟩
      have e1 : nI k + 1 = nI (k + 1) := (nI_succ k).symm
      have e0 : nI (cw k).1 + 1 = nI ((cw k).1 + 1) := (nI_succ _).symm
      have e2 := ih (k + 1) (by omega)
      unfold cw at e2
      rw [if_pos hc] at e2
      rw [e1, e0]
      exact e2
/-- the class's object: where its parts lie; the reserved words -/
def cf_C (G : Nat → Nat) (S : cs_S) (xo tp sc kd pl am rv rc pk wt : Nat) : Prop :=
  (cs_k S xo = 13 ∧ cs_r S 1200 xo = some tp ∧ cs_r S 1204 xo = some sc ∧ cs_r S 1205 xo = some rc ∧ cs_r S 1206 xo = some wt) ∧
  (cs_k S tp = 20 ∧ cs_n S tp = 2100) ∧
  (cs_k S sc = 10 ∧ cs_r S 900 sc = some kd ∧ cs_r S 901 sc = some pl ∧ cs_r S 902 sc = some am ∧ cs_r S 903 sc = some rv) ∧
  (cs_k S kd = 20 ∧ cs_n S kd = 2001 ∧ cs_k S pl = 20 ∧ cs_n S pl = 2001 ∧ cs_k S am = 21 ∧ cs_n S am = 2001 ∧ cs_k S rv = 21 ∧ cs_n S rv = 20 ∧ ∀ j, cs_al S rv j = cw_row j) ∧
  (cs_k S rc = 8 ∧ cs_r S 702 rc = some pk ∧ cs_k S pk = 20 ∧ cs_n S pk = 301) ∧
  (cs_k S wt = 12 ∧ cs_k S (G 0) = 20 ∧ cs_n S (G 0) = 0 ∧ cs_k S (G 1) = 27 ∧ cs_n S (G 1) = 0) ∧
  (tp ≠ kd ∧ tp ≠ pl ∧ tp ≠ pk ∧ kd ≠ pl ∧ kd ≠ pk ∧ pl ≠ pk ∧ am ≠ rv ∧ tp ≠ G 0 ∧ kd ≠ G 0 ∧ pl ≠ G 0 ∧ pk ≠ G 0)
/-- .. and what it holds at first -/
def cf_F (G : Nat → Nat) (S : cs_S) (xo : Nat) : Prop := ∃ tp sc kd pl am rv rc pk wt ru la td : Nat, cf_C G S xo tp sc kd pl am rv rc pk wt ∧
  (cs_i S 1201 xo = 0 ∧ cs_i S 1202 xo = 0 ∧ cs_i S 1203 xo = -1) ∧
  (cs_i S 700 rc = 0 ∧ cs_i S 701 rc = -1 ∧ cs_i S 703 rc = 0) ∧
  (cs_r S 1100 wt = some ru ∧ cs_k S ru = 22 ∧ cs_n S ru = 0 ∧ cs_i S 1101 wt = 0 ∧ cs_r S 1102 wt = some la ∧ cs_k S la = 23 ∧ cs_n S la = 64 ∧ cs_r S 1103 wt = some td ∧ cs_k S td = 1 ∧ cs_r S 1 td = some (G 1) ∧ cs_i S 2 td = 0) ∧
  (cs_i S 1104 wt = 0 ∧ cs_i S 1105 wt = 0 ∧ cs_i S 1106 wt = 0 ∧ cs_i S 1107 wt = 0 ∧ cs_i S 1108 wt = 0 ∧ cs_i S 1109 wt = 0 ∧ cs_r S 1110 wt = none ∧ cs_r S 1111 wt = none)
theorem cs_ne {S : cs_S} {a b n : Nat} (ha : cs_k S a = 0) (hb : cs_k S b = n + 1) : a ≠ b := by
  rintro rfl
  omega
/-- the scanner, made -/
def ci_S8 (G : Nat → Nat) (S : cs_S) (o kd pl am rv : Nat) : cs_S := cs_rowl (cs_ur (cs_ur (cs_newA (cs_ur (cs_newA (cs_ur (cs_newA (cs_ur (cs_newA S kd 20 2001) 900 o (some kd)) pl 20 2001) 901 o (some pl)) am 21 2001) 902 o (some am)) rv 21 20) 903 o (some rv)) 904 o (some (G 0))) rv cw_row
theorem ci_X8 {post : cs_S → Prop} {G : Nat → Nat} {mc ms : Nat} {S : cs_S} {o : Nat} (ho : cs_k S o = 10) (hmc : 4 ≤ mc) (hms : 6023 ≤ ms)
    (h : ∀ kd pl am rv, cs_k S kd = 0 → cs_k S pl = 0 → cs_k S am = 0 → cs_k S rv = 0 → kd ≠ pl → kd ≠ am → kd ≠ rv → pl ≠ am → pl ≠ rv → am ≠ rv → post (ci_S8 G S o kd pl am rv)) : wp_X8_init post G mc ms S o := by
  have n1 : (2001 : Int32).toNatClampNeg = 2001 := by decide
  have n2 : (20 : Int32).toNatClampNeg = 20 := by decide
  unfold wp_X8_init
  rw [n1, n2]
  refine ⟨by decide, by decide, by omega, by omega, ?_⟩
  intro kd h1 S44 e44
  have x1 : kd ≠ o := cs_ne h1 ho
  subst e44
  refine ⟨by simp [knewA, ho, x1.symm], ?_⟩
  intro S46 e46
  subst e46
  refine ⟨by decide, by decide, by omega, by omega, ?_⟩
  intro pl h2 S48 e48
  simp only [kur, knewA, ite0] at h2
  obtain ⟨y1, h2⟩ := h2
  have x2 : pl ≠ o := cs_ne h2 ho
  subst e48
  refine ⟨by simp [knewA, kur, ho, x1.symm, x2.symm], ?_⟩
  intro S50 e50
  subst e50
  refine ⟨by decide, by decide, by omega, by omega, ?_⟩
  intro am h3 S52 e52
  simp only [kur, knewA, ite0] at h3
  obtain ⟨y2, y3, h3⟩ := h3
  have x3 : am ≠ o := cs_ne h3 ho
  subst e52
  refine ⟨by simp [knewA, kur, ho, x1.symm, x2.symm, x3.symm], ?_⟩
  intro S54 e54
  subst e54
  refine ⟨by decide, by decide, by omega, by omega, ?_⟩
  intro rv h4 S56 e56
  simp only [kur, knewA, ite0] at h4
  obtain ⟨y4, y5, y6, h4⟩ := h4
  have x4 : rv ≠ o := cs_ne h4 ho
  subst e56
  refine ⟨by simp [knewA, kur, ho, x1.symm, x2.symm, x3.symm, x4.symm], ?_⟩
  intro S58 e58
  subst e58
  refine ⟨by simp [knewA, kur, ho, x1.symm, x2.symm, x3.symm, x4.symm], ?_⟩
  intro S60 e60
  refine ⟨101, ?_⟩
  have e0 : cs_rowl S60 rv (cw 0).2.2 = S60 := by
    refine cs_rowl_id (fun m => ?_)
    rw [e60]
    simp [alur, alnewA, cw]
  have hl := ci_loop (post := post) (G := G) (mc := mc) (ms := ms) (S := S60) (o := o) (rv := rv) (u := 0 + 1 + 1 + 1 + 1) (v := 0 + 2001 + 2001 + 2001 + 20) (by rw [e60]; simp [knewA, kur, ho, x1.symm, x2.symm, x3.symm, x4.symm]) (by rw [e60]; simp [rur]) (by rw [e60]; simp [kur, knewA]) (by rw [e60]; simp [nur, nnewA]) (by omega) (by omega) (by rw [e60]; exact h kd pl am rv h1 h2 h3 h4 (fun q => y1 q.symm) (fun q => y3 q.symm) (fun q => y6 q.symm) (fun q => y2 q.symm) (fun q => y5 q.symm) (fun q => y4 q.symm)) 100 0 rfl
  rw [e0] at hl
  exact hl
def ci_S6 (G : Nat → Nat) (S : cs_S) (o pk : Nat) : cs_S := cs_ui (cs_ur (cs_ur (cs_newA S pk 20 301) 702 o (some pk)) 704 o (some (G 0))) 701 o (-1)
theorem ci_X6 {post : cs_S → Prop} {G : Nat → Nat} {mc ms : Nat} {S : cs_S} {o : Nat} (ho : cs_k S o = 8) (hmc : 1 ≤ mc) (hms : 301 ≤ ms) (h : ∀ pk, cs_k S pk = 0 → post (ci_S6 G S o pk)) : wp_X6_init post G mc ms S o := by
  have n1 : (301 : Int32).toNatClampNeg = 301 := by decide
  unfold wp_X6_init
  rw [n1]
  refine ⟨by decide, by decide, by omega, by omega, ?_⟩
  intro pk h1 S10 e10
  have x1 : pk ≠ o := cs_ne h1 ho
  subst e10
  refine ⟨by simp [knewA, ho, x1.symm], ?_⟩
  intro S12 e12
  subst e12
  refine ⟨by simp [knewA, kur, ho, x1.symm], ?_⟩
  intro S14 e14
  subst e14
  refine ⟨by simp [knewA, kur, ho, x1.symm], ?_⟩
  intro S16 e16
  subst e16
  exact h pk h1
def ci_S10 (G : Nat → Nat) (S : cs_S) (o ru : Nat) (n : Int32) (la td : Nat) : cs_S := cs_ur (cs_ur (cs_ui (cs_new (cs_ur (cs_newA (cs_ui (cs_ur S 1100 o (some ru)) 1101 o n) la 23 64) 1102 o (some la)) td 0) 0 td 0) 1 td (some (G 1))) 1103 o (some td)
theorem ci_X10 {post : cs_S → Prop} {G : Nat → Nat} {mc ms : Nat} {S : cs_S} {o ru : Nat} {n : Int32} (ho : cs_k S o = 12) (hru : cs_k S ru = 22) (hmc : 2 ≤ mc) (hms : 67 ≤ ms)
    (h : ∀ la td, cs_k S la = 0 → cs_k S td = 0 → la ≠ td → post (ci_S10 G S o ru (if Int32.ofNat (cs_n S ru) < n then Int32.ofNat (cs_n S ru) else n) la td)) : wp_X10_init post G mc ms S o (some ru) n := by
  have n1 : (64 : Int32).toNatClampNeg = 64 := by decide
  unfold wp_X10_init
  rw [n1]
  refine ⟨ho, ?_⟩
  intro S17 e17
  subst e17
  refine ⟨ru, rfl, hru, ho, ?_⟩
  intro S21 e21
  subst e21
  refine ⟨by decide, by decide, by omega, by omega, ?_⟩
  intro la h1 S23 e23
  replace h1 : cs_k S la = 0 := h1
  have x1 : la ≠ o := cs_ne h1 ho
  subst e23
  refine ⟨by simp [knewA, kur, kui, ho, x1.symm], ?_⟩
  intro S25 e25
  subst e25
  refine ⟨by omega, by omega, ?_⟩
  intro td h2 S27 e27
  simp only [kur, kui, knewA, ite0] at h2
  obtain ⟨y1, h2⟩ := h2
  have x2 : td ≠ o := cs_ne h2 ho
  subst e27
  refine ⟨by simp [knew], ?_⟩
  intro S6 e6
  subst e6
  refine ⟨by simp [knew, kui], ?_⟩
  intro S7 e7
  subst e7
  refine ⟨by simp [knew, kui, kur, knewA, ho, x1.symm, x2.symm], ?_⟩
  intro S30 e30
  subst e30
  exact h la td h1 h2 (fun q => y1 q.symm)
theorem cs_n0 {G : Nat → Nat} {a : Nat} : cs_n (cs_00 G) a = 0 := by
  simp only [cs_n, cs_00, cs_newA, cs_0, va_up]
  split
  · rfl
  · split <;> rfl
set_option maxHeartbeats 4000000 in
theorem ci_X11 {post : cs_S → Prop} {G : Nat → Nat} {xo : Nat} (hG : G 0 ≠ G 1) (hxo : cs_k (cs_00 G) xo = 0) (h : ∀ S, cf_F G S xo → post S) : wp_X11_init post G 12 8517 (cs_new (cs_00 G) xo 12) xo := by
  have n1 : (2100 : Int32).toNatClampNeg = 2100 := by decide
  have n2 : (0 : Int32).toNatClampNeg = 0 := by decide
  have m_G1_G0 : G 0 ≠ G 1 := hG
  have n_G1_G0 : G 1 ≠ G 0 := hG.symm
  simp only [kui, kul, kur, kuai, kual, kuar, knew, knewA, krw, ite0, cs_00k, ci_S8, ci_S6, ci_S10] at hxo
  obtain ⟨n_xo_G1, n_xo_G0, -⟩ := hxo
  have m_xo_G1 := Ne.symm n_xo_G1
  have m_xo_G0 := Ne.symm n_xo_G0
  unfold wp_X11_init
  rw [n1, n2]
  refine ⟨by decide, by decide, by omega, by omega, ?_⟩
  intro tp h1 S25 e25
  simp only [kui, kul, kur, kuai, kual, kuar, knew, knewA, krw, ite0, cs_00k, ci_S8, ci_S6, ci_S10] at h1
  obtain ⟨n_tp_xo, n_tp_G1, n_tp_G0, -⟩ := h1
  have m_tp_xo := Ne.symm n_tp_xo
  have m_tp_G1 := Ne.symm n_tp_G1
  have m_tp_G0 := Ne.symm n_tp_G0
  subst e25
  refine ⟨by simp [kui, kul, kur, kuai, kual, kuar, knew, knewA, krw, cs_00k, ci_S8, ci_S6, ci_S10, m_G1_G0, n_G1_G0, n_xo_G1, m_xo_G1, n_xo_G0, m_xo_G0, n_tp_xo, m_tp_xo, n_tp_G1, m_tp_G1, n_tp_G0, m_tp_G0], ?_⟩
  intro S27 e27
  subst e27
  refine ⟨by simp [kui, kul, kur, kuai, kual, kuar, knew, knewA, krw, cs_00k, ci_S8, ci_S6, ci_S10, m_G1_G0, n_G1_G0, n_xo_G1, m_xo_G1, n_xo_G0, m_xo_G0, n_tp_xo, m_tp_xo, n_tp_G1, m_tp_G1, n_tp_G0, m_tp_G0], ?_⟩
  intro S29 e29
  subst e29
  refine ⟨by omega, by omega, ?_⟩
  intro sc h2 S31 e31
  simp only [kui, kul, kur, kuai, kual, kuar, knew, knewA, krw, ite0, cs_00k, ci_S8, ci_S6, ci_S10] at h2
  obtain ⟨n_sc_tp, n_sc_xo, n_sc_G1, n_sc_G0, -⟩ := h2
  have m_sc_tp := Ne.symm n_sc_tp
  have m_sc_xo := Ne.symm n_sc_xo
  have m_sc_G1 := Ne.symm n_sc_G1
  have m_sc_G0 := Ne.symm n_sc_G0
  subst e31
  refine ⟨4, 6023, by omega, by omega, ci_X8 (by simp [kui, kul, kur, kuai, kual, kuar, knew, knewA, krw, cs_00k, ci_S8, ci_S6, ci_S10, m_G1_G0, n_G1_G0, n_xo_G1, m_xo_G1, n_xo_G0, m_xo_G0, n_tp_xo, m_tp_xo, n_tp_G1, m_tp_G1, n_tp_G0, m_tp_G0, n_sc_tp, m_sc_tp, n_sc_xo, m_sc_xo, n_sc_G1, m_sc_G1, n_sc_G0, m_sc_G0]) (by omega) (by omega) ?_⟩
  intro kd pl am rv h_kd h_pl h_am h_rv n_pl_kd n_am_kd n_rv_kd n_am_pl n_rv_pl n_rv_am
  have m_pl_kd := Ne.symm n_pl_kd
  have m_am_kd := Ne.symm n_am_kd
  have m_rv_kd := Ne.symm n_rv_kd
  have m_am_pl := Ne.symm n_am_pl
  have m_rv_pl := Ne.symm n_rv_pl
  have m_rv_am := Ne.symm n_rv_am
  simp only [kui, kul, kur, kuai, kual, kuar, knew, knewA, krw, ite0, cs_00k, ci_S8, ci_S6, ci_S10] at h_kd
  obtain ⟨n_kd_sc, n_kd_tp, n_kd_xo, n_kd_G1, n_kd_G0, -⟩ := h_kd
  have m_kd_sc := Ne.symm n_kd_sc
  have m_kd_tp := Ne.symm n_kd_tp
  have m_kd_xo := Ne.symm n_kd_xo
  have m_kd_G1 := Ne.symm n_kd_G1
  have m_kd_G0 := Ne.symm n_kd_G0
  simp only [kui, kul, kur, kuai, kual, kuar, knew, knewA, krw, ite0, cs_00k, ci_S8, ci_S6, ci_S10] at h_pl
  obtain ⟨n_pl_sc, n_pl_tp, n_pl_xo, n_pl_G1, n_pl_G0, -⟩ := h_pl
  have m_pl_sc := Ne.symm n_pl_sc
  have m_pl_tp := Ne.symm n_pl_tp
  have m_pl_xo := Ne.symm n_pl_xo
  have m_pl_G1 := Ne.symm n_pl_G1
  have m_pl_G0 := Ne.symm n_pl_G0
  simp only [kui, kul, kur, kuai, kual, kuar, knew, knewA, krw, ite0, cs_00k, ci_S8, ci_S6, ci_S10] at h_am
  obtain ⟨n_am_sc, n_am_tp, n_am_xo, n_am_G1, n_am_G0, -⟩ := h_am
  have m_am_sc := Ne.symm n_am_sc
  have m_am_tp := Ne.symm n_am_tp
  have m_am_xo := Ne.symm n_am_xo
  have m_am_G1 := Ne.symm n_am_G1
  have m_am_G0 := Ne.symm n_am_G0
  simp only [kui, kul, kur, kuai, kual, kuar, knew, knewA, krw, ite0, cs_00k, ci_S8, ci_S6, ci_S10] at h_rv
  obtain ⟨n_rv_sc, n_rv_tp, n_rv_xo, n_rv_G1, n_rv_G0, -⟩ := h_rv
  have m_rv_sc := Ne.symm n_rv_sc
  have m_rv_tp := Ne.symm n_rv_tp
  have m_rv_xo := Ne.symm n_rv_xo
  have m_rv_G1 := Ne.symm n_rv_G1
  have m_rv_G0 := Ne.symm n_rv_G0
  refine ⟨by simp [kui, kul, kur, kuai, kual, kuar, knew, knewA, krw, cs_00k, ci_S8, ci_S6, ci_S10, m_G1_G0, n_G1_G0, n_xo_G1, m_xo_G1, n_xo_G0, m_xo_G0, n_tp_xo, m_tp_xo, n_tp_G1, m_tp_G1, n_tp_G0, m_tp_G0, n_sc_tp, m_sc_tp, n_sc_xo, m_sc_xo, n_sc_G1, m_sc_G1, n_sc_G0, m_sc_G0, n_pl_kd, m_pl_kd, n_am_kd, m_am_kd, n_rv_kd, m_rv_kd, n_am_pl, m_am_pl, n_rv_pl, m_rv_pl, n_rv_am, m_rv_am, n_kd_sc, m_kd_sc, n_kd_tp, m_kd_tp, n_kd_xo, m_kd_xo, n_kd_G1, m_kd_G1, n_kd_G0, m_kd_G0, n_pl_sc, m_pl_sc, n_pl_tp, m_pl_tp, n_pl_xo, m_pl_xo, n_pl_G1, m_pl_G1, n_pl_G0, m_pl_G0, n_am_sc, m_am_sc, n_am_tp, m_am_tp, n_am_xo, m_am_xo, n_am_G1, m_am_G1, n_am_G0, m_am_G0, n_rv_sc, m_rv_sc, n_rv_tp, m_rv_tp, n_rv_xo, m_rv_xo, n_rv_G1, m_rv_G1, n_rv_G0, m_rv_G0], ?_⟩
  intro S34 e34
  subst e34
  refine ⟨by omega, by omega, ?_⟩
  intro rc h3 S36 e36
  simp only [kui, kul, kur, kuai, kual, kuar, knew, knewA, krw, ite0, cs_00k, ci_S8, ci_S6, ci_S10] at h3
  obtain ⟨n_rc_rv, n_rc_am, n_rc_pl, n_rc_kd, n_rc_sc, n_rc_tp, n_rc_xo, n_rc_G1, n_rc_G0, -⟩ := h3
  have m_rc_rv := Ne.symm n_rc_rv
  have m_rc_am := Ne.symm n_rc_am
  have m_rc_pl := Ne.symm n_rc_pl
  have m_rc_kd := Ne.symm n_rc_kd
  have m_rc_sc := Ne.symm n_rc_sc
  have m_rc_tp := Ne.symm n_rc_tp
  have m_rc_xo := Ne.symm n_rc_xo
  have m_rc_G1 := Ne.symm n_rc_G1
  have m_rc_G0 := Ne.symm n_rc_G0
  subst e36
  refine ⟨1, 301, by omega, by omega, ci_X6 (by simp [kui, kul, kur, kuai, kual, kuar, knew, knewA, krw, cs_00k, ci_S8, ci_S6, ci_S10, m_G1_G0, n_G1_G0, n_xo_G1, m_xo_G1, n_xo_G0, m_xo_G0, n_tp_xo, m_tp_xo, n_tp_G1, m_tp_G1, n_tp_G0, m_tp_G0, n_sc_tp, m_sc_tp, n_sc_xo, m_sc_xo, n_sc_G1, m_sc_G1, n_sc_G0, m_sc_G0, n_pl_kd, m_pl_kd, n_am_kd, m_am_kd, n_rv_kd, m_rv_kd, n_am_pl, m_am_pl, n_rv_pl, m_rv_pl, n_rv_am, m_rv_am, n_kd_sc, m_kd_sc, n_kd_tp, m_kd_tp, n_kd_xo, m_kd_xo, n_kd_G1, m_kd_G1, n_kd_G0, m_kd_G0, n_pl_sc, m_pl_sc, n_pl_tp, m_pl_tp, n_pl_xo, m_pl_xo, n_pl_G1, m_pl_G1, n_pl_G0, m_pl_G0, n_am_sc, m_am_sc, n_am_tp, m_am_tp, n_am_xo, m_am_xo, n_am_G1, m_am_G1, n_am_G0, m_am_G0, n_rv_sc, m_rv_sc, n_rv_tp, m_rv_tp, n_rv_xo, m_rv_xo, n_rv_G1, m_rv_G1, n_rv_G0, m_rv_G0, n_rc_rv, m_rc_rv, n_rc_am, m_rc_am, n_rc_pl, m_rc_pl, n_rc_kd, m_rc_kd, n_rc_sc, m_rc_sc, n_rc_tp, m_rc_tp, n_rc_xo, m_rc_xo, n_rc_G1, m_rc_G1, n_rc_G0, m_rc_G0]) (by omega) (by omega) ?_⟩
  intro pk h_pk
  simp only [kui, kul, kur, kuai, kual, kuar, knew, knewA, krw, ite0, cs_00k, ci_S8, ci_S6, ci_S10] at h_pk
  obtain ⟨n_pk_rc, n_pk_rv, n_pk_am, n_pk_pl, n_pk_kd, n_pk_sc, n_pk_tp, n_pk_xo, n_pk_G1, n_pk_G0, -⟩ := h_pk
  have m_pk_rc := Ne.symm n_pk_rc
  have m_pk_rv := Ne.symm n_pk_rv
  have m_pk_am := Ne.symm n_pk_am
  have m_pk_pl := Ne.symm n_pk_pl
  have m_pk_kd := Ne.symm n_pk_kd
  have m_pk_sc := Ne.symm n_pk_sc
  have m_pk_tp := Ne.symm n_pk_tp
  have m_pk_xo := Ne.symm n_pk_xo
  have m_pk_G1 := Ne.symm n_pk_G1
  have m_pk_G0 := Ne.symm n_pk_G0
  refine ⟨by simp [kui, kul, kur, kuai, kual, kuar, knew, knewA, krw, cs_00k, ci_S8, ci_S6, ci_S10, m_G1_G0, n_G1_G0, n_xo_G1, m_xo_G1, n_xo_G0, m_xo_G0, n_tp_xo, m_tp_xo, n_tp_G1, m_tp_G1, n_tp_G0, m_tp_G0, n_sc_tp, m_sc_tp, n_sc_xo, m_sc_xo, n_sc_G1, m_sc_G1, n_sc_G0, m_sc_G0, n_pl_kd, m_pl_kd, n_am_kd, m_am_kd, n_rv_kd, m_rv_kd, n_am_pl, m_am_pl, n_rv_pl, m_rv_pl, n_rv_am, m_rv_am, n_kd_sc, m_kd_sc, n_kd_tp, m_kd_tp, n_kd_xo, m_kd_xo, n_kd_G1, m_kd_G1, n_kd_G0, m_kd_G0, n_pl_sc, m_pl_sc, n_pl_tp, m_pl_tp, n_pl_xo, m_pl_xo, n_pl_G1, m_pl_G1, n_pl_G0, m_pl_G0, n_am_sc, m_am_sc, n_am_tp, m_am_tp, n_am_xo, m_am_xo, n_am_G1, m_am_G1, n_am_G0, m_am_G0, n_rv_sc, m_rv_sc, n_rv_tp, m_rv_tp, n_rv_xo, m_rv_xo, n_rv_G1, m_rv_G1, n_rv_G0, m_rv_G0, n_rc_rv, m_rc_rv, n_rc_am, m_rc_am, n_rc_pl, m_rc_pl, n_rc_kd, m_rc_kd, n_rc_sc, m_rc_sc, n_rc_tp, m_rc_tp, n_rc_xo, m_rc_xo, n_rc_G1, m_rc_G1, n_rc_G0, m_rc_G0, n_pk_rc, m_pk_rc, n_pk_rv, m_pk_rv, n_pk_am, m_pk_am, n_pk_pl, m_pk_pl, n_pk_kd, m_pk_kd, n_pk_sc, m_pk_sc, n_pk_tp, m_pk_tp, n_pk_xo, m_pk_xo, n_pk_G1, m_pk_G1, n_pk_G0, m_pk_G0], ?_⟩
  intro S39 e39
  subst e39
  refine ⟨by omega, by omega, ?_⟩
  intro wt h4 S41 e41
  simp only [kui, kul, kur, kuai, kual, kuar, knew, knewA, krw, ite0, cs_00k, ci_S8, ci_S6, ci_S10] at h4
  obtain ⟨n_wt_pk, n_wt_rc, n_wt_rv, n_wt_am, n_wt_pl, n_wt_kd, n_wt_sc, n_wt_tp, n_wt_xo, n_wt_G1, n_wt_G0, -⟩ := h4
  have m_wt_pk := Ne.symm n_wt_pk
  have m_wt_rc := Ne.symm n_wt_rc
  have m_wt_rv := Ne.symm n_wt_rv
  have m_wt_am := Ne.symm n_wt_am
  have m_wt_pl := Ne.symm n_wt_pl
  have m_wt_kd := Ne.symm n_wt_kd
  have m_wt_sc := Ne.symm n_wt_sc
  have m_wt_tp := Ne.symm n_wt_tp
  have m_wt_xo := Ne.symm n_wt_xo
  have m_wt_G1 := Ne.symm n_wt_G1
  have m_wt_G0 := Ne.symm n_wt_G0
  subst e41
  refine ⟨by decide, by decide, by omega, by omega, ?_⟩
  intro ru h5 S43 e43
  simp only [kui, kul, kur, kuai, kual, kuar, knew, knewA, krw, ite0, cs_00k, ci_S8, ci_S6, ci_S10] at h5
  obtain ⟨n_ru_wt, n_ru_pk, n_ru_rc, n_ru_rv, n_ru_am, n_ru_pl, n_ru_kd, n_ru_sc, n_ru_tp, n_ru_xo, n_ru_G1, n_ru_G0, -⟩ := h5
  have m_ru_wt := Ne.symm n_ru_wt
  have m_ru_pk := Ne.symm n_ru_pk
  have m_ru_rc := Ne.symm n_ru_rc
  have m_ru_rv := Ne.symm n_ru_rv
  have m_ru_am := Ne.symm n_ru_am
  have m_ru_pl := Ne.symm n_ru_pl
  have m_ru_kd := Ne.symm n_ru_kd
  have m_ru_sc := Ne.symm n_ru_sc
  have m_ru_tp := Ne.symm n_ru_tp
  have m_ru_xo := Ne.symm n_ru_xo
  have m_ru_G1 := Ne.symm n_ru_G1
  have m_ru_G0 := Ne.symm n_ru_G0
  subst e43
  refine ⟨2, 67, by omega, by omega, ci_X10 (by simp [kui, kul, kur, kuai, kual, kuar, knew, knewA, krw, cs_00k, ci_S8, ci_S6, ci_S10, m_G1_G0, n_G1_G0, n_xo_G1, m_xo_G1, n_xo_G0, m_xo_G0, n_tp_xo, m_tp_xo, n_tp_G1, m_tp_G1, n_tp_G0, m_tp_G0, n_sc_tp, m_sc_tp, n_sc_xo, m_sc_xo, n_sc_G1, m_sc_G1, n_sc_G0, m_sc_G0, n_pl_kd, m_pl_kd, n_am_kd, m_am_kd, n_rv_kd, m_rv_kd, n_am_pl, m_am_pl, n_rv_pl, m_rv_pl, n_rv_am, m_rv_am, n_kd_sc, m_kd_sc, n_kd_tp, m_kd_tp, n_kd_xo, m_kd_xo, n_kd_G1, m_kd_G1, n_kd_G0, m_kd_G0, n_pl_sc, m_pl_sc, n_pl_tp, m_pl_tp, n_pl_xo, m_pl_xo, n_pl_G1, m_pl_G1, n_pl_G0, m_pl_G0, n_am_sc, m_am_sc, n_am_tp, m_am_tp, n_am_xo, m_am_xo, n_am_G1, m_am_G1, n_am_G0, m_am_G0, n_rv_sc, m_rv_sc, n_rv_tp, m_rv_tp, n_rv_xo, m_rv_xo, n_rv_G1, m_rv_G1, n_rv_G0, m_rv_G0, n_rc_rv, m_rc_rv, n_rc_am, m_rc_am, n_rc_pl, m_rc_pl, n_rc_kd, m_rc_kd, n_rc_sc, m_rc_sc, n_rc_tp, m_rc_tp, n_rc_xo, m_rc_xo, n_rc_G1, m_rc_G1, n_rc_G0, m_rc_G0, n_pk_rc, m_pk_rc, n_pk_rv, m_pk_rv, n_pk_am, m_pk_am, n_pk_pl, m_pk_pl, n_pk_kd, m_pk_kd, n_pk_sc, m_pk_sc, n_pk_tp, m_pk_tp, n_pk_xo, m_pk_xo, n_pk_G1, m_pk_G1, n_pk_G0, m_pk_G0, n_wt_pk, m_wt_pk, n_wt_rc, m_wt_rc, n_wt_rv, m_wt_rv, n_wt_am, m_wt_am, n_wt_pl, m_wt_pl, n_wt_kd, m_wt_kd, n_wt_sc, m_wt_sc, n_wt_tp, m_wt_tp, n_wt_xo, m_wt_xo, n_wt_G1, m_wt_G1, n_wt_G0, m_wt_G0, n_ru_wt, m_ru_wt, n_ru_pk, m_ru_pk, n_ru_rc, m_ru_rc, n_ru_rv, m_ru_rv, n_ru_am, m_ru_am, n_ru_pl, m_ru_pl, n_ru_kd, m_ru_kd, n_ru_sc, m_ru_sc, n_ru_tp, m_ru_tp, n_ru_xo, m_ru_xo, n_ru_G1, m_ru_G1, n_ru_G0, m_ru_G0]) (by simp [kui, kul, kur, kuai, kual, kuar, knew, knewA, krw, cs_00k, ci_S8, ci_S6, ci_S10, m_G1_G0, n_G1_G0, n_xo_G1, m_xo_G1, n_xo_G0, m_xo_G0, n_tp_xo, m_tp_xo, n_tp_G1, m_tp_G1, n_tp_G0, m_tp_G0, n_sc_tp, m_sc_tp, n_sc_xo, m_sc_xo, n_sc_G1, m_sc_G1, n_sc_G0, m_sc_G0, n_pl_kd, m_pl_kd, n_am_kd, m_am_kd, n_rv_kd, m_rv_kd, n_am_pl, m_am_pl, n_rv_pl, m_rv_pl, n_rv_am, m_rv_am, n_kd_sc, m_kd_sc, n_kd_tp, m_kd_tp, n_kd_xo, m_kd_xo, n_kd_G1, m_kd_G1, n_kd_G0, m_kd_G0, n_pl_sc, m_pl_sc, n_pl_tp, m_pl_tp, n_pl_xo, m_pl_xo, n_pl_G1, m_pl_G1, n_pl_G0, m_pl_G0, n_am_sc, m_am_sc, n_am_tp, m_am_tp, n_am_xo, m_am_xo, n_am_G1, m_am_G1, n_am_G0, m_am_G0, n_rv_sc, m_rv_sc, n_rv_tp, m_rv_tp, n_rv_xo, m_rv_xo, n_rv_G1, m_rv_G1, n_rv_G0, m_rv_G0, n_rc_rv, m_rc_rv, n_rc_am, m_rc_am, n_rc_pl, m_rc_pl, n_rc_kd, m_rc_kd, n_rc_sc, m_rc_sc, n_rc_tp, m_rc_tp, n_rc_xo, m_rc_xo, n_rc_G1, m_rc_G1, n_rc_G0, m_rc_G0, n_pk_rc, m_pk_rc, n_pk_rv, m_pk_rv, n_pk_am, m_pk_am, n_pk_pl, m_pk_pl, n_pk_kd, m_pk_kd, n_pk_sc, m_pk_sc, n_pk_tp, m_pk_tp, n_pk_xo, m_pk_xo, n_pk_G1, m_pk_G1, n_pk_G0, m_pk_G0, n_wt_pk, m_wt_pk, n_wt_rc, m_wt_rc, n_wt_rv, m_wt_rv, n_wt_am, m_wt_am, n_wt_pl, m_wt_pl, n_wt_kd, m_wt_kd, n_wt_sc, m_wt_sc, n_wt_tp, m_wt_tp, n_wt_xo, m_wt_xo, n_wt_G1, m_wt_G1, n_wt_G0, m_wt_G0, n_ru_wt, m_ru_wt, n_ru_pk, m_ru_pk, n_ru_rc, m_ru_rc, n_ru_rv, m_ru_rv, n_ru_am, m_ru_am, n_ru_pl, m_ru_pl, n_ru_kd, m_ru_kd, n_ru_sc, m_ru_sc, n_ru_tp, m_ru_tp, n_ru_xo, m_ru_xo, n_ru_G1, m_ru_G1, n_ru_G0, m_ru_G0]) (by omega) (by omega) ?_⟩
  intro la td h_la h_td n_td_la
  have m_td_la := Ne.symm n_td_la
  simp only [kui, kul, kur, kuai, kual, kuar, knew, knewA, krw, ite0, cs_00k, ci_S8, ci_S6, ci_S10] at h_la
  obtain ⟨n_la_ru, n_la_wt, n_la_pk, n_la_rc, n_la_rv, n_la_am, n_la_pl, n_la_kd, n_la_sc, n_la_tp, n_la_xo, n_la_G1, n_la_G0, -⟩ := h_la
  have m_la_ru := Ne.symm n_la_ru
  have m_la_wt := Ne.symm n_la_wt
  have m_la_pk := Ne.symm n_la_pk
  have m_la_rc := Ne.symm n_la_rc
  have m_la_rv := Ne.symm n_la_rv
  have m_la_am := Ne.symm n_la_am
  have m_la_pl := Ne.symm n_la_pl
  have m_la_kd := Ne.symm n_la_kd
  have m_la_sc := Ne.symm n_la_sc
  have m_la_tp := Ne.symm n_la_tp
  have m_la_xo := Ne.symm n_la_xo
  have m_la_G1 := Ne.symm n_la_G1
  have m_la_G0 := Ne.symm n_la_G0
  simp only [kui, kul, kur, kuai, kual, kuar, knew, knewA, krw, ite0, cs_00k, ci_S8, ci_S6, ci_S10] at h_td
  obtain ⟨n_td_ru, n_td_wt, n_td_pk, n_td_rc, n_td_rv, n_td_am, n_td_pl, n_td_kd, n_td_sc, n_td_tp, n_td_xo, n_td_G1, n_td_G0, -⟩ := h_td
  have m_td_ru := Ne.symm n_td_ru
  have m_td_wt := Ne.symm n_td_wt
  have m_td_pk := Ne.symm n_td_pk
  have m_td_rc := Ne.symm n_td_rc
  have m_td_rv := Ne.symm n_td_rv
  have m_td_am := Ne.symm n_td_am
  have m_td_pl := Ne.symm n_td_pl
  have m_td_kd := Ne.symm n_td_kd
  have m_td_sc := Ne.symm n_td_sc
  have m_td_tp := Ne.symm n_td_tp
  have m_td_xo := Ne.symm n_td_xo
  have m_td_G1 := Ne.symm n_td_G1
  have m_td_G0 := Ne.symm n_td_G0
  refine ⟨by simp [kui, kul, kur, kuai, kual, kuar, knew, knewA, krw, cs_00k, ci_S8, ci_S6, ci_S10, m_G1_G0, n_G1_G0, n_xo_G1, m_xo_G1, n_xo_G0, m_xo_G0, n_tp_xo, m_tp_xo, n_tp_G1, m_tp_G1, n_tp_G0, m_tp_G0, n_sc_tp, m_sc_tp, n_sc_xo, m_sc_xo, n_sc_G1, m_sc_G1, n_sc_G0, m_sc_G0, n_pl_kd, m_pl_kd, n_am_kd, m_am_kd, n_rv_kd, m_rv_kd, n_am_pl, m_am_pl, n_rv_pl, m_rv_pl, n_rv_am, m_rv_am, n_kd_sc, m_kd_sc, n_kd_tp, m_kd_tp, n_kd_xo, m_kd_xo, n_kd_G1, m_kd_G1, n_kd_G0, m_kd_G0, n_pl_sc, m_pl_sc, n_pl_tp, m_pl_tp, n_pl_xo, m_pl_xo, n_pl_G1, m_pl_G1, n_pl_G0, m_pl_G0, n_am_sc, m_am_sc, n_am_tp, m_am_tp, n_am_xo, m_am_xo, n_am_G1, m_am_G1, n_am_G0, m_am_G0, n_rv_sc, m_rv_sc, n_rv_tp, m_rv_tp, n_rv_xo, m_rv_xo, n_rv_G1, m_rv_G1, n_rv_G0, m_rv_G0, n_rc_rv, m_rc_rv, n_rc_am, m_rc_am, n_rc_pl, m_rc_pl, n_rc_kd, m_rc_kd, n_rc_sc, m_rc_sc, n_rc_tp, m_rc_tp, n_rc_xo, m_rc_xo, n_rc_G1, m_rc_G1, n_rc_G0, m_rc_G0, n_pk_rc, m_pk_rc, n_pk_rv, m_pk_rv, n_pk_am, m_pk_am, n_pk_pl, m_pk_pl, n_pk_kd, m_pk_kd, n_pk_sc, m_pk_sc, n_pk_tp, m_pk_tp, n_pk_xo, m_pk_xo, n_pk_G1, m_pk_G1, n_pk_G0, m_pk_G0, n_wt_pk, m_wt_pk, n_wt_rc, m_wt_rc, n_wt_rv, m_wt_rv, n_wt_am, m_wt_am, n_wt_pl, m_wt_pl, n_wt_kd, m_wt_kd, n_wt_sc, m_wt_sc, n_wt_tp, m_wt_tp, n_wt_xo, m_wt_xo, n_wt_G1, m_wt_G1, n_wt_G0, m_wt_G0, n_ru_wt, m_ru_wt, n_ru_pk, m_ru_pk, n_ru_rc, m_ru_rc, n_ru_rv, m_ru_rv, n_ru_am, m_ru_am, n_ru_pl, m_ru_pl, n_ru_kd, m_ru_kd, n_ru_sc, m_ru_sc, n_ru_tp, m_ru_tp, n_ru_xo, m_ru_xo, n_ru_G1, m_ru_G1, n_ru_G0, m_ru_G0, n_td_la, m_td_la, n_la_ru, m_la_ru, n_la_wt, m_la_wt, n_la_pk, m_la_pk, n_la_rc, m_la_rc, n_la_rv, m_la_rv, n_la_am, m_la_am, n_la_pl, m_la_pl, n_la_kd, m_la_kd, n_la_sc, m_la_sc, n_la_tp, m_la_tp, n_la_xo, m_la_xo, n_la_G1, m_la_G1, n_la_G0, m_la_G0, n_td_ru, m_td_ru, n_td_wt, m_td_wt, n_td_pk, m_td_pk, n_td_rc, m_td_rc, n_td_rv, m_td_rv, n_td_am, m_td_am, n_td_pl, m_td_pl, n_td_kd, m_td_kd, n_td_sc, m_td_sc, n_td_tp, m_td_tp, n_td_xo, m_td_xo, n_td_G1, m_td_G1, n_td_G0, m_td_G0], ?_⟩
  intro S46 e46
  subst e46
  refine h _ ⟨tp, sc, kd, pl, am, rv, rc, pk, wt, ru, la, td, ⟨⟨?_, ?_, ?_, ?_, ?_⟩, ⟨?_, ?_⟩, ⟨?_, ?_, ?_, ?_, ?_⟩, ⟨?_, ?_, ?_, ?_, ?_, ?_, ?_, ?_, ?_⟩, ⟨?_, ?_, ?_, ?_⟩, ⟨?_, ?_, ?_, ?_, ?_⟩, ⟨?_, ?_, ?_, ?_, ?_, ?_, ?_, ?_, ?_, ?_, ?_⟩⟩, ⟨?_, ?_, ?_⟩, ⟨?_, ?_, ?_⟩, ⟨?_, ?_, ?_, ?_, ?_, ?_, ?_, ?_, ?_, ?_, ?_⟩, ⟨?_, ?_, ?_, ?_, ?_, ?_, ?_, ?_⟩⟩
  all_goals simp [kui, kul, kur, kuai, kual, kuar, knew, knewA, krw, iui, iul, iur, iuai, iual, iuar, inew, inewA, irw, rui, rul, rur, ruai, rual, ruar, rnew, rnewA, rrw, nui, nul, nur, nuai, nual, nuar, nnew, nnewA, nrw, alui, alul, alur, aluai, alual, aluar, alnew, alnewA, alrw, cs_00k, ci_S8, ci_S6, ci_S10, cs_00, cs_0, cs_n0, m_G1_G0, n_G1_G0, n_xo_G1, m_xo_G1, n_xo_G0, m_xo_G0, n_tp_xo, m_tp_xo, n_tp_G1, m_tp_G1, n_tp_G0, m_tp_G0, n_sc_tp, m_sc_tp, n_sc_xo, m_sc_xo, n_sc_G1, m_sc_G1, n_sc_G0, m_sc_G0, n_pl_kd, m_pl_kd, n_am_kd, m_am_kd, n_rv_kd, m_rv_kd, n_am_pl, m_am_pl, n_rv_pl, m_rv_pl, n_rv_am, m_rv_am, n_kd_sc, m_kd_sc, n_kd_tp, m_kd_tp, n_kd_xo, m_kd_xo, n_kd_G1, m_kd_G1, n_kd_G0, m_kd_G0, n_pl_sc, m_pl_sc, n_pl_tp, m_pl_tp, n_pl_xo, m_pl_xo, n_pl_G1, m_pl_G1, n_pl_G0, m_pl_G0, n_am_sc, m_am_sc, n_am_tp, m_am_tp, n_am_xo, m_am_xo, n_am_G1, m_am_G1, n_am_G0, m_am_G0, n_rv_sc, m_rv_sc, n_rv_tp, m_rv_tp, n_rv_xo, m_rv_xo, n_rv_G1, m_rv_G1, n_rv_G0, m_rv_G0, n_rc_rv, m_rc_rv, n_rc_am, m_rc_am, n_rc_pl, m_rc_pl, n_rc_kd, m_rc_kd, n_rc_sc, m_rc_sc, n_rc_tp, m_rc_tp, n_rc_xo, m_rc_xo, n_rc_G1, m_rc_G1, n_rc_G0, m_rc_G0, n_pk_rc, m_pk_rc, n_pk_rv, m_pk_rv, n_pk_am, m_pk_am, n_pk_pl, m_pk_pl, n_pk_kd, m_pk_kd, n_pk_sc, m_pk_sc, n_pk_tp, m_pk_tp, n_pk_xo, m_pk_xo, n_pk_G1, m_pk_G1, n_pk_G0, m_pk_G0, n_wt_pk, m_wt_pk, n_wt_rc, m_wt_rc, n_wt_rv, m_wt_rv, n_wt_am, m_wt_am, n_wt_pl, m_wt_pl, n_wt_kd, m_wt_kd, n_wt_sc, m_wt_sc, n_wt_tp, m_wt_tp, n_wt_xo, m_wt_xo, n_wt_G1, m_wt_G1, n_wt_G0, m_wt_G0, n_ru_wt, m_ru_wt, n_ru_pk, m_ru_pk, n_ru_rc, m_ru_rc, n_ru_rv, m_ru_rv, n_ru_am, m_ru_am, n_ru_pl, m_ru_pl, n_ru_kd, m_ru_kd, n_ru_sc, m_ru_sc, n_ru_tp, m_ru_tp, n_ru_xo, m_ru_xo, n_ru_G1, m_ru_G1, n_ru_G0, m_ru_G0, n_td_la, m_td_la, n_la_ru, m_la_ru, n_la_wt, m_la_wt, n_la_pk, m_la_pk, n_la_rc, m_la_rc, n_la_rv, m_la_rv, n_la_am, m_la_am, n_la_pl, m_la_pl, n_la_kd, m_la_kd, n_la_sc, m_la_sc, n_la_tp, m_la_tp, n_la_xo, m_la_xo, n_la_G1, m_la_G1, n_la_G0, m_la_G0, n_td_ru, m_td_ru, n_td_wt, m_td_wt, n_td_pk, m_td_pk, n_td_rc, m_td_rc, n_td_rv, m_td_rv, n_td_am, m_td_am, n_td_pl, m_td_pl, n_td_kd, m_td_kd, n_td_sc, m_td_sc, n_td_tp, m_td_tp, n_td_xo, m_td_xo, n_td_G1, m_td_G1, n_td_G0, m_td_G0]
