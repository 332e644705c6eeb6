/-! ===== a rule read: its end ===== -/
/-- the reference's rows of it -/
def rWx (σ : rf_S) (b x k n : Nat) : Prop := (σ.2.2.1 38 b = nI x ∧ x ≤ 4) ∧ (σ.2.2.1 40 b = nI k ∧ 1 ≤ k ∧ k ≤ 5 ∧ (x ≤ 2 → k = 1) ∧ (x = 4 → k = 2)) ∧ (σ.2.2.1 43 b = nI n ∧ n ≤ 3) ∧ ((x = 0 ∨ x = 1) → ∃ L, 1 ≤ L ∧ L ≤ 1000 ∧ σ.2.2.1 39 b = nI L) ∧ ∀ i j, i < n → j < n → σ.2.2.2 37 (3 * b + i) = σ.2.2.2 37 (3 * b + j) → i = j
/-- the class's values against them -/
def cJ (S : cs_S) (σ : rf_S) (bk nr cn x k n : Nat) (na : Int64) (vi : Nat → Int32) (vl : Nat → Int64) (un : Option Nat) (ce : Nat → Option Nat) (be : Nat → Int64) : Prop :=
  (vi 800 = nI nr ∧ vi 812 = 0 ∧ vi 813 = 0 ∧ vi 806 = nI k ∧ vi 809 = nI n ∧ whC x (vi 802) ∧ vi 803 = σ.2.2.1 39 (12 * bk + nr) ∧ vl 801 = na) ∧
  (∃ tr ut, cdT S σ bk cn (12 * bk + nr) k ce tr ∧ unS S σ bk cn (12 * bk + nr) un ut ∧ (x ≠ 3 → ut = none)) ∧ ((x = 1 ∨ x = 2) → ∃ n' l, n' ≤ 8 ∧ wdR n' (vl 804) (σ.2.2.2 36 (12 * bk + nr)) l) ∧ ∀ j, j < n → ∃ n' l, n' ≤ 8 ∧ wdR n' (be j) (σ.2.2.2 37 (3 * (12 * bk + nr) + j)) l
/-- a rule that has been read, on both sides -/
def fin (S0 S : cs_S) (σ : rf_S) (bk cn r a bt wt nb x k n w q L : Nat) (tr : Nat → cT 14) (ut : Option (cT 14)) : Prop :=
  ruW σ (12 * bk + r) x k n w q (fun _ => 14) tr 14 ut ∧ ((x = 0 ∨ x = 1) → 1 ≤ L ∧ L ≤ 1000 ∧ σ.2.2.1 39 (12 * bk + r) = nI L) ∧ ruC S σ r a (12 * bk + r) x k n w q (fun _ => 14) tr 14 ut ∧
  (∀ by0, cs_r S 808 a = some by0 → ∀ i j, i < n → j < n → cs_al S by0 i = cs_al S by0 j → i = j) ∧ (∀ i j, i < n → j < n → σ.2.2.2 37 (3 * (12 * bk + r) + i) = σ.2.2.2 37 (3 * (12 * bk + r) + j) → i = j) ∧
  ((∀ j, j < k → ∃ m, σ.2.2.1 41 (6 * (12 * bk + r) + j) = nI m ∧ inB bk cn m ∧ rR σ 14 m (tr j) ∧ rLv σ 14 (tr j)) ∧ ((ut = none ∧ σ.2.2.1 42 (12 * bk + r) = -1) ∨ ∃ t m, ut = some t ∧ σ.2.2.1 42 (12 * bk + r) = nI m ∧ inB bk cn m ∧ rR σ 14 m t ∧ rLv σ 14 t)) ∧
  (cs_i S 812 a = 0 ∧ cs_i S 813 a = 0 ∧ cs_r S 814 a = none ∧ cs_r S 816 a = some bt ∧ cs_k S bt = 25 ∧ cs_n S bt = nb ∧ (nb = 1 ∨ nb = 128) ∧ ∀ j, cs_ar S bt j = none) ∧ (cs_r S 817 a = some wt ∧ cs_k S wt = 26 ∧ cs_n S wt = 4) ∧ cs_k S0 a = 0 ∧ cs_k S0 bt = 0 ∧ cs_k S0 wt = 0
/-- what reading a rule changes in the class -/
def pG (cx : Nat → Nat) (s f a : Nat) : Prop := pE (cx 0) s f a ∨ (s = 0 ∧ a = cx 0 ∧ f = 601) ∨ (s = 5 ∧ a = cx 6)
/-- how the rest of a rule is read on both sides -/
def OUTR (G cx : Nat → Nat) (bf : Nat → Nat) (z c bk nr : Nat) (ra : Nat → Nat) (nm : Nat → Int64) (na : Int64) (i cn : Nat) (σ : rf_S) (RW : (Int32 → rf_S → Prop) → Prop) (st : cs_S → cs_S → Nat → Prop) (CWp : (cs_S → Prop) → Nat → Nat → Nat → Nat → cs_S → Nat → Prop) : Prop :=
  ∃ (r : Int32) (σ1 : rf_S) (m n : Nat), gF bk nr cn σ σ1 ∧ (∀ Q : Int32 → rf_S → Prop, Q r σ1 → RW Q) ∧
    ((r = 1 ∧ ∃ i1 cn1, i < i1 ∧ i1 ≤ c ∧ cn ≤ cn1 ∧ rA bf z bk (nr + 1) (up nm nr na) i1 cn1 σ1 ∧ m + 10 * qp bf z i ≤ 10 * qp bf z i1 ∧ n + 200 * qp bf z i ≤ 200 * qp bf z i1 ∧
        ∀ (S0 S : cs_S) (R : Nat) (post : cs_S → Prop), st S0 S R → (∀ S1, pA G cx bf z c (nr + 1) (up ra nr R) (up nm nr na) i1 S1 → fX (pG cx) S0 S1 → (∃ bt wt nb x k n w q L tr ut, fin S0 S1 σ1 bk cn1 nr R bt wt nb x k n w q L tr ut) → post S1) → ∀ mc ms u v, u + m ≤ mc → v + n ≤ ms → CWp post mc ms u v S R) ∨
      ∃ fk fp, r = 0 ∧ rD fk fp σ1 ∧ m + 10 * qp bf z i ≤ 10 * z + 20 ∧ n + 200 * qp bf z i ≤ 200 * z + 200 ∧
        ∀ (S0 S : cs_S) (R : Nat) (post : cs_S → Prop), st S0 S R → (∀ S1, pQ G cx bf z c nr ra nm fk fp S1 → fX (pE (cx 0)) S0 S1 → post S1) → ∀ mc ms u v, u + m ≤ mc → v + n ≤ ms → CWp post mc ms u v S R)
/-- rows that stay -/
def sK (σ σ' : rf_S) : Prop := (∀ k j, 36 ≤ k → k ≤ 43 → σ'.2.2.1 k j = σ.2.2.1 k j) ∧ ∀ k j, 35 ≤ k → k ≤ 37 → σ'.2.2.2 k j = σ.2.2.2 k j
section TLS
variable {G cx : Nat → Nat} {bf : Nat → Nat} {z c bk nr i i' cn cn' b x k n R ca by0 wt : Nat} {ra : Nat → Nat} {nm : Nat → Int64} {na : Int64} {σ σ' : rf_S} {S S' S0 : cs_S} {vi : Nat → Int32} {vl : Nat → Int64} {un : Option Nat} {ce : Nat → Option Nat} {be : Nat → Int64} {fk fp : Int32}
theorem pF.sk (h : pF bk cn σ σ') : sK σ σ' := ⟨fun k j _ _ => h.2.2.1 k j (by omega), fun k j _ _ => h.2.2.2 k j (by omega)⟩
theorem sK.trans {σ2 : rf_S} (h : sK σ σ') (g : sK σ' σ2) : sK σ σ2 := ⟨fun k j a b => (g.1 k j a b).trans (h.1 k j a b), fun k j a b => (g.2 k j a b).trans (h.2 k j a b)⟩
theorem sK.ua {j : Nat} {y : Int32} {kk : Nat} (h : kk = 44 ∨ kk = 45) : sK σ (rf_ua σ kk j y) := ⟨fun k' j' a b => by rw [r3ua, if_neg (by omega)], fun _ _ _ _ => rfl⟩
theorem rWx.on (h : rWx σ b x k n) (hs : sK σ σ') : rWx σ' b x k n := by
  obtain ⟨h1, h2, h3, h4, h5⟩ := h
  unfold rWx
  rw [hs.1 38 b (by decide) (by decide), hs.1 40 b (by decide) (by decide), hs.1 43 b (by decide) (by decide), hs.1 39 b (by decide) (by decide)]
  refine ⟨h1, h2, h3, h4, fun i j hi hj => ?_⟩
  rw [hs.2 37 _ (by decide) (by decide), hs.2 37 _ (by decide) (by decide)]
  exact h5 i j hi hj
theorem cJ.on (h : cJ S σ bk nr cn x k n na vi vl un ce be) (hs : sK σ σ') (hc : cn ≤ cn') (hP : prS σ σ' bk cn) {E9 : Nat → Nat → Nat → Prop} (hF : fX E9 S S') (hE : ∀ s f a, E9 s f a → cs_k S a ≠ 3 ∧ cs_k S a ≠ 11 ∧ cs_k S a ≠ 20) : cJ S' σ' bk nr cn' x k n na vi vl un ce be := by
  obtain ⟨h1, ⟨tr, ut, h2, h3, h4⟩, h5, h6⟩ := h
  refine ⟨by rw [hs.1 39 _ (by decide) (by decide)]; exact h1, ⟨tr, ut, h2.on hc hP (fun c _ => hs.1 41 _ (by decide) (by decide)) hF hE, h3.on hc hP (hs.1 42 _ (by decide) (by decide)) hF hE, h4⟩, ?_, fun j hj => ?_⟩
  · rw [hs.2 36 _ (by decide) (by decide)]; exact h5
  · rw [hs.2 37 _ (by decide) (by decide)]; exact h6 j hj
theorem cJ.vv {vi' : Nat → Int32} (h : cJ S σ bk nr cn x k n na vi vl un ce be) (hv : ∀ f, f ≠ 810 → f ≠ 811 → vi' f = vi f) : cJ S σ bk nr cn x k n na vi' vl un ce be := by
  obtain ⟨h1, h2⟩ := h
  refine ⟨?_, h2⟩
  rw [hv 800 (by decide) (by decide), hv 812 (by decide) (by decide), hv 813 (by decide) (by decide), hv 806 (by decide) (by decide), hv 809 (by decide) (by decide), hv 802 (by decide) (by decide), hv 803 (by decide) (by decide)]
  exact h1
theorem i32n {v : Int32} {a b : Nat} (ha : ¬ v < nI a) (hb : v ≤ nI b) (ha2 : a < 2 ^ 31) (hb2 : b < 2 ^ 31) : ∃ w, a ≤ w ∧ w ≤ b ∧ v = nI w := by
  rw [Int32.lt_iff_toInt_lt, nI_toInt ha2] at ha
  rw [Int32.le_iff_toInt_le, nI_toInt hb2] at hb
  refine ⟨v.toInt.toNat, by omega, by omega, nI_at (by omega) (by omega)⟩
/-- behind a fault -/
theorem d_117 (h : dM G cx bf z c nr ra nm S0 R fk fp S) {post : cs_S → Prop} {mc ms u v : Nat} (hu : u ≤ mc) (hv : v ≤ ms) (hp : ∀ S1, pQ G cx bf z c nr ra nm fk fp S1 → fX (pE (cx 0)) S0 S1 → post S1) : w_X5_readRule_117 post G mc ms S u v (cx 0) (some R) :=
  ⟨hu, hv, h.k7, d_skip (x := 9) h.1 (by decide) (by decide) ⟨h.k7, fun _ => ⟨hu, hv, hp S h.1 h.2.1⟩, fun q => absurd (h.1.2.2.2.1.symm.trans q) h.1.2.2.1⟩⟩
theorem d_76 (h : dM G cx bf z c nr ra nm S0 R fk fp S) {post : cs_S → Prop} {mc ms u v : Nat} (hu : u ≤ mc) (hv : v ≤ ms) (hp : ∀ S1, pQ G cx bf z c nr ra nm fk fp S1 → fX (pE (cx 0)) S0 S1 → post S1) : w_X5_readRule_76 post G mc ms S u v (cx 0) (some R) := by
  refine ⟨hu, hv, h.k7, d_skip (x := 22) h.1 (by decide) (by decide) ⟨h.k7, d_number h.1 ⟨R, rfl, h.k9, fun S61 e61 => ?_⟩⟩⟩
  have h61 : dM G cx bf z c nr ra nm S0 R fk fp S61 := by rw [e61]; exact h.ui (by decide)
  exact ⟨h61.k7, fun _ => d_117 h61 hu hv hp, fun q => absurd q (h61.k0 (x := 23) (by decide) (by decide))⟩
end TLS
