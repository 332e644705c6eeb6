/-! ===== behind a fault: the class reads a record to its end for nothing ===== -/
section RDD
variable {G : Nat → Nat} {rc tp : Nat}
theorem cck_any {post : Int32 → cs_S → Prop} {S : cs_S} {N : Nat} (hk : cs_k S tp = 20) (hn : cs_n S tp = N) (hN : N < 2 ^ 31) (h : ∀ c, post c S) (x : Int32) : ∀ r k c, k + r = N → w_X6_checkOf_9 post G (r + 1) S (some tp) x c (nI k) := by
  intro r
  induction r with
  | zero =>
    intro k c hkr
    have : k = N := by omega
    subst this
    refine ⟨fun _ => h _, fun _ => ⟨tp, rfl, hk, fun _ => h _, fun hc => ?_⟩⟩
    rw [hn] at hc
    exact absurd (nI_le (Nat.le_refl _) hN) hc
  | succ r ih =>
    intro k c hkr
    refine ⟨fun _ => h _, fun _ => ⟨tp, rfl, hk, fun _ => h _, fun _ => ⟨by rw [hn]; exact nI_in (by omega) hN, 9, cck_32 8 0 _ rfl ?_⟩⟩⟩
    rw [nI_1]
    exact ih (k + 1) _ (by omega)
theorem cck_dead {post : Int32 → cs_S → Prop} {S : cs_S} {st : Nat} (hk : cs_k S tp = 20) (hn : cs_n S tp = 2100) (hst : st ≤ 2100) (h : ∀ c, post c S) (x : Int32) : wp_X6_checkOf post G S (some tp) (nI st) x := by
  have e0 : (if nI st < 0 then 0 else nI st) = nI st := if_neg (nI_pos (by omega))
  refine ⟨2100 - st + 1, ?_⟩
  rw [e0]
  exact cck_any hk hn (by decide) h x (2100 - st) st 0 (by omega)
/-- the reader behind a fault -/
def rdD (S : cs_S) (rc tp : Nat) : Prop := cs_k S rc = 8 ∧ cs_r S 704 rc = some tp ∧ cs_k S tp = 20 ∧ cs_n S tp = 2100 ∧ ¬ cs_i S 700 rc = 0
theorem rdD.of {S S' : cs_S} {p z : Nat} (h : rdC S rc tp p z) (g : rg rc S S') (h0 : ¬ cs_i S' 700 rc = 0) : rdD S' rc tp := by
  obtain ⟨k1, k2, k3, k4, k5, k6, k7, k8⟩ := h
  have hrc := g rc (by rw [k1]; decide)
  have htp := g tp (by rw [k3]; decide)
  exact ⟨hrc.1.trans k1, (hrc.2.2.2.1 704).trans k2, htp.1.trans k3, htp.2.1.trans k4, h0⟩
theorem rdD.gw {S S' : cs_S} (h : rdD S rc tp) (g : gw S S') : rdD S' rc tp := by
  obtain ⟨k1, k2, k3, k4, k5⟩ := h
  have l1 : cs_k S rc ≠ 0 := by rw [k1]; decide
  have l2 : cs_k S tp ≠ 0 := by rw [k3]; decide
  exact ⟨(g.k l1).trans k1, ((g rc rc l1).2.2.2.1 704).trans k2, (g.k l2).trans k3, (g.n l2).trans k4, by rw [g.i l1]; exact k5⟩
variable {post : Option Nat → cs_S → Prop} {mc ms u v st : Nat} {S : cs_S} {x5 x7 : Int64} {x10 x11 : Option Nat}
theorem rr_208d (hu : u ≤ mc) (hv : v ≤ ms) (hD : rdD S rc tp) (h : post none S) : w_X6_readRecord_208 post G mc ms S u v rc x5 x7 x10 x11 :=
  ⟨hu, hv, hD.1, fun _ => ⟨hu, hv, h⟩, fun hc => absurd hc hD.2.2.2.2⟩
theorem rr_168d (hu : u ≤ mc) (hv : v ≤ ms) (hst : st ≤ 2100) (hD : rdD S rc tp) (h : post none S) : w_X6_readRecord_168 post G mc ms S u v rc (nI st) x5 x7 x10 x11 := by
  refine ⟨hu, hv, hD.1, fun r44 e => ?_⟩
  rw [e, hD.2.1]
  refine cck_dead hD.2.2.1 hD.2.2.2.1 hst (fun c => ?_) _
  exact ⟨hD.1, rd_dead hD.1 hD.2.2.2.2 ⟨fun _ => rr_208d hu hv hD h, fun _ => ⟨hD.1, rd_fail2 hD.1 hD.2.2.2.2 (rr_208d hu hv hD h)⟩⟩⟩
theorem rr_91d (hu : u ≤ mc) (hv : v ≤ ms) (hst : st ≤ 2100) (hD : rdD S rc tp) (h : post none S) {n : Nat} {x9 x14 : Int32} {x12 : Int64} : w_X6_readRecord_91 post G mc ms (n + 1) S u v rc (nI st) x5 x7 x9 x10 x11 x12 x14 :=
  ⟨hu, hv, fun _ => rr_168d hu hv hst hD h, fun _ => ⟨hD.1, fun _ => rr_168d hu hv hst hD h, fun hc => absurd hc hD.2.2.2.2⟩⟩
/-- an INT read for nothing -/
theorem rv_dead {post : Option Nat → cs_S → Prop} (hG0 : cs_k S (G 0) = 20 ∧ cs_n S (G 0) = 0) (hD : rdD S rc tp) (h : ∀ va S', gw S S' → cs_k S va = 0 → cs_k S' va = 11 → post (some va) S') : wp_X6_readValue post G 2 28 S rc 0 := by
  have key : ∀ w : Int64, w_X6_readValue_29 post G 2 28 S 0 0 w := fun w =>
    ⟨by omega, by omega, by omega, by omega, vn_ok hG0.1 (by rw [hG0.2]; decide) (fun va S' hw => h va S' hw.2.1 hw.1 hw.2.2.1)⟩
  exact ⟨fun hc => absurd rfl hc, fun _ => ⟨hD.1, hD.1, 1, cu_dead (k := 0) (n := 0) hD.1 hD.2.2.2.2 (by decide) (fun y => ⟨fun _ => key _, fun _ => key _⟩)⟩⟩
theorem rr_140d {S0 : cs_S} {nm vs m k n : Nat} {x9 : Int32} (hu : u + 2 ≤ mc) (hv : v + 28 ≤ ms) (hst : st ≤ 2100) (hG0 : cs_k S (G 0) = 20 ∧ cs_n S (G 0) = 0) (hD : rdD S rc tp) (hg : rg rc S0 S) (h1 : cs_k S nm = 21) (h2 : cs_n S nm = m) (h3 : cs_k S vs = 26) (h4 : cs_n S vs = m) (h5 : cs_k S0 vs = 0) (hm : m ≤ 8) (hk : k < m) (h : ∀ S', rg rc S0 S' → cs_i S' 700 rc = cs_i S 700 rc → cs_i S' 701 rc = cs_i S 701 rc → post none S') : w_X6_readRecord_140 post G mc ms (w_X6_readRecord_91 post G mc ms (n + 1)) S u v rc (nI st) x5 x7 x9 (some nm) (some vs) (nI k) := by
  refine ⟨by omega, by omega, nm, rfl, h1, by rw [h2]; exact nI_in hk (by omega), hD.1, rd_dead hD.1 hD.2.2.2.2 ⟨hD.1, 2, 28, hu, hv, rv_dead hG0 hD (fun va S' g hva0 hva => ?_)⟩⟩
  have l1 : cs_k S rc ≠ 0 := by rw [hD.1]; decide
  have l2 : cs_k S vs ≠ 0 := by rw [h3]; decide
  refine ⟨vs, rfl, (g.k l2).trans h3, by rw [g.n l2, h4]; exact nI_in hk (by omega), fun b e => by cases e; exact hva, fun S58 e => ?_⟩
  subst e
  have hD' := hD.gw g
  have hD2 : rdD (cs_uar S' vs (nI k).toNatClampNeg (some va)) rc tp := hD'
  exact rr_91d hu hv hst hD2 (h _ ((hg.trans (g rc)).fuar h5) (g.i l1) (g.i l1))
theorem rr_55n {S0 : cs_S} (hu : u + 2 ≤ mc) (hv : v ≤ ms) (hst : st ≤ 2100) (hD : rdD S rc tp) (hg : rg rc S0 S) (h : ∀ S', rg rc S0 S' → cs_i S' 700 rc = cs_i S 700 rc → cs_i S' 701 rc = cs_i S 701 rc → post none S') (y : Int64) : ¬ (0 : Int32) < 0 ∧ (0 : Int32).toNatClampNeg * componentBytes (cs_aty 21) ≤ 536870912 ∧ u + 1 ≤ mc ∧ v + (0 : Int32).toNatClampNeg ≤ ms ∧ ∀ q71, cs_k S q71 = 0 → ∀ S72, S72 = cs_newA S q71 21 (0 : Int32).toNatClampNeg → ¬ (0 : Int32) < 0 ∧ (0 : Int32).toNatClampNeg * 4 ≤ 536870912 ∧ u + 1 + 1 ≤ mc ∧ v + (0 : Int32).toNatClampNeg + (0 : Int32).toNatClampNeg ≤ ms ∧ ∀ q73, cs_k S72 q73 = 0 → ∀ S74, S74 = cs_newA S72 q73 26 (0 : Int32).toNatClampNeg → ∃ n9, w_X6_readRecord_91 post G mc ms n9 S74 (u + 1 + 1) (v + (0 : Int32).toNatClampNeg + (0 : Int32).toNatClampNeg) rc (nI st) x5 y 0 (some q71) (some q73) 0 0 := by
  refine ⟨by decide, by decide, by omega, by show v + 0 ≤ ms; omega, fun q71 hq71 S72 e => ?_⟩
  subst e
  refine ⟨by decide, by decide, by omega, by show v + 0 + 0 ≤ ms; omega, fun q73 hq73 S74 e => ?_⟩
  subst e
  have hgw : gw S (cs_newA (cs_newA S q71 21 (0 : Int32).toNatClampNeg) q73 26 (0 : Int32).toNatClampNeg) := fun rc => (rg.rfl.newA hq71).newA hq73
  have l1 : cs_k S rc ≠ 0 := by rw [hD.1]; decide
  exact ⟨1, rr_91d (n := 0) (by omega) (by show v + 0 + 0 ≤ ms; omega) hst (hD.gw hgw) (h _ (hg.trans (hgw rc)) (hgw.i l1) (hgw.i l1))⟩
theorem rr_55d {S0 : cs_S} (hu : u + 2 ≤ mc) (hv : v ≤ ms) (hst : st ≤ 2100) (hD : rdD S rc tp) (hg : rg rc S0 S) (h : ∀ S', rg rc S0 S' → cs_i S' 700 rc = cs_i S 700 rc → cs_i S' 701 rc = cs_i S 701 rc → post none S') : w_X6_readRecord_55 post G mc ms S u v rc (nI st) x5 :=
  ⟨by omega, hv, hD.1, hD.1, rd_dead hD.1 hD.2.2.2.2 ⟨2, cw_dead (n := 1) hD.1 hD.2.2.2.2 (by decide) (fun y => ⟨hD.1, rd_dead hD.1 hD.2.2.2.2 (rr_55n hu hv hst hD hg h y)⟩) 1 0 0 rfl⟩⟩
end RDD
