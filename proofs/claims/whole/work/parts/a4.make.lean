/-! ===== the class: an event is made ===== -/
/-- the first k names, in their order -/
def srt (Y : Nat → Int64) (k : Nat) (π : Nat → Nat) : Prop := (∀ j, j < k → π j < k) ∧ (∀ i j, i < k → j < k → π i = π j → i = j) ∧ ∀ i j, i < j → j < k → Y (π i) < Y (π j)
def insP (π : Nat → Nat) (m k j : Nat) : Nat := if j < m then π j else if j = m then k else π (j - 1)
theorem srt_ins {Y : Nat → Int64} {k m : Nat} {π : Nat → Nat} (h : srt Y k π) (hm : m ≤ k) (hd : ∀ i, i < k → Y i ≠ Y k) (hlo : m = 0 ∨ Y (π (m - 1)) ≤ Y k) (hhi : ∀ j, m ≤ j → j < k → Y k < Y (π j)) : srt Y (k + 1) (insP π m k) := by
  obtain ⟨h1, h2, h3⟩ := h
  have i1 : ∀ j, j < m → insP π m k j = π j := fun j hj => if_pos hj
  have i2 : insP π m k m = k := by unfold insP; rw [if_neg (by omega), if_pos rfl]
  have i3 : ∀ j, m < j → insP π m k j = π (j - 1) := fun j hj => by unfold insP; rw [if_neg (by omega), if_neg (by omega)]
  have low : ∀ j, j < m → Y (π j) < Y k := fun j hj => by
    rcases hlo with z | z
    · omega
    · have h4 : Y (π (m - 1)) < Y k := Int64.lt_of_le_of_ne z (hd _ (h1 _ (by omega)))
      by_cases c : j = m - 1
      · rw [c]; exact h4
      · exact Int64.lt_trans (h3 j (m - 1) (by omega) (by omega)) h4
  refine ⟨fun j hj => ?_, fun i j hi hj he => ?_, fun i j hij hj => ?_⟩
  · by_cases c : j < m
    · rw [i1 j c]; have := h1 j (by omega); omega
    · by_cases c2 : j = m
      · rw [c2, i2]; omega
      · rw [i3 j (by omega)]; have := h1 (j - 1) (by omega); omega
  · have key : ∀ a, a < k + 1 → (a = m ∧ insP π m k a = k) ∨ (a < m ∧ insP π m k a = π a) ∨ (m < a ∧ insP π m k a = π (a - 1)) := fun a _ => by
      by_cases c : a < m
      · exact Or.inr (Or.inl ⟨c, i1 a c⟩)
      · by_cases c2 : a = m
        · exact Or.inl ⟨c2, by rw [c2]; exact i2⟩
        · exact Or.inr (Or.inr ⟨by omega, i3 a (by omega)⟩)
    rcases key i hi with ⟨a1, a2⟩ | ⟨a1, a2⟩ | ⟨a1, a2⟩ <;> rcases key j hj with ⟨b1, b2⟩ | ⟨b1, b2⟩ | ⟨b1, b2⟩ <;> rw [a2, b2] at he
    · omega
    · have := h1 j (by omega); omega
    · have := h1 (j - 1) (by omega); omega
    · have := h1 i (by omega); omega
    · exact h2 i j (by omega) (by omega) he
    · have := h2 i (j - 1) (by omega) (by omega) he; omega
    · have := h1 (i - 1) (by omega); omega
    · have := h2 (i - 1) j (by omega) (by omega) he; omega
    · have := h2 (i - 1) (j - 1) (by omega) (by omega) he; omega
  · by_cases c : j < m
    · rw [i1 i (by omega), i1 j c]; exact h3 i j hij (by omega)
    · by_cases c2 : j = m
      · rw [c2, i2, i1 i (by omega)]; exact low i (by omega)
      · rw [i3 j (by omega)]
        by_cases c3 : i < m
        · rw [i1 i c3]
          by_cases c4 : i < j - 1
          · exact h3 i (j - 1) c4 (by omega)
          · omega
        · by_cases c4 : i = m
          · rw [c4, i2]; exact hhi (j - 1) (by omega) (by omega)
          · rw [i3 i (by omega)]; exact h3 (i - 1) (j - 1) (by omega) (by omega)
section CMK
variable {G : Nat → Nat} {S : cs_S} {wa ra a by0 kv nm vs n mc ms u v : Nat} {t x4 : Int32} {post : cs_S → Prop}
/-- the rows so far -/
def mkR (S S1 : cs_S) (by0 kv nm vs n k : Nat) (π : Nat → Nat) : Prop := fX (fun _ _ _ => False) S S1 ∧ cs_k S1 nm = 21 ∧ cs_n S1 nm = n ∧ cs_k S1 vs = 26 ∧ cs_n S1 vs = n ∧ ∀ j, j < k → cs_al S1 nm j = cs_al S by0 (π j) ∧ cs_ar S1 vs j = cs_ar S kv (π j)
theorem cmk_94 {k30 : cs_S → Nat → Nat → Nat → Option Nat → Option Nat → Int32 → Int32 → Option Nat → Option Nat → Int32 → Prop} {k m : Nat} {π : Nat → Nat} (hu : u ≤ mc) (hv : v ≤ ms) (hra : cs_k S ra = 9) (h808 : cs_r S 808 ra = some by0) (hby : cs_k S by0 = 21) (hbn : cs_n S by0 = 3) (ha : cs_k S a = 6) (h500 : cs_r S 500 a = some kv) (hkv : cs_k S kv = 26) (hkn : cs_n S kv = n) (hrow : ∀ j, j < n → ∃ va, cs_ar S kv j = some va ∧ cs_k S va = 11) (hnm : cs_k S nm = 0) (hvs : cs_k S vs = 0) (hn3 : n ≤ 3) (hk : k < n) (hm : m ≤ k) (hd : ∀ i j, i < n → j < n → cs_al S by0 i = cs_al S by0 j → i = j) (hs : srt (cs_al S by0) k π)
    {S1 : cs_S} (hF : fX (fun _ _ _ => False) S S1) (k1 : cs_k S1 nm = 21 ∧ cs_n S1 nm = n ∧ cs_k S1 vs = 26 ∧ cs_n S1 vs = n) (hr : ∀ j, j ≤ k → j ≠ m → cs_al S1 nm j = cs_al S by0 (if j < m then π j else π (j - 1)) ∧ cs_ar S1 vs j = cs_ar S kv (if j < m then π j else π (j - 1)))
    (hlo : m = 0 ∨ cs_al S by0 (π (m - 1)) ≤ cs_al S by0 k) (hhi : ∀ j, m ≤ j → j < k → cs_al S by0 k < cs_al S by0 (π j)) (hp : ∀ S2 π', srt (cs_al S by0) (k + 1) π' → mkR S S2 by0 kv nm vs n (k + 1) π' → k30 S2 u v wa (some ra) (some a) t x4 (some nm) (some vs) (nI (k + 1))) :
    w_X10_makeEvent_94 post G mc ms k30 S1 u v wa (some ra) (some a) t x4 (some nm) (some vs) (nI k) (nI m) := by
  obtain ⟨a1, a2, -, -, a5, -⟩ := hF ra (by omega)
  obtain ⟨c1, c2, -, -, -, -, c7, -⟩ := hF by0 (by omega)
  obtain ⟨d1, -, -, -, d5, -⟩ := hF a (by omega)
  obtain ⟨e1, e2, -, -, -, -, -, e8⟩ := hF kv (by omega)
  have nn : nm ≠ vs := fun e => by have := k1.1; rw [e, k1.2.2.1] at this; cases this
  have nby : by0 ≠ nm := fun e => by rw [e, hnm] at hby; cases hby
  have nkv : kv ≠ vs := fun e => by rw [e, hvs] at hkv; cases hkv
  obtain ⟨va, v1, v2⟩ := hrow k hk
  have ek : (nI k).toNatClampNeg = k := nI_clamp (by omega)
  have em : (nI m).toNatClampNeg = m := nI_clamp (by omega)
  refine ⟨hu, hv, ra, rfl, a1.trans hra, fun r54 e54 => ⟨by0, by rw [e54, a5 808 id]; exact h808, c1.trans hby, by rw [c2, hbn]; exact nI_in (by omega) (by omega), nm, rfl, k1.1, by rw [k1.2.1]; exact nI_in (by omega) (by omega), fun S59 e59 => ⟨a, rfl, by rw [e59]; exact d1.trans ha, fun r62 e62 => ⟨kv, ?_, by rw [e59]; exact e1.trans hkv, ?_, fun r65 e65 => ⟨vs, rfl, by rw [e59]; exact k1.2.2.1, ?_, fun b hb => ?_, fun S68 e68 => ?_⟩⟩⟩⟩⟩
  · rw [e62, e59]
    show cs_r S1 500 a = some kv
    rw [d5 500 id]; exact h500
  · rw [e59]
    show vp_in (nI k) (cs_n S1 kv)
    rw [e2, hkn]; exact nI_in (by omega) (by omega)
  · rw [e59]
    show vp_in (nI m) (cs_n S1 vs)
    rw [k1.2.2.2]; exact nI_in (by omega) (by omega)
  · rw [e65, e59, arual, ek, e8 k id, v1] at hb
    have this := hb
    cases this
    rw [e59]
    exact (hF va (by omega)).1.trans v2
  · have r65v : r65 = cs_ar S kv k := by
      rw [e65, e59, arual, ek]
      exact e8 k id
    subst e59
    subst e68
    rw [ek, em, r65v, c7 k id, nI_1]
    refine hp _ (insP π m k) (srt_ins hs hm (fun i hi e => by have := hd i k (by omega) hk e; omega) hlo hhi) ⟨(hF.ual (Or.inr hnm)).uar (Or.inr hvs), k1.1, k1.2.1, k1.2.2.1, k1.2.2.2, fun j hj => ?_⟩
    by_cases c : j = m
    · have ei : insP π m k j = k := by unfold insP; rw [if_neg (by omega), if_pos c]
      rw [ei, aluar, alual, if_pos ⟨rfl, c⟩, aruar, if_pos ⟨rfl, c⟩]
      exact ⟨rfl, rfl⟩
    · obtain ⟨z1, z2⟩ := hr j (by omega) c
      rw [aluar, alual, if_neg (fun z => c z.2), aruar, if_neg (fun z => c z.2), arual, z1, z2]
      unfold insP
      by_cases c2 : j < m
      · rw [if_pos c2, if_pos c2]
        exact ⟨rfl, rfl⟩
      · rw [if_neg c2, if_neg c2, if_neg c]
        exact ⟨rfl, rfl⟩
theorem lg_np {x y : Int64} : lg_cmp x y ≤ 0 ↔ x ≤ y := by
  constructor
  · intro h
    exact Int64.not_lt.mp (fun z => absurd (lg_pos.mpr z) (Int32.not_lt.mpr h))
  · intro h
    exact Int32.not_lt.mp (fun z => absurd (lg_pos.mp z) (Int64.not_lt.mpr h))
theorem cmk_41 {k30 : cs_S → Nat → Nat → Nat → Option Nat → Option Nat → Int32 → Int32 → Option Nat → Option Nat → Int32 → Prop} {k : Nat} {π : Nat → Nat} (hu : u ≤ mc) (hv : v ≤ ms) (hra : cs_k S ra = 9) (h808 : cs_r S 808 ra = some by0) (hby : cs_k S by0 = 21) (hbn : cs_n S by0 = 3) (ha : cs_k S a = 6) (h500 : cs_r S 500 a = some kv) (hkv : cs_k S kv = 26) (hkn : cs_n S kv = n) (hrow : ∀ j, j < n → ∃ va, cs_ar S kv j = some va ∧ cs_k S va = 11) (hnm : cs_k S nm = 0) (hvs : cs_k S vs = 0) (hn3 : n ≤ 3) (hk : k < n) (hd : ∀ i j, i < n → j < n → cs_al S by0 i = cs_al S by0 j → i = j) (hs : srt (cs_al S by0) k π)
    (hp : ∀ S2 π', srt (cs_al S by0) (k + 1) π' → mkR S S2 by0 kv nm vs n (k + 1) π' → k30 S2 u v wa (some ra) (some a) t x4 (some nm) (some vs) (nI (k + 1))) : ∀ m (S1 : cs_S), m ≤ k → fX (fun _ _ _ => False) S S1 → (cs_k S1 nm = 21 ∧ cs_n S1 nm = n ∧ cs_k S1 vs = 26 ∧ cs_n S1 vs = n) → (∀ j, j ≤ k → j ≠ m → cs_al S1 nm j = cs_al S by0 (if j < m then π j else π (j - 1)) ∧ cs_ar S1 vs j = cs_ar S kv (if j < m then π j else π (j - 1))) → (∀ j, m ≤ j → j < k → cs_al S by0 k < cs_al S by0 (π j)) →
    w_X10_makeEvent_41 post G mc ms k30 (m + 1) S1 u v wa (some ra) (some a) t x4 (some nm) (some vs) (nI k) (nI m) := by
  intro m
  induction m with
  | zero =>
    intro S1 hm hF k1 hr hhi
    exact ⟨hu, hv, fun _ => cmk_94 hu hv hra h808 hby hbn ha h500 hkv hkn hrow hnm hvs hn3 hk hm hd hs hF k1 hr (Or.inl rfl) hhi hp, fun z => absurd (nI_le (a := 0) (b := 0) (by omega) (by omega)) z⟩
  | succ m ih =>
    intro S1 hm hF k1 hr hhi
    obtain ⟨a1, a2, -, -, a5, -⟩ := hF ra (by omega)
    obtain ⟨c1, c2, -, -, -, -, c7, -⟩ := hF by0 (by omega)
    have ek : (nI k).toNatClampNeg = k := nI_clamp (by omega)
    have em : (nI m).toNatClampNeg = m := nI_clamp (by omega)
    have em1 : (nI (m + 1)).toNatClampNeg = m + 1 := nI_clamp (by omega)
    have ep : nI (m + 1) - 1 = nI m := nI_pred m
    have ep' : nI (m + 1) + (-1) = nI m := by rw [nI_m1, ep]
    have nn : nm ≠ vs := fun e => by have := k1.1; rw [e, k1.2.2.1] at this; cases this
    obtain ⟨z1, z2⟩ := hr m (by omega) (by omega)
    rw [if_pos (by omega)] at z1 z2
    have pm : π m < k := hs.1 m (by omega)
    refine ⟨hu, hv, fun z => absurd z (nI_ge (a := 0) (b := m + 1) (by omega) (by omega)), fun _ => ⟨nm, rfl, k1.1, by rw [ep, k1.2.1]; exact nI_in (by omega) (by omega), ra, rfl, a1.trans hra, fun r73 e73 => ⟨by0, by rw [e73, a5 808 id]; exact h808, c1.trans hby, by rw [c2, hbn]; exact nI_in (by omega) (by omega), fun z => ?_, fun z => ⟨by rw [ep, k1.2.1]; exact nI_in (by omega) (by omega), by rw [k1.2.1]; exact nI_in (by omega) (by omega), fun S76 e76 => ⟨vs, rfl, by rw [e76]; exact k1.2.2.1, ?_, fun r79 e79 => ⟨?_, fun b hb => ?_, fun S80 e80 => ?_⟩⟩⟩⟩⟩⟩
    · rw [ep, em, ek, z1, c7 k id, lg_np] at z
      exact cmk_94 hu hv hra h808 hby hbn ha h500 hkv hkn hrow hnm hvs hn3 hk hm hd hs hF k1 hr (Or.inr z) hhi hp
    · rw [e76, ep]
      show vp_in (nI m) (cs_n S1 vs)
      rw [k1.2.2.2]; exact nI_in (by omega) (by omega)
    · rw [e76]
      show vp_in (nI (m + 1)) (cs_n S1 vs)
      rw [k1.2.2.2]; exact nI_in (by omega) (by omega)
    · rw [e79, e76, ep, em, arual, z2] at hb
      obtain ⟨va, v1, v2⟩ := hrow (π m) (by omega)
      rw [v1] at hb
      have hbv := Option.some.inj hb
      rw [e76, ← hbv]
      exact (hF va (by omega)).1.trans v2
    · have er : r79 = cs_ar S kv (π m) := by rw [e79, e76, ep, em, arual, z2]
      rw [ep, em, ek, z1, c7 k id, lg_np] at z
      have zz : cs_al S by0 k < cs_al S by0 (π m) := Int64.not_le.mp z
      subst e76
      subst e80
      rw [ep', em1, er, ep, em, z1]
      refine ih _ (by omega) ((hF.ual (Or.inr hnm)).uar (Or.inr hvs)) k1 (fun j hj hne => ?_) (fun j h1 h2 => ?_)
      · by_cases c : j = m + 1
        · have ei : (if j < m then π j else π (j - 1)) = π m := by rw [if_neg (by omega), c, Nat.add_sub_cancel]
          rw [ei, aluar, alual, if_pos ⟨rfl, c⟩, aruar, if_pos ⟨rfl, c⟩]
          exact ⟨rfl, rfl⟩
        · rw [aluar, alual, if_neg (show ¬ (nm = nm ∧ j = m + 1) from fun z => c z.2), aruar, if_neg (show ¬ (vs = vs ∧ j = m + 1) from fun z => c z.2), arual]
          obtain ⟨y1, y2⟩ := hr j hj c
          by_cases c2 : j < m
          · rw [if_pos (by omega)] at y1 y2
            rw [if_pos c2]; exact ⟨y1, y2⟩
          · rw [if_neg (by omega)] at y1 y2
            rw [if_neg c2]; exact ⟨y1, y2⟩
      · by_cases c : j = m
        · rw [c]; exact zz
        · exact hhi j (by omega) h2
/-- an event is made and waits -/
def mkD (S S' : cs_S) (wa ra q nm vs n by0 kv : Nat) (t : Int32) (π : Nat → Nat) : Prop :=
  fX (fun s f x => s = 2 ∧ ((x = wa ∧ (f = 1110 ∨ f = 1111)) ∨ (f = 406 ∧ cs_r S 1111 wa = some x))) S S' ∧ (cs_k S q = 0 ∧ cs_k S nm = 0 ∧ cs_k S vs = 0) ∧
  (cs_k S' q = 5 ∧ cs_i S' 400 q = t ∧ cs_l S' 401 q = 49735996165586944 ∧ cs_i S' 402 q = cs_i S 800 ra ∧ cs_r S' 403 q = some nm ∧ cs_r S' 404 q = some vs ∧ cs_r S' 406 q = none) ∧
  (cs_k S' nm = 21 ∧ cs_n S' nm = n ∧ cs_k S' vs = 26 ∧ cs_n S' vs = n ∧ srt (cs_al S by0) n π ∧ ∀ j, j < n → cs_al S' nm j = cs_al S by0 (π j) ∧ cs_ar S' vs j = cs_ar S kv (π j)) ∧
  cs_r S' 1111 wa = some q ∧ ((cs_r S 1110 wa = none ∨ cs_r S 1111 wa = none) → cs_r S' 1110 wa = some q ∧ ∀ x, cs_k S x ≠ 0 → cs_r S' 406 x = cs_r S 406 x) ∧
  (∀ z, cs_r S 1110 wa ≠ none → cs_r S 1111 wa = some z → cs_r S' 1110 wa = cs_r S 1110 wa ∧ cs_r S' 406 z = some q)
theorem cmk_30 (hwa : cs_k S wa = 12) (hu : u + 1 ≤ mc) (hv : v + 7 ≤ ms) (hra : cs_k S ra = 9) (h808 : cs_r S 808 ra = some by0) (hby : cs_k S by0 = 21) (hbn : cs_n S by0 = 3) (ha : cs_k S a = 6) (h500 : cs_r S 500 a = some kv) (hkv : cs_k S kv = 26) (hkn : cs_n S kv = n) (hrow : ∀ j, j < n → ∃ va, cs_ar S kv j = some va ∧ cs_k S va = 11) (hnm : cs_k S nm = 0) (hvs : cs_k S vs = 0) (hn3 : n ≤ 3) (hd : ∀ i j, i < n → j < n → cs_al S by0 i = cs_al S by0 j → i = j) (hz : ∀ z, cs_r S 1110 wa ≠ none → cs_r S 1111 wa = some z → cs_k S z = 5)
    (hp : ∀ S' q π, mkD S S' wa ra q nm vs n by0 kv t π → post S') : ∀ d k (S1 : cs_S) π, k + d = n → srt (cs_al S by0) k π → mkR S S1 by0 kv nm vs n k π → w_X10_makeEvent_30 post G mc ms (d + 1) S1 u v wa (some ra) (some a) t (nI n) (some nm) (some vs) (nI k) := by
  intro d
  induction d with
  | zero =>
    intro k S1 π hk hs hR
    have hkn' : k = n := by omega
    subst hkn'
    obtain ⟨hF, k1, k2, k3, k4, k5⟩ := hR
    refine ⟨by omega, by omega, fun _ => ⟨hu, hv, fun q hq S82 e82 => ?_⟩, fun z => absurd (nI_le (Nat.le_refl _) (by omega)) z⟩
    have hqS := hF.dead hq
    have nq : ∀ x, cs_k S1 x ≠ 0 → x ≠ q := fun x hx e => hx (by rw [e]; exact hq)
    have kra1 : cs_k S1 ra = 9 := (hF ra (by omega)).1.trans hra
    have kwa1 : cs_k S1 wa = 12 := (hF wa (by omega)).1.trans hwa
    have nra : ra ≠ q := nq _ (by omega)
    have nwa : wa ≠ q := nq _ (by omega)
    have e800 : cs_i S82 800 ra = cs_i S 800 ra := by
      rw [e82, inew, if_neg nra]; exact (hF ra (by omega)).2.2.1 800 id
    refine ⟨ra, rfl, by rw [e82, knew, if_neg nra]; exact kra1, ?_⟩
    rw [e800]
    have kq : cs_k S82 q = 5 := by rw [e82, knew, if_pos rfl]
    have hF82 : fX (fun _ _ _ => False) S S82 := by rw [e82]; exact hF.new hq
    refine ⟨kq, fun S12 e12 => ⟨by rw [e12]; exact kq, fun S14 e14 => ⟨by rw [e14, e12]; exact kq, fun S16 e16 => ⟨by rw [e16, e14, e12]; exact kq, fun S18 e18 => ⟨by rw [e18, e16, e14, e12]; exact kq, fun S20 e20 => ?_⟩⟩⟩⟩⟩
    have hF20 : fX (fun _ _ _ => False) S S20 := by
      rw [e20, e18, e16, e14, e12]
      exact ((((hF82.ui (Or.inr hqS)).ul (Or.inr hqS)).ui (Or.inr hqS)).ur (Or.inr hqS)).ur (Or.inr hqS)
    have kk : ∀ x, cs_k S20 x = cs_k S82 x := fun x => by rw [e20, e18, e16, e14, e12]; rfl
    have f400 : cs_i S20 400 q = t := by rw [e20, e18, e16, e14, e12, iur, iur, iui, if_neg (fun z => absurd z.1 (by decide)), iul, iui, if_pos ⟨rfl, rfl⟩]
    have f401 : cs_l S20 401 q = 49735996165586944 := by rw [e20, e18, e16, e14, e12, lur, lur, lui, lul, if_pos ⟨rfl, rfl⟩]
    have f402 : cs_i S20 402 q = cs_i S 800 ra := by rw [e20, e18, e16, e14, e12, iur, iur, iui, if_pos ⟨rfl, rfl⟩]
    have f403 : cs_r S20 403 q = some nm := by rw [e20, e18, rur, if_neg (fun z => absurd z.1 (by decide)), rur, if_pos ⟨rfl, rfl⟩]
    have f404 : cs_r S20 404 q = some vs := by rw [e20, rur, if_pos ⟨rfl, rfl⟩]
    have f406 : cs_r S20 406 q = none := by rw [e20, e18, e16, e14, e12, rur, if_neg (fun z => absurd z.1 (by decide)), rur, if_neg (fun z => absurd z.1 (by decide)), rui, rul, rui, e82, rnew, if_pos rfl]
    have nmq : nm ≠ q := nq _ (by rw [k1]; decide)
    have vsq : vs ≠ q := nq _ (by rw [k3]; decide)
    have rows : cs_k S20 nm = 21 ∧ cs_n S20 nm = k ∧ cs_k S20 vs = 26 ∧ cs_n S20 vs = k ∧ ∀ j, j < k → cs_al S20 nm j = cs_al S by0 (π j) ∧ cs_ar S20 vs j = cs_ar S kv (π j) := by
      have g1 : ∀ x, cs_n S20 x = cs_n S1 x := fun x => by rw [e20, e18, e16, e14, e12, e82]; rfl
      have g2 : ∀ x j, cs_al S20 x j = cs_al S1 x j := fun x j => by rw [e20, e18, e16, e14, e12, e82]; rfl
      have g3 : ∀ x j, cs_ar S20 x j = cs_ar S1 x j := fun x j => by rw [e20, e18, e16, e14, e12, e82]; rfl
      refine ⟨by rw [kk, e82, knew, if_neg nmq]; exact k1, by rw [g1]; exact k2, by rw [kk, e82, knew, if_neg vsq]; exact k3, by rw [g1]; exact k4, fun j hj => by rw [g2, g3]; exact k5 j hj⟩
    have rwa : ∀ f, cs_r S20 f wa = cs_r S f wa := fun f => (hF20 wa (by omega)).2.2.2.2.1 f id
    have kwa : cs_k S20 wa = 12 := (hF20 wa (by omega)).1.trans hwa
    have kq20 : cs_k S20 q = 5 := (kk q).trans kq
    have a159 : (cs_r S 1110 wa = none ∨ cs_r S 1111 wa = none) → w_X10_makeEvent_159 post G mc ms S20 (u + 1) (v + 7) wa (some q) := fun hor => by
      refine ⟨by omega, by omega, kwa, fun S51 e51 => ⟨by omega, by omega, by rw [e51]; exact kwa, fun S49 e49 => ?_⟩⟩
      subst e51
      subst e49
      refine hp _ q π ⟨((hF20.mono (fun _ _ _ z => z.elim)).ur (Or.inl ⟨rfl, Or.inl ⟨rfl, Or.inl rfl⟩⟩)).ur (Or.inl ⟨rfl, Or.inl ⟨rfl, Or.inr rfl⟩⟩), ⟨hqS, hnm, hvs⟩, ⟨kq20, f400, f401, f402, ?_, ?_, ?_⟩, ⟨rows.1, rows.2.1, rows.2.2.1, rows.2.2.2.1, hs, rows.2.2.2.2⟩, ?_, fun _ => ⟨?_, fun x hx => ?_⟩, fun z z1 z2 => ?_⟩
      · rw [rur, if_neg (fun z => absurd z.1 (by decide)), rur, if_neg (fun z => absurd z.1 (by decide))]; exact f403
      · rw [rur, if_neg (fun z => absurd z.1 (by decide)), rur, if_neg (fun z => absurd z.1 (by decide))]; exact f404
      · rw [rur, if_neg (fun z => absurd z.1 (by decide)), rur, if_neg (fun z => absurd z.1 (by decide))]; exact f406
      · rw [rur, if_pos ⟨rfl, rfl⟩]
      · rw [rur, if_neg (fun z => absurd z.1 (by decide)), rur, if_pos ⟨rfl, rfl⟩]
      · rw [rur, if_neg (fun z => absurd z.1 (by decide)), rur, if_neg (fun z => absurd z.1 (by decide))]; exact (hF20 x hx).2.2.2.2.1 406 id
      · rcases hor with w | w
        · exact absurd w z1
        · rw [z2] at w; cases w
    refine ⟨kwa, fun r87 e87 => ⟨fun z => a159 (Or.inl ?_), fun b88 e88 r89 e89 => ⟨fun z => a159 (Or.inr ?_), fun b90 e90 r91 e91 => ?_⟩⟩⟩
    · rw [← rwa, ← e87]; exact z
    · rw [← rwa, ← e89]; exact z
    · have y1 : cs_r S 1110 wa ≠ none := fun w => by rw [e87, rwa, w] at e88; cases e88
      have y2 : cs_r S 1111 wa = some b90 := by rw [← rwa, ← e89]; exact e90
      have k5b := hz b90 y1 y2
      refine ⟨b90, by rw [e91, rwa]; exact y2, (hF20 b90 (by omega)).1.trans k5b, fun S94 e94 => ⟨by omega, by omega, by rw [e94]; exact kwa, fun S49 e49 => ?_⟩⟩
      subst e94
      subst e49
      have nbq : b90 ≠ q := fun e => by rw [e, hqS] at k5b; cases k5b
      refine hp _ q π ⟨((hF20.mono (fun _ _ _ z => z.elim)).ur (Or.inl ⟨rfl, Or.inr ⟨rfl, y2⟩⟩)).ur (Or.inl ⟨rfl, Or.inl ⟨rfl, Or.inr rfl⟩⟩), ⟨hqS, hnm, hvs⟩, ⟨kq20, f400, f401, f402, ?_, ?_, ?_⟩, ⟨rows.1, rows.2.1, rows.2.2.1, rows.2.2.2.1, hs, rows.2.2.2.2⟩, ?_, fun w => ?_, fun z z1 z2 => ?_⟩
      · rw [rur, if_neg (fun z => absurd z.1 (by decide)), rur, if_neg (fun z => absurd z.1 (by decide))]; exact f403
      · rw [rur, if_neg (fun z => absurd z.1 (by decide)), rur, if_neg (fun z => absurd z.1 (by decide))]; exact f404
      · rw [rur, if_neg (fun z => absurd z.1 (by decide)), rur, if_neg (fun z => nbq z.2.symm)]; exact f406
      · rw [rur, if_pos ⟨rfl, rfl⟩]
      · rcases w with w | w
        · exact absurd w y1
        · rw [y2] at w; cases w
      · rw [y2] at z2
        cases z2
        refine ⟨?_, ?_⟩
        · rw [rur, if_neg (fun z => absurd z.1 (by decide)), rur, if_neg (fun z => absurd z.1 (by decide))]; exact rwa 1110
        · rw [rur, if_neg (fun z => absurd z.1 (by decide)), rur, if_pos ⟨rfl, rfl⟩]
  | succ d ih =>
    intro k S1 π hk hs hR
    obtain ⟨hF, k1, k2, k3, k4, k5⟩ := hR
    refine ⟨by omega, by omega, fun z => absurd z (nI_ge (by omega) (by omega)), fun _ => ⟨k + 1, cmk_41 (by omega) (by omega) hra h808 hby hbn ha h500 hkv hkn hrow hnm hvs hn3 (by omega) hd hs (fun S2 π' g1 g2 => ih (k + 1) S2 π' (by omega) g1 g2) k S1 (Nat.le_refl _) hF ⟨k1, k2, k3, k4⟩ (fun j hj hne => ?_) (fun j h1 h2 => absurd h1 (by omega))⟩⟩
    rw [if_pos (by omega)]
    exact k5 j (by omega)
theorem cmk (hwa : cs_k S wa = 12) (hmc : 3 ≤ mc) (hms : 2 * n + 7 ≤ ms) (hra : cs_k S ra = 9) (h809 : cs_i S 809 ra = nI n) (h808 : cs_r S 808 ra = some by0) (hby : cs_k S by0 = 21) (hbn : cs_n S by0 = 3) (ha : cs_k S a = 6) (h500 : cs_r S 500 a = some kv) (hkv : cs_k S kv = 26) (hkn : cs_n S kv = n) (hrow : ∀ j, j < n → ∃ va, cs_ar S kv j = some va ∧ cs_k S va = 11) (hn3 : n ≤ 3) (hd : ∀ i j, i < n → j < n → cs_al S by0 i = cs_al S by0 j → i = j) (hz : ∀ z, cs_r S 1110 wa ≠ none → cs_r S 1111 wa = some z → cs_k S z = 5)
    (hp : ∀ S' q nm vs π, mkD S S' wa ra q nm vs n by0 kv t π → post S') : wp_X10_makeEvent post G mc ms S wa (some ra) (some a) t := by
  refine ⟨ra, rfl, hra, a, rfl, ha, fun r99 e99 => ⟨kv, e99.trans h500, hkv, ?_⟩⟩
  have emin : (if Int32.ofNat (cs_n S kv) < cs_i S 809 ra then Int32.ofNat (cs_n S kv) else cs_i S 809 ra) = nI n := by
    rw [hkn, h809]
    by_cases c : Int32.ofNat n < nI n
    · rw [if_pos c]; rfl
    · rw [if_neg c]
  rw [emin, nI_clamp (by omega)]
  refine ⟨fun w => absurd (nI_pos' (by omega)) (Int32.not_le.mpr w), ?_, by omega, by omega, fun q1 hq1 S103 e103 => ⟨fun w => absurd (nI_pos' (by omega)) (Int32.not_le.mpr w), by omega, by omega, by omega, fun q2 hq2 S105 e105 => ⟨n + 1, ?_⟩⟩⟩
  · have : componentBytes (cs_aty 21) = 8 := rfl
    rw [this]; omega
  · subst e103
    have hF1 : fX (fun _ _ _ => False) S (cs_newA S q1 21 n) := fX.rfl.newA hq1
    have hq2S := hF1.dead hq2
    have n12 : q1 ≠ q2 := fun e => by rw [← e, knewA, if_pos rfl] at hq2; cases hq2
    subst e105
    refine cmk_30 (by omega) (by omega) (by omega) hra h808 hby hbn ha h500 hkv hkn hrow hq1 hq2S hn3 hd hz (fun S' q π hm => hp S' q q1 q2 π hm) n 0 _ (fun j => j) (by omega) ⟨fun j hj => absurd hj (by omega), fun i j hi => absurd hi (by omega), fun i j _ hj => absurd hj (by omega)⟩ ⟨hF1.newA hq2, ?_, ?_, ?_, ?_, fun j hj => absurd hj (by omega)⟩
    · rw [knewA, if_neg n12, knewA, if_pos rfl]
    · rw [nnewA, if_neg n12, nnewA, if_pos rfl]
    · rw [knewA, if_pos rfl]
    · rw [nnewA, if_pos rfl]
end CMK
