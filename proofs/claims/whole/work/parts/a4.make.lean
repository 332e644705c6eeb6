/-! ===== the class: an event is made ===== -/
/-- the first k names, in their order -/
def srt (Y : Nat → Int64) (k : Nat) (π : Nat → Nat) : Prop := (∀ j, j < k → π j < k) ∧ (∀ i j, i < k → j < k → π i = π j → i = j) ∧ ∀ i j, i < j → j < k → Y (π i) < Y (π j)
def insP (π : Nat → Nat) (m k j : Nat) : Nat := if j < m then π j else if j = m then k else π (j - 1)
theorem srt_ins {Y : Nat → Int64} {k m : Nat} {π : Nat → Nat} (h : srt Y k π) (hm : m ≤ k) (hd : ∀ i, i < k → Y i ≠ Y k) (hlo : m = 0 ∨ Y (π (m - 1)) ≤ Y k) (hhi : ∀ j, m ≤ j → j < k → Y k < Y (π j)) : srt Y (k + 1) (insP π m k) := by
  obtain ⟨h1, h2, h3⟩ := h
  have i1 : ∀ j, j < m → insP π m k j = π j := fun j hj => if_pos hj
  have i2 : insP π m k m = k := by unfold insP; rw [if_neg (by omega), if_pos rfl]
  have i3 : ∀ j, m < j → insP π m k j = π (j - 1) := fun j hj => by unfold insP; rw [if_neg (by omega), if_neg (by omega)]
  have low : ∀ j, j < m → Y (π j) < Y k := fun j hj => by
    rcases hlo with z | z
    · omega
    · have h4 : Y (π (m - 1)) < Y k := Int64.lt_of_le_of_ne z (hd _ (h1 _ (by omega)))
      by_cases c : j = m - 1
      · rw [c]; exact h4
      · exact Int64.lt_trans (h3 j (m - 1) (by omega) (by omega)) h4
  refine ⟨fun j hj => ?_, fun i j hi hj he => ?_, fun i j hij hj => ?_⟩
  · by_cases c : j < m
    · rw [i1 j c]; have := h1 j (by omega); omega
    · by_cases c2 : j = m
      · rw [c2, i2]; omega
      · rw [i3 j (by omega)]; have := h1 (j - 1) (by omega); omega
  · have key : ∀ a, a < k + 1 → (a = m ∧ insP π m k a = k) ∨ (a < m ∧ insP π m k a = π a) ∨ (m < a ∧ insP π m k a = π (a - 1)) := fun a _ => by
      by_cases c : a < m
      · exact Or.inr (Or.inl ⟨c, i1 a c⟩)
      · by_cases c2 : a = m
        · exact Or.inl ⟨c2, by rw [c2]; exact i2⟩
        · exact Or.inr (Or.inr ⟨by omega, i3 a (by omega)⟩)
    rcases key i hi with ⟨a1, a2⟩ | ⟨a1, a2⟩ | ⟨a1, a2⟩ <;> rcases key j hj with ⟨b1, b2⟩ | ⟨b1, b2⟩ | ⟨b1, b2⟩ <;> rw [a2, b2] at he
    · omega
    · have := h1 j (by omega); omega
    · have := h1 (j - 1) (by omega); omega
    · have := h1 i (by omega); omega
    · exact h2 i j (by omega) (by omega) he
    · have := h2 i (j - 1) (by omega) (by omega) he; omega
    · have := h1 (i - 1) (by omega); omega
    · have := h2 (i - 1) j (by omega) (by omega) he; omega
    · have := h2 (i - 1) (j - 1) (by omega) (by omega) he; omega
  · by_cases c : j < m
    · rw [i1 i (by omega), i1 j c]; exact h3 i j hij (by omega)
    · by_cases c2 : j = m
      · rw [c2, i2, i1 i (by omega)]; exact low i (by omega)
      · rw [i3 j (by omega)]
        by_cases c3 : i < m
        · rw [i1 i c3]
          by_cases c4 : i < j - 1
          · exact h3 i (j - 1) c4 (by omega)
          · omega
        · by_cases c4 : i = m
          · rw [c4, i2]; exact hhi (j - 1) (by omega) (by omega)
          · rw [i3 i (by omega)]; exact h3 (i - 1) (j - 1) (by omega) (by omega)
section CMK
variable {G : Nat → Nat} {S : cs_S} {wa ra a by0 kv nm vs n mc ms u v : Nat} {t x4 : Int32} {post : cs_S → Prop}
/-- the rows so far -/
def mkR (S S1 : cs_S) (by0 kv nm vs n k : Nat) (π : Nat → Nat) : Prop := fX (fun _ _ _ => False) S S1 ∧ cs_k S1 nm = 21 ∧ cs_n S1 nm = n ∧ cs_k S1 vs = 26 ∧ cs_n S1 vs = n ∧ ∀ j, j < k → cs_al S1 nm j = cs_al S by0 (π j) ∧ cs_ar S1 vs j = cs_ar S kv (π j)
theorem cmk_94 {k30 : cs_S → Nat → Nat → Nat → Option Nat → Option Nat → Int32 → Int32 → Option Nat → Option Nat → Int32 → Prop} {k m : Nat} {π : Nat → Nat} (hu : u ≤ mc) (hv : v ≤ ms) (hra : cs_k S ra = 9) (h808 : cs_r S 808 ra = some by0) (hby : cs_k S by0 = 21) (hbn : cs_n S by0 = 3) (ha : cs_k S a = 6) (h500 : cs_r S 500 a = some kv) (hkv : cs_k S kv = 26) (hkn : cs_n S kv = n) (hrow : ∀ j, j < n → ∃ va, cs_ar S kv j = some va ∧ cs_k S va = 11) (hnm : cs_k S nm = 0) (hvs : cs_k S vs = 0) (hn3 : n ≤ 3) (hk : k < n) (hm : m ≤ k) (hd : ∀ i j, i < n → j < n → cs_al S by0 i = cs_al S by0 j → i = j) (hs : srt (cs_al S by0) k π)
    {S1 : cs_S} (hF : fX (fun _ _ _ => False) S S1) (k1 : cs_k S1 nm = 21 ∧ cs_n S1 nm = n ∧ cs_k S1 vs = 26 ∧ cs_n S1 vs = n) (hr : ∀ j, j ≤ k → j ≠ m → cs_al S1 nm j = cs_al S by0 (if j < m then π j else π (j - 1)) ∧ cs_ar S1 vs j = cs_ar S kv (if j < m then π j else π (j - 1)))
    (hlo : m = 0 ∨ cs_al S by0 (π (m - 1)) ≤ cs_al S by0 k) (hhi : ∀ j, m ≤ j → j < k → cs_al S by0 k < cs_al S by0 (π j)) (hp : ∀ S2 π', srt (cs_al S by0) (k + 1) π' → mkR S S2 by0 kv nm vs n (k + 1) π' → k30 S2 u v wa (some ra) (some a) t x4 (some nm) (some vs) (nI (k + 1))) :
    w_X10_makeEvent_94 post G mc ms k30 S1 u v wa (some ra) (some a) t x4 (some nm) (some vs) (nI k) (nI m) := by
  obtain ⟨a1, a2, -, -, a5, -⟩ := hF ra (by omega)
  obtain ⟨c1, c2, -, -, -, -, c7, -⟩ := hF by0 (by omega)
  obtain ⟨d1, -, -, -, d5, -⟩ := hF a (by omega)
  obtain ⟨e1, e2, -, -, -, -, -, e8⟩ := hF kv (by omega)
  have nn : nm ≠ vs := fun e => by have := k1.1; rw [e, k1.2.2.1] at this; cases this
  have nby : by0 ≠ nm := fun e => by rw [e, hnm] at hby; cases hby
  have nkv : kv ≠ vs := fun e => by rw [e, hvs] at hkv; cases hkv
  obtain ⟨va, v1, v2⟩ := hrow k hk
  have ek : (nI k).toNatClampNeg = k := nI_clamp (by omega)
  have em : (nI m).toNatClampNeg = m := nI_clamp (by omega)
  refine ⟨hu, hv, ra, rfl, a1.trans hra, fun r54 e54 => ⟨by0, by rw [e54, a5 808 id]; exact h808, c1.trans hby, by rw [c2, hbn]; exact nI_in (by omega) (by omega), nm, rfl, k1.1, by rw [k1.2.1]; exact nI_in (by omega) (by omega), fun S59 e59 => ⟨a, rfl, by rw [e59]; exact d1.trans ha, fun r62 e62 => ⟨kv, ?_, by rw [e59]; exact e1.trans hkv, ?_, fun r65 e65 => ⟨vs, rfl, by rw [e59]; exact k1.2.2.1, ?_, fun b hb => ?_, fun S68 e68 => ?_⟩⟩⟩⟩⟩
  · rw [e62, e59]
    show cs_r S1 500 a = some kv
    rw [d5 500 id]; exact h500
  · rw [e59]
    show vp_in (nI k) (cs_n S1 kv)
    rw [e2, hkn]; exact nI_in (by omega) (by omega)
  · rw [e59]
    show vp_in (nI m) (cs_n S1 vs)
    rw [k1.2.2.2]; exact nI_in (by omega) (by omega)
  · rw [e65, e59, arual, ek, e8 k id, v1] at hb
    have this := hb
    cases this
    rw [e59]
    exact (hF va (by omega)).1.trans v2
  · have r65v : r65 = cs_ar S kv k := by
      rw [e65, e59, arual, ek]
      exact e8 k id
    subst e59
    subst e68
    rw [ek, em, r65v, c7 k id, nI_1]
    refine hp _ (insP π m k) (srt_ins hs hm (fun i hi e => by have := hd i k (by omega) hk e; omega) hlo hhi) ⟨(hF.ual (Or.inr hnm)).uar (Or.inr hvs), k1.1, k1.2.1, k1.2.2.1, k1.2.2.2, fun j hj => ?_⟩
    by_cases c : j = m
    · have ei : insP π m k j = k := by unfold insP; rw [if_neg (by omega), if_pos c]
      rw [ei, aluar, alual, if_pos ⟨rfl, c⟩, aruar, if_pos ⟨rfl, c⟩]
      exact ⟨rfl, rfl⟩
    · obtain ⟨z1, z2⟩ := hr j (by omega) c
      rw [aluar, alual, if_neg (fun z => c z.2), aruar, if_neg (fun z => c z.2), arual, z1, z2]
      unfold insP
      by_cases c2 : j < m
      · rw [if_pos c2, if_pos c2]
        exact ⟨rfl, rfl⟩
      · rw [if_neg c2, if_neg c2, if_neg c]
        exact ⟨rfl, rfl⟩
end CMK
