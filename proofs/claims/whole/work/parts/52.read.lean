/-! ===== reading the tape: the class's next byte, and the reference's ===== -/
/-- the class's reader: at p of the first z bytes of the tape -/
def rdC (S : cs_S) (rc tp p z : Nat) : Prop := cs_k S rc = 8 ∧ cs_r S 704 rc = some tp ∧ cs_k S tp = 20 ∧ cs_n S tp = 2100 ∧ cs_i S 705 rc = nI z ∧ cs_i S 706 rc = nI p ∧ z ≤ 2100 ∧ p ≤ z
section RD
variable {G : Nat → Nat} {S : cs_S} {rc tp p z : Nat} {lo hi : Int32} {post : Int32 → cs_S → Prop}
theorem rdC.on (h : rdC S rc tp p z) (hp : p < z) : rdC (cs_ui S 706 rc (nI (p + 1))) rc tp (p + 1) z :=
  ⟨h.1, h.2.1, h.2.2.1, h.2.2.2.1, by rw [iui, if_neg (fun q => absurd q.1 (by decide))]; exact h.2.2.2.2.1, by rw [iui, if_pos ⟨rfl, rfl⟩], h.2.2.2.2.2.2.1, hp⟩
theorem rdC.bad (h : rdC S rc tp p z) {a b : Int32} : rdC (cs_ui (cs_ui S 700 rc a) 701 rc b) rc tp p z :=
  ⟨h.1, h.2.1, h.2.2.1, h.2.2.2.1, by rw [iui, if_neg (fun q => absurd q.1 (by decide)), iui, if_neg (fun q => absurd q.1 (by decide))]; exact h.2.2.2.2.1, by rw [iui, if_neg (fun q => absurd q.1 (by decide)), iui, if_neg (fun q => absurd q.1 (by decide))]; exact h.2.2.2.2.2.1, h.2.2.2.2.2.2⟩
theorem rd_fail {post : cs_S → Prop} {a b : Int32} (hk : cs_k S rc = 8) (h0 : cs_i S 700 rc = 0) (h : post (cs_ui (cs_ui S 700 rc a) 701 rc b)) : wp_X6_fail post G S rc a b :=
  ⟨hk, fun hc => absurd h0 hc, fun _ S6 e6 => ⟨by rw [e6]; exact hk, fun S8 e8 => by subst e6; subst e8; exact h⟩⟩
theorem rd_fail2 {post : cs_S → Prop} {a b : Int32} (hk : cs_k S rc = 8) (h0 : ¬ cs_i S 700 rc = 0) (h : post S) : wp_X6_fail post G S rc a b :=
  ⟨hk, fun _ => h, fun hc => absurd hc h0⟩
/-- behind a fault: the least, and nothing more is read -/
theorem rd_dead (hk : cs_k S rc = 8) (h0 : ¬ cs_i S 700 rc = 0) (h : post lo S) : wp_X6_nextByte post G S rc lo hi :=
  ⟨hk, fun _ => ⟨hk, fun _ => h, fun hc => absurd hc h0⟩, fun hc => absurd hc h0⟩
/-- at the end of the tape -/
theorem rd_end (hr : rdC S rc tp p z) (h0 : cs_i S 700 rc = 0) (hp : p = z) (h : post lo (cs_ui (cs_ui S 700 rc 1) 701 rc (nI z))) : wp_X6_nextByte post G S rc lo hi := by
  obtain ⟨k1, k2, k3, k4, k5, k6, k7, k8⟩ := id hr
  refine ⟨k1, fun hc => absurd h0 hc, fun _ => ⟨fun hc => ?_, fun _ => ?_⟩⟩
  · rw [k5, k6, hp] at hc
    exact absurd hc (nI_nlt (Nat.le_refl _) (by omega))
  · refine rd_fail k1 h0 ?_
    have h1 : ¬ cs_i (cs_ui (cs_ui S 700 rc 1) 701 rc (cs_i S 705 rc)) 700 rc = 0 := by
      rw [iui, if_neg (fun q => absurd q.1 (by decide)), iui, if_pos ⟨rfl, rfl⟩]
      decide
    rw [k5] at h1 ⊢
    exact ⟨k1, fun _ => h, fun hc => absurd hc h1⟩
/-- a byte that fits -/
theorem rd_ok (hr : rdC S rc tp p z) (h0 : cs_i S 700 rc = 0) (hp : p < z) (h1 : ¬ cs_ai S tp p < lo) (h2 : cs_ai S tp p ≤ hi) (h : post (cs_ai S tp p) (cs_ui S 706 rc (nI (p + 1)))) : wp_X6_nextByte post G S rc lo hi := by
  obtain ⟨k1, k2, k3, k4, k5, k6, k7, k8⟩ := id hr
  have hcl : (cs_i S 706 rc).toNatClampNeg = p := by rw [k6]; exact nI_clamp (by omega)
  refine ⟨k1, fun hc => absurd h0 hc, fun _ => ⟨fun _ => ⟨k1, fun hc => absurd h0 hc, fun _ => ⟨fun hc => ?_, fun _ r e => ⟨tp, e.trans k2, k3, fun _ r2 e2 => ⟨tp, e2.trans k2, k3, ?_, fun hc => ?_, fun _ => ⟨fun _ S20 e20 => ?_, fun hc => ?_⟩⟩, fun hc => ?_⟩⟩⟩, fun hc => ?_⟩⟩
  · rw [k6] at hc
    exact absurd hc (nI_pos (by omega))
  · rw [k6, k4]
    exact nI_in (by omega) (by decide)
  · rw [hcl] at hc
    exact absurd hc h1
  · rw [hcl, e20, k6, nI_1]
    exact h
  · rw [hcl] at hc
    exact absurd h2 hc
  · rw [k6, k4] at hc
    exact absurd (nI_lt (a := p) (b := 2100) (by omega) (by decide)) hc
  · rw [k5, k6] at hc
    exact absurd (nI_lt hp (by omega)) hc
/-- a byte that doesn't -/
theorem rd_bad (hr : rdC S rc tp p z) (h0 : cs_i S 700 rc = 0) (hp : p < z) (hb : cs_ai S tp p < lo ∨ ¬ cs_ai S tp p ≤ hi) (h : post lo (cs_ui (cs_ui S 700 rc 2) 701 rc (nI p))) : wp_X6_nextByte post G S rc lo hi := by
  obtain ⟨k1, k2, k3, k4, k5, k6, k7, k8⟩ := id hr
  have hcl : (cs_i S 706 rc).toNatClampNeg = p := by rw [k6]; exact nI_clamp (by omega)
  have h75 : w_X6_nextByte_75 post G S rc lo := ⟨k1, rd_fail k1 h0 (by rw [k6]; exact h)⟩
  refine ⟨k1, fun hc => absurd h0 hc, fun _ => ⟨fun _ => ⟨k1, fun hc => absurd h0 hc, fun _ => ⟨fun hc => ?_, fun _ r e => ⟨tp, e.trans k2, k3, fun _ r2 e2 => ⟨tp, e2.trans k2, k3, ?_, fun _ => h75, fun hn => ⟨fun hm => ?_, fun _ => h75⟩⟩, fun hc => ?_⟩⟩⟩, fun hc => ?_⟩⟩
  · rw [k6] at hc
    exact absurd hc (nI_pos (by omega))
  · rw [k6, k4]
    exact nI_in (by omega) (by decide)
  · rw [hcl] at hn hm
    rcases hb with hb | hb
    · exact absurd hb hn
    · exact absurd hm hb
  · rw [k6, k4] at hc
    exact absurd (nI_lt (a := p) (b := 2100) (by omega) (by decide)) hc
  · rw [k5, k6] at hc
    exact absurd (nI_lt hp (by omega)) hc
end RD
/-- the reference's reader -/
def rdR (σ : rf_S) (p z : Nat) : Prop := σ.1 3 = nI z ∧ σ.1 4 = nI p ∧ z ≤ 2100 ∧ p ≤ z
section RE
variable {σ : rf_S} {p z : Nat} {post : Int32 → rf_S → Prop}
theorem re_byte (hr : rdR σ p z) {q : Nat} (hq : q < z) (h : post (σ.2.2.1 1 q &&& 255) σ) : wp_X12_byteAt post σ (nI q) := by
  obtain ⟨k1, k2, k3, k4⟩ := hr
  refine ⟨fun hc => ?_, fun _ => ⟨nI_in (N := 2120) (by omega) (by decide), ?_⟩⟩
  · rw [k1] at hc
    exact absurd hc (nI_ge hq (by omega))
  · show post _ σ
    rw [nI_clamp (by omega)]
    exact h
theorem re_none (hr : rdR σ p z) {q : Nat} (hq : z ≤ q) (hq2 : q < 2 ^ 31) (h : post (-1) σ) : wp_X12_byteAt post σ (nI q) := by
  obtain ⟨k1, k2, k3, k4⟩ := hr
  refine ⟨fun _ => h, fun hc => ?_⟩
  rw [k1] at hc
  exact absurd (nI_le hq hq2) hc
end RE
