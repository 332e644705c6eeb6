/-! ===== unsigned numbers: both calls ===== -/
theorem cu_run {G : Nat → Nat} {S : cs_S} {rc tp p z : Nat} {post : Int64 → cs_S → Prop} (hr : rdC S rc tp p z) (h0 : cs_i S 700 rc = 0) (hB : ∀ j, j < z → ∃ b, b < 256 ∧ cs_ai S tp j = nI b)
    (hok : (ruf (cs_ai S tp) z 5 0 p 0).1 = 0 → post (ruf (cs_ai S tp) z 5 0 p 0).2.2 (cs_ui S 706 rc (nI (ruf (cs_ai S tp) z 5 0 p 0).2.1)))
    (hbad : ¬ (ruf (cs_ai S tp) z 5 0 p 0).1 = 0 → ∀ y q, post y (cs_ui (cs_ui (cs_ui S 706 rc q) 700 rc (ruf (cs_ai S tp) z 5 0 p 0).1) 701 rc (if (ruf (cs_ai S tp) z 5 0 p 0).1 = 1 then nI z else nI p))) : wp_X6_readUnsigned post G S rc := by
  refine ⟨hr.1, 7, ?_⟩
  rw [hr.2.2.2.2.2.1]
  exact cu_10 5 0 p 0 S rfl (by decide) (by decide) hr h0 hB hok hbad
theorem ru_run {σ : rf_S} {p z : Nat} {post : Int32 → rf_S → Prop} (hr : rdR σ p z)
    (hok : (ruf (fun j => σ.2.2.1 1 j &&& 255) z 5 0 p 0).1 = 0 → post 1 (rf_ul (rf_ui σ 4 (nI (ruf (fun j => σ.2.2.1 1 j &&& 255) z 5 0 p 0).2.1)) 27 (ruf (fun j => σ.2.2.1 1 j &&& 255) z 5 0 p 0).2.2))
    (hbad : ¬ (ruf (fun j => σ.2.2.1 1 j &&& 255) z 5 0 p 0).1 = 0 → ∀ y, post 0 (rf_ui (rf_ui (rf_ul (rf_ui σ 4 (nI (ruf (fun j => σ.2.2.1 1 j &&& 255) z 5 0 p 0).2.1)) 27 y) 5 (ruf (fun j => σ.2.2.1 1 j &&& 255) z 5 0 p 0).1) 6 (if (ruf (fun j => σ.2.2.1 1 j &&& 255) z 5 0 p 0).1 = 1 then nI z else nI p))) : wp_X12_readsUnsigned post σ := by
  refine ⟨6, ?_⟩
  rw [hr.2.1]
  exact ru_10 5 0 p 0 σ rfl hr hok hbad
/-- a byte and the count of what follows: the reference's -/
theorem re_count {σ : rf_S} {p z : Nat} {lo hi : Int32} {post : Int32 → rf_S → Prop} (hr : rdR σ p z)
    (hok : p < z → ¬ (σ.2.2.1 1 p &&& 255) < lo → (σ.2.2.1 1 p &&& 255) ≤ hi → post 1 (rf_ui (rf_ui σ 28 (σ.2.2.1 1 p &&& 255)) 4 (nI (p + 1))))
    (hbad : p < z → ((σ.2.2.1 1 p &&& 255) < lo ∨ ¬ (σ.2.2.1 1 p &&& 255) ≤ hi) → post 0 (rf_ui (rf_ui σ 5 2) 6 (nI p)))
    (hend : ¬ p < z → post 0 (rf_ui (rf_ui σ 5 1) 6 (nI z))) : wp_X12_readsCount post σ lo hi := by
  show wp_X12_byteAt _ σ (σ.1 4)
  rw [hr.2.1]
  by_cases hp : p < z
  · refine re_byte hr hp ⟨fun _ => ⟨fun hc => ⟨rfl, ?_⟩, fun hc => ⟨fun hd => ?_, fun hd => ⟨rfl, ?_⟩⟩⟩, fun hc => absurd rub_0 hc⟩
    · rw [hr.2.1]; exact hbad hp (Or.inl hc)
    · rw [hr.2.1, nI_1]; exact hok hp hc hd
    · rw [hr.2.1]; exact hbad hp (Or.inr hd)
  · refine re_none hr (by omega) (by have := hr.2.2; omega) ⟨fun hc => absurd hc (by decide), fun _ => ⟨rfl, ?_⟩⟩
    rw [hr.1]
    exact hend hp
