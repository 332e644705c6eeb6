/-! ===== a rule read: from its first word ===== -/
section RUL
variable {G cx : Nat → Nat} {bf : Nat → Nat} {z c bk nr i i' cn cn' x k R ca by0 wt : Nat} {ra : Nat → Nat} {nm : Nat → Int64} {na : Int64} {σ σ' : rf_S} {S S' S0 : cs_S} {fk fp : Int32}
/-- a new row, told to R -/
theorem nAr {q kd n f : Nat} (hq : cs_k S q = 0) (hR : cs_k S R = 9) : (cs_k (cs_ur (cs_newA S q kd n) f R (some q)) R = 9 ∧ (∀ g, cs_i (cs_ur (cs_newA S q kd n) f R (some q)) g R = cs_i S g R) ∧ (∀ g, cs_l (cs_ur (cs_newA S q kd n) f R (some q)) g R = cs_l S g R) ∧ (∀ g, g ≠ f → cs_r (cs_ur (cs_newA S q kd n) f R (some q)) g R = cs_r S g R) ∧ cs_r (cs_ur (cs_newA S q kd n) f R (some q)) f R = some q) ∧ (cs_k (cs_ur (cs_newA S q kd n) f R (some q)) q = kd ∧ cs_n (cs_ur (cs_newA S q kd n) f R (some q)) q = n) ∧ fX (fun s g a => s = 2 ∧ g = f ∧ a = R) S (cs_ur (cs_newA S q kd n) f R (some q)) := by
  have hne : R ≠ q := fun e => by rw [e, hq] at hR; omega
  refine ⟨⟨?_, fun g => rfl, fun g => rfl, fun g hg => ?_, ?_⟩, ⟨?_, ?_⟩, (fX.rfl.newA hq).ur (Or.inl ⟨rfl, rfl, rfl⟩)⟩
  · show cs_k (cs_newA S q kd n) R = 9
    rw [knewA, if_neg hne]; exact hR
  · rw [rur, if_neg (fun e => hg e.1)]; rfl
  · rw [rur, if_pos ⟨rfl, rfl⟩]
  · show cs_k (cs_newA S q kd n) q = kd
    rw [knewA, if_pos rfl]
  · show cs_n (cs_newA S q kd n) q = n
    rw [nnewA, if_pos rfl]
theorem c_newR {post : cs_S → Prop} (hA : pA G cx bf z c nr ra nm i S) (h0 : fX (pE (cx 0)) S0 S) (hp0 : pS G cx bf z c nr ra nm S0) (hq : cs_k S R = 0) (hp : ∀ S1, stN G cx bf z c nr ra nm 0 i 0 S0 S1 R → post S1) : ∀ S74, S74 = cs_new S R 8 → cs_k S74 (cx 0) = 7 ∧ ∃ m76 n76, 0 + 1 + m76 ≤ 5 ∧ 0 + 18 + n76 ≤ 30 ∧ m76 = 4 ∧ n76 = 12 ∧ wp_X7_init post G m76 n76 S74 R (cs_i S74 601 (cx 0)) := by
  intro S74 e74
  have d0 := h0.dead hq
  have n0 : cx 0 ≠ R := fun e => by have := hA.1.1.1; rw [e, hq] at this; omega
  have k74 : cs_k S74 R = 9 := by rw [e74, knew, if_pos rfl]
  have e601 : cs_i S74 601 (cx 0) = nI nr := by rw [e74, inew, if_neg n0]; exact hA.1.1.2.2.2
  refine ⟨by rw [e74, knew, if_neg n0]; exact hA.1.1.1, 4, 12, by decide, by decide, rfl, rfl, k74, fun S20 e20 => ?_⟩
  rw [e601] at e20
  have k20 : cs_k S20 R = 9 := by rw [e20]; exact k74
  have i20 : ∀ g, cs_i S20 g R = up (fun _ => 0) 800 (nI nr) g := fun g => by
    rw [e20, iui]
    show _ = if g = 800 then nI nr else 0
    by_cases e : g = 800
    · rw [if_pos ⟨e, rfl⟩, if_pos e]
    · rw [if_neg (fun q => e q.1), if_neg e, e74, inew, if_pos rfl]
  have l20 : ∀ g, cs_l S20 g R = 0 := fun g => by rw [e20]; show cs_l S74 g R = 0; rw [e74, lnew, if_pos rfl]
  have r20 : ∀ g, cs_r S20 g R = none := fun g => by rw [e20]; show cs_r S74 g R = none; rw [e74, rnew, if_pos rfl]
  have f20 : fX (fun s g a => a = R) S S20 := by rw [e20, e74]; exact (fX.rfl.new hq).ui (Or.inl rfl)
  refine ⟨by decide, by decide, by decide, by decide, fun ca h21 S22 e22 => ⟨by rw [e22, knewA, if_neg (fun e => by rw [e, h21] at k20; omega)]; exact k20, fun S24 e24 => ?_⟩⟩
  rw [e22] at e24
  obtain ⟨⟨a1, a2, a3, a4, a5⟩, ⟨a6, a7⟩, a9⟩ := nAr (kd := 24) (n := 5) (f := 805) h21 k20
  have e24' : S24 = cs_ur (cs_newA S20 ca 24 5) 805 R (some ca) := e24
  rw [← e24'] at a1 a2 a3 a4 a5 a6 a7 a9
  refine ⟨by decide, by decide, by decide, by decide, fun by0 h25 S26 e26 => ⟨by rw [e26, knewA, if_neg (fun e => by rw [e, h25] at a1; omega)]; exact a1, fun S28 e28 => ?_⟩⟩
  rw [e26] at e28
  obtain ⟨⟨b1, b2, b3, b4, b5⟩, ⟨b6, b7⟩, b9⟩ := nAr (kd := 21) (n := 3) (f := 808) h25 a1
  have e28' : S28 = cs_ur (cs_newA S24 by0 21 3) 808 R (some by0) := e28
  rw [← e28'] at b1 b2 b3 b4 b5 b6 b7 b9
  refine ⟨by decide, by decide, by decide, by decide, fun wt h29 S30 e30 => ⟨by rw [e30, knewA, if_neg (fun e => by rw [e, h29] at b1; omega)]; exact b1, fun S32 e32 => ?_⟩⟩
  rw [e30] at e32
  obtain ⟨⟨c1, c2, c3, c4, c5⟩, ⟨c6, c7⟩, c9⟩ := nAr (kd := 26) (n := 4) (f := 817) h29 b1
  have e32' : S32 = cs_ur (cs_newA S28 wt 26 4) 817 R (some wt) := e32
  rw [← e32'] at c1 c2 c3 c4 c5 c6 c7 c9
  refine ⟨by decide, by decide, by decide, by decide, fun q33 h33 S34 e34 => ⟨by rw [e34, knewA, if_neg (fun e => by rw [e, h33] at c1; omega)]; exact c1, fun S36 e36 => ?_⟩⟩
  rw [e34] at e36
  obtain ⟨⟨d1, d2, d3, d4, d5⟩, -, d9⟩ := nAr (kd := 25) (n := (0 : Int32).toNatClampNeg) (f := 816) h33 c1
  rw [← e36] at d1 d2 d3 d4 d5 d9
  -- frames
  have F1 : fX (fun s g a => a = R) S20 S36 := (((a9.mono (fun s f a e => e.2.2)).trans (b9.mono (fun s f a e => e.2.2))).trans (c9.mono (fun s f a e => e.2.2))).trans (d9.mono (fun s f a e => e.2.2))
  have F0 : fX (fun s g a => a = R) S S36 := f20.trans F1
  have F2 : fX (fun s g a => a = R) S24 S36 := ((b9.mono (fun s f a e => e.2.2)).trans (c9.mono (fun s f a e => e.2.2))).trans (d9.mono (fun s f a e => e.2.2))
  have F3 : fX (fun s g a => a = R) S28 S36 := (c9.mono (fun s f a e => e.2.2)).trans (d9.mono (fun s f a e => e.2.2))
  have F4 : fX (fun s g a => a = R) S32 S36 := d9.mono (fun s f a e => e.2.2)
  have nca : ca ≠ R := fun e => by rw [e, k20] at h21; omega
  have nby : by0 ≠ R := fun e => by rw [e, a1] at h25; omega
  have nwt : wt ≠ R := fun e => by rw [e, b1] at h29; omega
  obtain ⟨x1, x2, -, -, -, -, -, x8⟩ := F2 ca (by omega)
  obtain ⟨y1, y2, -, -, -, -, y7, -⟩ := F3 by0 (by omega)
  obtain ⟨w1, w2, -⟩ := F4 wt (by omega)
  have dS : ∀ a, cs_k S20 a = 0 → cs_k S a = 0 := fun a ha => f20.dead ha
  have dca : cs_k S0 ca = 0 := h0.dead (f20.dead h21)
  have dby : cs_k S0 by0 = 0 := h0.dead (f20.dead (a9.dead h25))
  have dwt : cs_k S0 wt = 0 := h0.dead (f20.dead (a9.dead (b9.dead h29)))
  refine hp S36 ⟨ca, by0, wt, up (fun _ => 0) 800 (nI nr), fun _ => 0, fun j => cs_ar S36 ca j, fun j => cs_al S36 by0 j, ⟨?_, ?_, ⟨⟨d1, fun g => ?_, fun g => ?_, ?_, ?_, ?_, ?_, ?_⟩, ⟨x1.trans a6, x2.trans a7, fun j => rfl⟩, ⟨y1.trans b6, y2.trans b7, fun j => rfl⟩, w1.trans c6, w2.trans c7⟩, hp0, d0, dca, dby, dwt⟩, ⟨up_s, up_o (by decide), up_o (by decide), up_o (by decide), up_o (by decide), up_o (by decide), up_o (by decide), up_o (by decide)⟩, rfl⟩
  · exact hA.fx F0 (fun s f a e => rEx.ok (ca := R) (by0 := R) hp0 d0 d0 d0 (Or.inl e))
  · exact h0.tr F0 (fun s f a ha e => absurd (by rw [e]; exact d0) ha)
  · rw [d2, c2, b2, a2]; exact i20 g
  · rw [d3, c3, b3, a3]; exact l20 g
  · rw [d4 _ (by decide), c4 _ (by decide), b4 _ (by decide)]; exact a5
  · rw [d4 _ (by decide), c4 _ (by decide), b4 _ (by decide), a4 _ (by decide)]; exact r20 _
  · rw [d4 _ (by decide), c4 _ (by decide)]; exact b5
  · rw [d4 _ (by decide)]; exact c5
  · rw [d4 _ (by decide), c4 _ (by decide), b4 _ (by decide), a4 _ (by decide)]; exact r20 _
end RUL
