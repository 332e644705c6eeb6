/-! ===== events that a rule does not look at ===== -/
section JKN
variable {G : Nat → Nat} {S : cs_S} {σ : rf_S} {Ow : Nat → Prop} {r ra b x k n w q L wt bt nb lo now p : Nat} {tm ev ko eo sr an : Nat → Nat} {bl : Nat → List Nat} {so : Nat → Option Nat} {Kf Kc : Nat → Prop}
theorem KfO_nop {f : Nat} (h : σ.2.2.1 63 (4000 * r + p) = -1) (hp : p < 4000) : KfO σ r (p + 1) f ↔ KfO σ r p f := by
  unfold KfO
  constructor
  · rintro ⟨z1, z2⟩
    refine ⟨?_, z2⟩
    by_cases c : f = p
    · rw [c, h] at z2; exact absurd z2.symm (nI_m p (by omega))
    · omega
  · rintro ⟨z1, z2⟩; exact ⟨by omega, z2⟩
theorem JK.nop (h : JK S σ Ow r ra b x k n w L tm ev wt bt nb bl ko eo so lo sr an Kf Kc now p) (hp : p < 4000) (h63 : σ.2.2.1 63 (4000 * r + p) = -1) (hKc : ∀ f, Kc f → f < p) : JK S σ Ow r ra b x k n w L tm ev wt bt nb bl ko eo so lo sr an Kf Kc now (p + 1) := by
  obtain ⟨h1, h2, h3, h4, h5, h6, h7, h8, h9, h10⟩ := h
  have hco : ¬ cO σ r b p := fun z => z.1 h63
  refine ⟨h1, h2, h3.nop (fun z => absurd z hco), h4, h5, h6, h7, fun hx => ?_, fun hx => ?_, fun hx => (h10 hx).nop hp (fun z => z.1 h63)⟩
  · obtain ⟨j1, j2, j3, j4, j5⟩ := h8 hx
    refine ⟨j1.nop hp hco, fun hx0 f hf => ?_, j3, fun hx1 o ho hc => ?_, j5⟩
    · obtain ⟨y1, y2⟩ := j2 hx0 f hf
      have e0 : sS (cK (cO σ r b) (kfO σ r) f) (fun _ => 1) 0 (p + 1) = sS (cK (cO σ r b) (kfO σ r) f) (fun _ => 1) 0 p := by
        have := sS_nst (P := cK (cO σ r b) (kfO σ r) f) (v := fun _ => 1) (lo := 0) (p := p) (by omega) (fun z => hco z.1)
        simpa using this
      rw [e0]
      refine ⟨y1, fun z => ?_⟩
      obtain ⟨o, o1, o2, o3, o4⟩ := y2 z
      exact ⟨o, by omega, o2, o3, by rw [sS_nst (by omega) (fun z => hco z.1)]; exact o4⟩
    · by_cases c : o = p
      · rw [c] at hc; exact absurd hc hco
      · exact j4 hx1 o (by omega) hc
  · obtain ⟨c1, c2, c3⟩ := h9 hx
    refine ⟨fun f hf => ?_, c2, c3⟩
    have e0 : chV ev (bM σ r f) (bU σ r f) (p + 1) = chV ev (bM σ r f) (bU σ r f) p := funext fun j => chV_same (fun j z => by
      have := z.1
      rw [h63] at this
      exact nI_m f (by have := hKc f hf; omega) this.symm) (fun z => by
      have := z.1
      rw [h63] at this
      exact nI_m f (by have := hKc f hf; omega) this.symm)
    rw [e0]; exact c1 f hf
theorem JK.late (h : JK S σ Ow r ra b x k n w L tm ev wt bt nb bl ko eo so lo sr an Kf Kc now p) {now' : Nat} (hn : now ≤ now') : JK S σ Ow r ra b x k n w L tm ev wt bt nb bl ko eo so lo sr an Kf Kc now' p := by
  obtain ⟨h1, h2, h3, h4, h5, h6, h7, h8, h9, h10⟩ := h
  refine ⟨h1, h2, h3, h4, h5, h6, h7, fun hx => ?_, h9, h10⟩
  obtain ⟨j1, j2, j3, j4, j5⟩ := h8 hx
  exact ⟨j1, j2, j3, j4, fun o ho hc => Nat.le_trans (j5 o ho hc) hn⟩
theorem JK.up : ∀ d p, JK S σ Ow r ra b x k n w L tm ev wt bt nb bl ko eo so lo sr an (KfO σ r p) (KfO σ r p) now p → p + d ≤ 4000 → (∀ o, p ≤ o → o < p + d → σ.2.2.1 63 (4000 * r + o) = -1) → JK S σ Ow r ra b x k n w L tm ev wt bt nb bl ko eo so lo sr an (KfO σ r (p + d)) (KfO σ r (p + d)) now (p + d) := by
  intro d
  induction d with
  | zero => intro p h _ _; exact h
  | succ d ih =>
    intro p h hd h63
    have e63 := h63 p (Nat.le_refl _) (by omega)
    have eK : KfO σ r (p + 1) = KfO σ r p := funext fun f => propext (KfO_nop e63 (by omega))
    have h1 := h.nop (by omega) e63 (fun f hf => hf.1)
    rw [show p + (d + 1) = p + 1 + d from by omega]
    refine ih (p + 1) ?_ (by omega) (fun o z1 z2 => h63 o (by omega) (by omega))
    rw [eK]; exact h1
/-- the times and events below p alone matter -/
theorem JK.tev {tm' ev' : Nat → Nat} (h : JK S σ Ow r ra b x k n w L tm ev wt bt nb bl ko eo so lo sr an Kf Kc now p) (ht : ∀ o, o < p → tm' o = tm o) (he : ∀ o, o < p → ev' o = ev o) : JK S σ Ow r ra b x k n w L tm' ev' wt bt nb bl ko eo so lo sr an Kf Kc now p := by
  obtain ⟨h1, h2, h3, h4, h5, h6, h7, h8, h9, h10⟩ := h
  refine ⟨h1, h2, h3, h4, h5, h6, h7, fun hx => ?_, fun hx => ?_, fun hx => ?_⟩
  · obtain ⟨j1, j2, j3, j4, j5⟩ := h8 hx
    exact ⟨j1.cong (fun _ _ => Iff.rfl) (fun o ho _ => ⟨rfl, rfl, (he o ho).symm, rfl, rfl, rfl⟩) (fun _ => Iff.rfl) (fun _ _ => rfl) (fun _ _ z => z), j2, j3, j4, fun o ho hc => by rw [ht o (by have := j1.1.1; omega)]; exact j5 o ho hc⟩
  · obtain ⟨c1, c2, c3⟩ := h9 hx
    refine ⟨fun f hf => ?_, c2, c3⟩
    obtain ⟨k1, k2, k3, k4, k5, k6, k7⟩ := c1 f hf
    refine ⟨k1, k2, k3, k4, k5, k6, fun j hj => ?_⟩
    rw [chV_cong (ev := ev') (ev' := ev) (fun _ _ _ => Iff.rfl) (fun _ _ => Iff.rfl) he]
    exact k7 j hj
  · exact (h10 hx).cong (fun _ _ => Iff.rfl) (fun o ho _ => ⟨rfl, rfl, (he o ho).symm⟩) (fun _ => Iff.rfl) (fun _ _ => ⟨rfl, rfl⟩) (fun _ _ z => z)
/-- an event without a key of the rule -/
theorem ckn {e te m mK sK : Nat} {dp : Nat → Nat} {tr : (c : Nat) → cT (dp c)} {ud : Nat} {ut : Option (cT ud)} {post : Option Nat → cs_S → Prop} (hJ : JK S σ Ow r ra b x k n w L tm ev wt bt nb bl ko eo so lo sr an (KfO σ r e) (KfO σ r e) now e) (hR : ruC S σ r ra b x k n w q dp tr ud ut) (he : e < 4000) (h63 : σ.2.2.1 63 (4000 * r + e) = -1) (hkh : ¬ kH σ b n e) (hev : evR S σ te (ev e) e m) (hte : te ≤ 24000) (hvs : ∀ vs, cs_r S 404 (ev e) = some vs → vs ≠ wt)
    (hpost : ∀ S', fX (rE S wt bt Ow) S S' → JK S' σ Ow r ra b x k n w L tm ev wt bt nb bl ko eo so lo sr an (KfO σ r (e + 1)) (KfO σ r (e + 1)) now (e + 1) → post none S') : wp_X7_keyOf post G mK sK S ra (some (ev e)) := by
  have h3 := hJ.2.2.1
  obtain ⟨⟨b1, b2, b3, b4, b5, b6, b6'⟩, b7, b8, b9⟩ := id h3
  have kbt : cs_k S bt = 25 := b1.2.2.1
  refine cko hR.2.2.2.2.2.2.2.2.1 b3 b4 b5 hev hvs hte (fun _ S1 hF1 => ?_) (fun z => absurd z hkh)
  have hb1 := h3.fx rowE.sh b4 hF1 (fun f z => by have := kbt; rw [z.2, b4] at this; cases this) (fun vs _ hne => hne)
  have hJ1 := hJ.row hF1 (fun s f a z => Or.inl z.2) hb1
  have eK : KfO σ r (e + 1) = KfO σ r e := funext fun f => propext (KfO_nop h63 he)
  refine hpost S1 (hF1.mono (fun s f a z => ⟨by rw [z.2]; exact b6, Or.inl z.2⟩)) ?_
  rw [eK]
  exact hJ1.nop he h63 (fun f hf => hf.1)
end JKN
