/-! ===== what a rule holds: the class forgets ===== -/
section CFG
variable {P0 : Nat → Prop} {S0 : cs_S} {G : Nat → Nat} {S S' : cs_S} {σ σ' : rf_S} {wa rr lt tl bk nr te nv ne na ns ks nl now r due ed : Nat} {ra x k n w q L : Nat → Nat} {dp : Nat → Nat → Nat} {tr : (r c : Nat) → cT (dp r c)} {ud : Nat → Nat} {ut : (r : Nat) → Option (cT (ud r))} {pr lr le tm ev al : Nat → Nat} {ko : Nat → Nat → Nat} {Ow : Nat → Nat → Prop} {wl : List Nat}
theorem CWfg {post : cs_S → Prop} (hW : CW P0 S0 G S σ wa rr lt tl bk nr ra x k n w q L dp tr ud ut te ne na ns ks nl now pr lr le tm ev) (hS : RS0 σ bk nr x k n w q L dp tr ud ut) (hD : RD σ bk nr x n w te nv ne na ns nl now pr lr le tm) (hr : r < nr) (hx : x r ≤ 2)
    (hp : ∀ S', CW P0 S0 G S' σ wa rr lt tl bk nr ra x k n w q L dp tr ud ut te ne na ns ks nl now pr lr le tm ev → fX (fun _ _ a => cs_k S a = 9 ∨ cs_k S a = 6) S S' → cs_k S' (ra r) = 9 → cs_i S' 813 (ra r) = yI (sS (fun o => cO σ r (12 * bk + r) o ∧ now < tm o + w r) (fun _ => 1) 0 ne) → post S') : wp_X7_forget post G S (ra r) (nI now) := by
  obtain ⟨ko, Ow, al, ed, wl, hSH, hCR, hdis, hFR⟩ := id hW
  obtain ⟨hruC, -, wt, bt, nb, bl, eo, so, lo, sr, an, hJ, hlc⟩ := id (hCR r hr)
  obtain ⟨s1, s2, s3, s4, s5⟩ := id hS
  obtain ⟨bnl, bna, bns, bpr, blk⟩ := hD.bnd s4
  obtain ⟨⟨d1, d2, d3, d4, d5⟩, d6, d7, -, -, d10, d11, d12, d13, d14⟩ := id hD
  have hprn := d11 r hr
  have hw := (s5 r hr).1.2.2.2.2.2.2.1
  have h810 : cs_i S 810 (ra r) = nI (w r) := hruC.2.2.2.2.2.2.2.2.2.1
  have kwt : cs_k S wt = 26 := hJ.2.2.1.1.2.2.2.1
  have kbt : cs_k S bt = 25 := hJ.2.2.1.1.1.2.2.1
  have hOw : Ow r wt := hJ.2.2.1.1.2.2.2.2.2.1
  have k9 := hruC.1
  obtain ⟨jc1, jc2, jc3, jc4, jc5⟩ := hJ.2.2.2.2.2.2.2.1 hx
  refine cfg (tm := tm) hw d5 (fun o o' h1 h2 => d7 o o' h1 (by omega)) h810 (fun o ho _ => ⟨(hSH.2.2.1 o (by omega)).2.1, by have := (d6 o (by omega)).2.2.1; omega⟩) jc1 (fun S' lo' q1 hF q3 q4 q5 => ?_)
  have hE : ∀ s f a, fgE S (Ow r) s f a → Ow r a ∧ ((cs_k S a = 9 ∧ (f = 813 ∨ f = 814)) ∨ (cs_k S a = 6 ∧ (f = 510 ∨ f = 511 ∨ f = 509 ∨ f = 505))) := fun s f a z => ⟨z.1, by
    rcases z.2 with ⟨z1, z2⟩ | ⟨z1, z2⟩
    · exact Or.inl ⟨z1, by omega⟩
    · exact Or.inr ⟨z1, by omega⟩⟩
  have hs : sh S wt (fgE S (Ow r)) := fun s f a _ z => Or.inr (by
    rcases (hE s f a z).2 with ⟨z1, z2⟩ | ⟨z1, z2⟩
    · exact ⟨by omega, by omega, by omega, by omega, by omega, by omega, fun y => by omega, fun y => by omega, fun y => by omega⟩
    · exact ⟨by omega, by omega, by omega, by omega, by omega, by omega, fun y => by omega, fun y => by omega, fun y => by omega⟩)
  have hJ' : JK S' σ (Ow r) r (ra r) (12 * bk + r) (x r) (k r) (n r) (w r) (L r) tm ev wt bt nb bl (ko r) eo so lo' sr an (KfO σ r (pr r)) (KfO σ r (pr r)) now (pr r) := by
    obtain ⟨h1, h2, h3, h4, h5, h6, h7, h8, h9, h10⟩ := id hJ
    have ka : ∀ f, KfO σ r (pr r) f → fX (fgE S (Ow r)) S S' → cs_k S (ko r f) = 6 := fun f hf _ => (hJ.kk hf).1
    refine ⟨fun a ha => hF.live (h1 a ha), h2, h3.fx hs kwt hF (fun f z => ?_) (fun vs _ z => z), fun f hf => ?_, h5, ?_, h7, fun _ => ⟨q3, fun z => (jc2 z).fx (fun f hf => ?_), jc3, jc4, fun o ho hc => ?_⟩, fun z => absurd z (by omega), fun z => absurd z (by omega)⟩
    · rcases (hE _ _ _ z).2 with ⟨z, -⟩ | ⟨z, -⟩ <;> omega
    · have k6 := ka f hf hF
      obtain ⟨-, -, a3, -⟩ := hF (ko r f) (by omega)
      rw [a3 503 (fun z => by rcases (hE _ _ _ z).2 with ⟨z, z'⟩ | ⟨-, z⟩ <;> omega), a3 504 (fun z => by rcases (hE _ _ _ z).2 with ⟨-, z⟩ | ⟨-, z⟩ <;> omega)]
      exact h4 f hf
    · rw [(hF (ra r) (by omega)).2.2.1 812 (fun z => by rcases (hE _ _ _ z).2 with ⟨-, z⟩ | ⟨-, z⟩ <;> omega)]
      exact h6
    · have k6 := ka f hf hF
      obtain ⟨-, -, a3, -, a5, -⟩ := hF (ko r f) (by omega)
      exact ⟨a3 508 (fun z => by rcases (hE _ _ _ z).2 with ⟨-, z⟩ | ⟨-, z⟩ <;> omega), a5 507 (fun z => by rcases (hE _ _ _ z).2 with ⟨-, z⟩ | ⟨-, z⟩ <;> omega)⟩
    · by_cases c : lo ≤ o
      · exact q4 o c ho hc
      · exact jc5 o (by omega) hc
  have hown : CR S' σ (Ow r) r (ra r) bk (x r) (k r) (n r) (w r) (q r) (L r) (dp r) (tr r) (ud r) (ut r) tm ev (ko r) nl lr le now (pr r) := ⟨hruC.fx hs hF kwt, (hCR r hr).fx' hs kwt hF, wt, bt, nb, bl, eo, so, lo', sr, an, hJ', fun z => absurd z (by omega)⟩
  refine hp S' ⟨ko, Ow, al, ed, wl, hSH.fx hs kwt hF (fun s f a z => ?_) (fun vs hv z => hv r hr (by rw [z]; exact hOw)), fun r' hr' => ?_, hdis, hFR.fx hF (fun s f a z => Or.inr (by rcases (hE s f a z).2 with ⟨z, -⟩ | ⟨z, -⟩ <;> omega)) (fun _ _ _ _ z => z)⟩ (hF.mono (fun s f a z => ?_)) ((hF (ra r) (by omega)).1.trans k9) ?_
  · rcases (hE s f a z).2 with ⟨z, -⟩ | ⟨z, -⟩
    · exact Or.inr (Or.inr (Or.inl z))
    · exact Or.inr (Or.inl z)
  · by_cases c : r' = r
    · rw [c]; exact hown
    · exact (hCR r' hr').fx hs kwt hF (fun s f a z ho => absurd (hdis r' r _ hr' hr ho (hE s f a z).1) c) (fun z => c (hdis r' r wt hr' hr z hOw))
  · rcases (hE s f a z).2 with ⟨z, -⟩ | ⟨z, -⟩
    · exact Or.inl z
    · exact Or.inr z
  · have hlo := q3.1.1
    have e0 : sS (fun o => cO σ r (12 * bk + r) o ∧ now < tm o + w r) (fun _ => 1) 0 (ne - 0) = sS (fun o => cO σ r (12 * bk + r) o ∧ now < tm o + w r) (fun _ => 1) lo' (ne - lo') := sS_skip (Nat.zero_le _) (by omega) (fun o _ h2 h3 => by
      have h4 : tm o + w r ≤ now := by
        by_cases c : lo ≤ o
        · exact q4 o c h2 h3.1
        · exact jc5 o (by omega) h3.1
      have := h3.2
      omega)
    rw [q3.2.2.2.2.1.2.2.2, show ne = ne - 0 from rfl, e0, show ne - lo' = (pr r - lo') + (ne - pr r) from by omega, sS_app, sS_zero (lo := lo' + (pr r - lo')) (ne - pr r) (fun o h1 h2 h3 => ?_), Int.add_zero]
    · refine congrArg yI (sS_cong _ (fun o h1 h2 => ⟨⟨fun z => ⟨z, q5 o h1 (by omega) z⟩, fun z => z.1⟩, fun _ => rfl⟩))
    · exact h3.1.1 ((d10.1 r hr).2.2.1 o (by omega) (by omega))
end CFG
