/-! ===== what is due, class and reference ===== -/
section LST
variable {P0 : Nat → Prop} {S0 : cs_S} {G : Nat → Nat} {S S' : cs_S} {σ σ' : rf_S} {wa rr lt tl bk nr te nv ne na ns ks nl now r due ed : Nat} {ra x k n w q L : Nat → Nat} {dp : Nat → Nat → Nat} {tr : (r c : Nat) → cT (dp r c)} {ud : Nat → Nat} {ut : (r : Nat) → Option (cT (ud r))} {pr lr le tm ev al : Nat → Nat} {ko : Nat → Nat → Nat} {Ow : Nat → Nat → Prop} {wl : List Nat}
/-- the rule itself -/
theorem CR.lack {O : Nat → Prop} {E : Nat → Nat → Nat → Prop} {r ra x k n w q L p wt bt nb lo lo' : Nat} {dp : Nat → Nat} {tr : (c : Nat) → cT (dp c)} {ud : Nat} {ut : Option (cT ud)} {ko eo sr an : Nat → Nat} {bl : Nat → List Nat} {so : Nat → Option Nat} (h : CR S σ O r ra bk x k n w q L dp tr ud ut tm ev ko nl lr le now p) (hJ : JK S σ O r ra (12 * bk + r) x k n w L tm ev wt bt nb bl ko eo so lo sr an (KfO σ r p) (KfO σ r p) now p) (hx : x = 4) (hp : p ≤ 4000) (hl : l71 σ σ') (hF : fX E S S') (hE : ∀ s f a, E s f a → (a = ra ∧ (f = 813 ∨ f = 814)) ∨ (cs_k S a = 6 ∧ f = 513)) (hL : lcI S' ra O ko eo ev (kfO σ r) an (c4O σ r) (KfO σ r p) lo' p) (hlc : lcR σ' r nl lr le an lo' p) : CR S' σ' O r ra bk x k n w q L dp tr ud ut tm ev ko nl lr le now p := by
  have kwt : cs_k S wt = 26 := hJ.2.2.1.1.2.2.2.1
  have kbt : cs_k S bt = 25 := hJ.2.2.1.1.1.2.2.1
  have hruC := h.1
  have k9 := hruC.1
  have hV : eV σ σ' := hl.ge.ev
  have hs : sh S wt E := fun s f a _ z => Or.inr (by
    rcases hE s f a z with ⟨rfl, z⟩ | ⟨z1, z2⟩
    · exact ⟨by omega, by omega, by omega, by omega, by omega, by omega, fun y => by omega, fun y => by omega, fun y => by omega⟩
    · exact ⟨by omega, by omega, by omega, by omega, by omega, by omega, fun y => by omega, fun y => by omega, fun y => by omega⟩)
  have r3 := hl.2.2.1
  have eK : KfO σ' r p = KfO σ r p := funext fun f => propext (by unfold KfO; rw [r3 63 (by decide)])
  have hJ' : JK S' σ O r ra (12 * bk + r) x k n w L tm ev wt bt nb bl ko eo so lo' sr an (KfO σ r p) (KfO σ r p) now p := by
    obtain ⟨h1, h2, h3, h4, h5, h6, h7, h8, h9, h10⟩ := id hJ
    refine ⟨fun a ha => hF.live (h1 a ha), h2, h3.fx hs kwt hF (fun f z => ?_) (fun vs _ z => z), fun f hf => ?_, h5, ?_, h7, fun z => absurd z (by omega), fun z => absurd z (by omega), fun _ => hL⟩
    · rcases hE _ _ _ z with ⟨z, -⟩ | ⟨z, -⟩
      · rw [z, k9] at kbt; cases kbt
      · omega
    · obtain ⟨k1, k2⟩ := hJ.kk hf
      obtain ⟨-, -, a3, -⟩ := hF (ko f) (by omega)
      rw [a3 503 (fun z => by rcases hE _ _ _ z with ⟨-, z⟩ | ⟨-, z⟩ <;> omega), a3 504 (fun z => by rcases hE _ _ _ z with ⟨-, z⟩ | ⟨-, z⟩ <;> omega)]
      exact h4 f hf
    · rw [(hF ra (by omega)).2.2.1 812 (fun z => by rcases hE _ _ _ z with ⟨-, z⟩ | ⟨-, z⟩ <;> omega)]
      exact h6
  refine ⟨(hruC.fx hs hF kwt).ev hV, h.fx' hs kwt hF, wt, bt, nb, bl, eo, so, lo', sr, an, ?_, fun _ => hlc⟩
  rw [eK]
  exact hJ'.on hV (fun o _ => by rw [r3 63 (by decide)]) (fun o _ => by rw [r3 64 (by decide)]) (fun f _ => ⟨by rw [r3 65 (by decide)], by rw [r3 66 (by decide)]⟩) (by rw [r3 67 (by decide)]) hp (fun z => absurd z (by omega))
/-- all the rest -/
theorem CW.lack {E : Nat → Nat → Nat → Prop} (hSH : SHR G S σ wa rr lt tl bk nr ra n te ne na ns ks now pr tm ev ko Ow al ed wl) (hCR : ∀ r, r < nr → CR S σ (Ow r) r (ra r) bk (x r) (k r) (n r) (w r) (q r) (L r) (dp r) (tr r) (ud r) (ut r) tm ev (ko r) nl lr le now (pr r)) (hdis : ∀ r r' a, r < nr → r' < nr → Ow r a → Ow r' a → r = r') (hr : r < nr) (hpb : ∀ r, r < nr → pr r ≤ 4000) (hlk : ∀ j, j < nl → le j < pr (lr j)) (hl : l71 σ σ') (h71 : ∀ j, j < nl → lr j ≠ r → σ'.2.2.1 71 j = σ.2.2.1 71 j) (hF : fX E S S') (hE : ∀ s f a, E s f a → (a = ra r ∧ (f = 813 ∨ f = 814)) ∨ (cs_k S a = 6 ∧ f = 513 ∧ Ow r a)) (hFR : FR P0 S0 S nr Ow ne ev wl) (hown : CR S' σ' (Ow r) r (ra r) bk (x r) (k r) (n r) (w r) (q r) (L r) (dp r) (tr r) (ud r) (ut r) tm ev (ko r) nl lr le now (pr r)) :
    SHR G S' σ' wa rr lt tl bk nr ra n te ne na ns ks now pr tm ev ko Ow al ed wl ∧ (∀ r, r < nr → CR S' σ' (Ow r) r (ra r) bk (x r) (k r) (n r) (w r) (q r) (L r) (dp r) (tr r) (ud r) (ut r) tm ev (ko r) nl lr le now (pr r)) ∧ FR P0 S0 S' nr Ow ne ev wl := by
  obtain ⟨hruC, -, wt, bt, nb, bl, eo, so, lo, sr, an, hJ, -⟩ := id (hCR r hr)
  have kwt : cs_k S wt = 26 := hJ.2.2.1.1.2.2.2.1
  have hOw : Ow r wt := hJ.2.2.1.1.2.2.2.2.2.1
  have k9 := hruC.1
  have hV : eV σ σ' := hl.ge.ev
  have r3 := hl.2.2.1
  have hs : sh S wt E := fun s f a _ z => Or.inr (by
    rcases hE s f a z with ⟨rfl, z⟩ | ⟨z1, z2, -⟩
    · exact ⟨by omega, by omega, by omega, by omega, by omega, by omega, fun y => by omega, fun y => by omega, fun y => by omega⟩
    · exact ⟨by omega, by omega, by omega, by omega, by omega, by omega, fun y => by omega, fun y => by omega, fun y => by omega⟩)
  refine ⟨(hSH.fx hs kwt hF (fun s f a z => ?_) (fun vs hv z => hv r hr (by rw [z]; exact hOw))).on hV (by rw [hl.1]) (by rw [hl.1]) (by rw [hl.1]) (fun _ _ => Nat.le_refl _) (fun _ _ _ _ => by rw [r3 63 (by decide)]) (fun kk j z1 z2 _ => by rw [r3 kk (by omega)]) (fun j _ => ⟨by rw [r3 81 (by decide)], by rw [r3 82 (by decide)]⟩) (fun _ _ _ _ z => z) (fun _ _ _ _ => rfl), fun r' hr' => ?_, hFR.fx hF (fun s f a z => Or.inr (by
    rcases hE s f a z with ⟨rfl, -⟩ | ⟨z, -⟩ <;> omega)) (fun _ _ _ _ z => z)⟩
  · rcases hE s f a z with ⟨rfl, -⟩ | ⟨z, -⟩
    · exact Or.inr (Or.inr (Or.inl k9))
    · exact Or.inr (Or.inl z)
  · by_cases c : r' = r
    · rw [c]; exact hown
    · refine ((hCR r' hr').fx hs kwt hF (fun s f a z ho => ?_) (fun z => c (hdis r' r wt hr' hr z hOw))).on hV (fun o _ => ⟨by rw [r3 63 (by decide)], by rw [r3 64 (by decide)]⟩) (fun f _ => ⟨by rw [r3 65 (by decide)], by rw [r3 66 (by decide)]⟩) (by rw [r3 67 (by decide)]) (hpb r' hr') (Nat.le_refl _) (fun j z1 z2 => absurd z1 (by omega)) (fun j hj => ⟨rfl, rfl, fun hjr => by rw [h71 j hj (by rw [hjr]; exact c)]⟩) (fun j hj hjr => by have := hlk j hj; rw [hjr] at this; exact this)
      rcases hE s f a z with ⟨rfl, -⟩ | ⟨-, -, z⟩
      · exact absurd (hdis r' r _ hr' hr ho hJ.2.1) c
      · exact absurd (hdis r' r _ hr' hr ho z) c
theorem wh4 {x : Nat} {v : Int32} (h : whC x v) : (x = 4 → v = 31) ∧ (x ≠ 4 → ¬ v = 31) := by
  rcases h with ⟨a, b⟩ | ⟨a, b⟩ | ⟨a, b⟩ | ⟨a, b⟩ | ⟨a, b⟩ <;> subst a <;> subst b <;> exact ⟨by decide, by decide⟩
theorem CWnd {post : Int32 → cs_S → Prop} (hW : CW P0 S0 G S σ wa rr lt tl bk nr ra x k n w q L dp tr ud ut te ne na ns ks nl now pr lr le tm ev) (hS : RS0 σ bk nr x k n w q L dp tr ud ut) (hD : RD σ bk nr x n w te nv ne na ns nl now pr lr le tm) (hr : r < nr)
    (hp : ∀ S' v, CW P0 S0 G S' σ wa rr lt tl bk nr ra x k n w q L dp tr ud ut te ne na ns ks nl now pr lr le tm ev → ((v = -1 ∧ ∀ j, j < nl → lr j = r → ¬ σ.2.2.1 71 j = 0) ∨ ∃ j, j < nl ∧ lr j = r ∧ σ.2.2.1 71 j = 0 ∧ v = nI (tm (le j) + w r) ∧ ∀ j', j' < nl → lr j' = r → σ.2.2.1 71 j' = 0 → tm (le j) + w r ≤ tm (le j') + w r) → post v S') : wp_X7_nextDue post G S (ra r) := by
  obtain ⟨ko, Ow, al, ed, wl, hSH, hCR, hdis, hFR⟩ := id hW
  obtain ⟨hruC, -, wt, bt, nb, bl, eo, so, lo, sr, an, hJ, hlc⟩ := id (hCR r hr)
  obtain ⟨s1, s2, s3, s4, s5⟩ := id hS
  obtain ⟨bnl, bna, bns, bpr, blk⟩ := hD.bnd s4
  obtain ⟨⟨d1, d2, d3, d4, d5⟩, d6, d7, -, -, d10, d11, d12, d13, d14⟩ := id hD
  have hprn := d11 r hr
  have hw := (s5 r hr).1.2.2.2.2.2.2.1
  have h802 := wh4 hruC.2.2.1
  have h810 : cs_i S 810 (ra r) = nI (w r) := hruC.2.2.2.2.2.2.2.2.2.1
  by_cases hx : x r = 4
  · have hL := hJ.2.2.2.2.2.2.2.2.2 hx
    obtain ⟨l1, l2, l3⟩ := hlc hx
    refine cnd (tm := tm) hw (h802.1 hx) hL (fun o ho _ => ?_) h810 (fun S' lo' q1 q2 q3 q4 => ?_)
    · obtain ⟨-, g2, g3, -⟩ := hSH.2.2.1 o (by omega)
      exact ⟨g3, g2, by have := (d6 o (by omega)).2.2.1; omega⟩
    have hlc' : lcR σ r nl lr le an lo' (pr r) := ⟨fun j hj hjr => by
      obtain ⟨m1, m2, m3⟩ := l1 j hj hjr
      refine ⟨m1, m2, m3.trans ⟨fun z => ⟨?_, z.2⟩, fun z => ⟨by omega, z.2⟩⟩⟩
      by_cases c : lo' ≤ le j
      · exact c
      · exact absurd (q2 (le j) z.1 (by omega) m2) z.2, l2, l3⟩
    have hown := (hCR r hr).lack (σ' := σ) hJ hx (bpr r hr) l71.rfl q3 (fun s f a z => Or.inl ⟨z.2.1, by have := z.2.2; omega⟩) q4 hlc'
    have hW' := CW.lack hSH hCR hdis hr bpr (fun j hj => (blk j hj).2) l71.rfl (fun _ _ _ => rfl) q3 (fun s f a z => Or.inl ⟨z.2.1, by have := z.2.2; omega⟩) hFR hown
    refine ⟨fun e0 => hp S' _ ⟨ko, Ow, al, ed, wl, hW'.1, hW'.2.1, hdis, hW'.2.2⟩ (Or.inl ⟨rfl, fun j hj hjr z => ?_⟩), fun o e0 hna => hp S' _ ⟨ko, Ow, al, ed, wl, hW'.1, hW'.2.1, hdis, hW'.2.2⟩ (Or.inr ?_)⟩
    · obtain ⟨m1, m2, m3⟩ := hlc'.1 j hj hjr
      exact nx_none _ e0 (le j) (m3.mp z).1 m1 m2
    · obtain ⟨n1, n2, n3, n4⟩ := nx_some _ o e0
      obtain ⟨j, j1, j2, j3⟩ := l2 o n2 n3
      refine ⟨j, j1, j2, ((hlc'.1 j j1 j2).2.2).mpr (by rw [j3]; exact ⟨n1, hna⟩), by rw [j3], fun j' h1 h2 h3 => ?_⟩
      obtain ⟨m1, m2, m3⟩ := hlc'.1 j' h1 h2
      have hle : o ≤ le j' := by
        by_cases c : o ≤ le j'
        · exact c
        · exact absurd m2 (n4 (le j') (m3.mp h3).1 (by omega))
      rw [j3]
      have := d7 o (le j') hle (by omega)
      omega
  · refine ⟨hruC.1, fun z => absurd z (h802.2 hx), fun _ => hp S _ hW (Or.inl ⟨rfl, fun j hj hjr => ?_⟩)⟩
    exact absurd (by rw [← hjr]; exact d14 j hj) hx
theorem CWtk {post : Option Nat → cs_S → Prop} (hW : CW P0 S0 G S σ wa rr lt tl bk nr ra x k n w q L dp tr ud ut te ne na ns ks nl now pr lr le tm ev) (hS : RS0 σ bk nr x k n w q L dp tr ud ut) (hD : RD σ bk nr x n w te nv ne na ns nl now pr lr le tm) (hr : r < nr) (hdue : due < 2 ^ 31) (hmin : ∀ j, j < nl → lr j = r → σ.2.2.1 71 j = 0 → due ≤ tm (le j) + w r)
    (hN : ∀ S', CW P0 S0 G S' σ wa rr lt tl bk nr ra x k n w q L dp tr ud ut te ne na ns ks nl now pr lr le tm ev → (∀ j, j < nl → lr j = r → σ.2.2.1 71 j = 0 → tm (le j) + w r ≠ due) → post none S')
    (hT : ∀ S' j en ko Ow al ed wl f0, j < nl → lr j = r → σ.2.2.1 71 j = 0 → tm (le j) + w r = due → (∀ j', j' < nl → lr j' = r → σ.2.2.1 71 j' = 0 → le j ≤ le j') → (∀ j j', j < j' → j' < nl → lr j = r → lr j' = r → le j < le j') → SHR G S' (rf_ua σ 71 j 1) wa rr lt tl bk nr ra n te ne na ns ks now pr tm ev ko Ow al ed wl → (∀ r, r < nr → CR S' (rf_ua σ 71 j 1) (Ow r) r (ra r) bk (x r) (k r) (n r) (w r) (q r) (L r) (dp r) (tr r) (ud r) (ut r) tm ev (ko r) nl lr le now (pr r)) → (∀ r r' a, r < nr → r' < nr → Ow r a → Ow r' a → r = r') → FR P0 S0 S' nr Ow ne ev wl → cs_k S' en = 4 → cs_r S' 300 en = some (ev (le j)) → cs_r S' 301 en = some (ko r f0) → KfO σ r (pr r) f0 → σ.2.2.1 63 (4000 * r + le j) = nI f0 → f0 ≤ le j → post (some en) S') : wp_X7_takeDue post G S (ra r) (nI due) := by
  obtain ⟨ko, Ow, al, ed, wl, hSH, hCR, hdis, hFR⟩ := id hW
  obtain ⟨hruC, -, wt, bt, nb, bl, eo, so, lo, sr, an, hJ, hlc⟩ := id (hCR r hr)
  obtain ⟨s1, s2, s3, s4, s5⟩ := id hS
  obtain ⟨bnl, bna, bns, bpr, blk⟩ := hD.bnd s4
  obtain ⟨⟨d1, d2, d3, d4, d5⟩, d6, d7, -, -, d10, d11, d12, d13, d14⟩ := id hD
  have hprn := d11 r hr
  have hw := (s5 r hr).1.2.2.2.2.2.2.1
  have h802 := wh4 hruC.2.2.1
  have h810 : cs_i S 810 (ra r) = nI (w r) := hruC.2.2.2.2.2.2.2.2.2.1
  by_cases hx : x r = 4
  · have hL := hJ.2.2.2.2.2.2.2.2.2 hx
    obtain ⟨l1, l2, l3⟩ := hlc hx
    have lcU : ∀ lo', lo ≤ lo' → (∀ o, lo ≤ o → o < lo' → c4O σ r o → o < an (kfO σ r o)) → lcR σ r nl lr le an lo' (pr r) := fun lo' q1 q2 => ⟨fun j hj hjr => by
      obtain ⟨m1, m2, m3⟩ := l1 j hj hjr
      refine ⟨m1, m2, m3.trans ⟨fun z => ⟨?_, z.2⟩, fun z => ⟨by omega, z.2⟩⟩⟩
      by_cases c : lo' ≤ le j
      · exact c
      · exact absurd (q2 (le j) z.1 (by omega) m2) z.2, l2, l3⟩
    have first : ∀ lo' o, lcR σ r nl lr le an lo' (pr r) → nx (c4O σ r) lo' (pr r) = some o → ∀ j', j' < nl → lr j' = r → σ.2.2.1 71 j' = 0 → o ≤ le j' := fun lo' o hl e0 j' h1 h2 h3 => by
      obtain ⟨n1, n2, n3, n4⟩ := nx_some _ o e0
      obtain ⟨m1, m2, m3⟩ := hl.1 j' h1 h2
      by_cases c : o ≤ le j'
      · exact c
      · exact absurd m2 (n4 (le j') (m3.mp h3).1 (by omega))
    refine ctk (tm := tm) hw hdue (h802.1 hx) hL (fun o ho _ => ?_) h810 (fun S' lo' q1 q2 q3 q4 q5 => ?_) (fun S' lo' o q1 q2 e0 hna hd q3 q4 => ?_)
    · obtain ⟨-, g2, g3, -⟩ := hSH.2.2.1 o (by omega)
      exact ⟨g3, g2, by have := (d6 o (by omega)).2.2.1; omega⟩
    · have hlc' := lcU lo' q1 q2
      have hown := (hCR r hr).lack (σ' := σ) hJ hx (bpr r hr) l71.rfl q3 (fun s f a z => Or.inl ⟨z.2.1, by have := z.2.2; omega⟩) q4 hlc'
      have hW' := CW.lack hSH hCR hdis hr bpr (fun j hj => (blk j hj).2) l71.rfl (fun _ _ _ => rfl) q3 (fun s f a z => Or.inl ⟨z.2.1, by have := z.2.2; omega⟩) hFR hown
      refine hN S' ⟨ko, Ow, al, ed, wl, hW'.1, hW'.2.1, hdis, hW'.2.2⟩ (fun j h1 h2 h3 => ?_)
      cases e0 : nx (c4O σ r) lo' (pr r) with
      | none =>
        obtain ⟨m1, m2, m3⟩ := hlc'.1 j h1 h2
        exact absurd m2 (nx_none _ e0 (le j) (m3.mp h3).1 m1)
      | some o =>
        obtain ⟨n1, n2, n3, n4⟩ := nx_some _ o e0
        obtain ⟨j0, j1, j2, j3⟩ := l2 o n2 n3
        obtain ⟨u1, u2⟩ := q5 o e0
        have z0 : σ.2.2.1 71 j0 = 0 := ((hlc'.1 j0 j1 j2).2.2).mpr (by rw [j3]; exact ⟨n1, u1⟩)
        have h5 := hmin j0 j1 j2 z0
        rw [j3] at h5
        have hle := first lo' o hlc' e0 j h1 h2 h3
        have h6 := d7 o (le j) hle (by have := (hlc'.1 j h1 h2).1; omega)
        omega
    · have hlc' := lcU lo' q1 q2
      obtain ⟨n1, n2, n3, n4⟩ := nx_some _ o e0
      obtain ⟨j0, j1, j2, j3⟩ := l2 o n2 n3
      have z0 : σ.2.2.1 71 j0 = 0 := ((hlc'.1 j0 j1 j2).2.2).mpr (by rw [j3]; exact ⟨n1, hna⟩)
      have hl : l71 σ (rf_ua σ 71 j0 1) := l71.rfl.ua
      have r63 : (rf_ua σ 71 j0 1).2.2.1 63 = σ.2.2.1 63 := hl.2.2.1 63 (by decide)
      have r64 : (rf_ua σ 71 j0 1).2.2.1 64 = σ.2.2.1 64 := hl.2.2.1 64 (by decide)
      have ec4 : c4O (rf_ua σ 71 j0 1) r = c4O σ r := funext fun o => by unfold c4O hkO; rw [r63, r64]
      have ekf : kfO (rf_ua σ 71 j0 1) r = kfO σ r := funext fun o => by unfold kfO; rw [r63]
      have inj : ∀ j, j < nl → lr j = r → le j = o → j = j0 := fun j h1 h2 h3 => by
        by_cases c : j < j0
        · have := l3 j j0 c j1 h2 j2; omega
        · by_cases c2 : j0 < j
          · have := l3 j0 j c2 h1 j2 h2; omega
          · omega
      have hlc2 : lcR (rf_ua σ 71 j0 1) r nl lr le an (o + 1) (pr r) := by
        unfold lcR
        rw [ec4, ekf]
        refine ⟨fun j hj hjr => ?_, l2, l3⟩
        obtain ⟨m1, m2, m3⟩ := hlc'.1 j hj hjr
        refine ⟨m1, m2, ?_⟩
        rw [r3ua]
        by_cases c : j = j0
        · rw [if_pos ⟨rfl, c⟩]
          refine ⟨fun z => absurd z (by decide), fun z => ?_⟩
          rw [c, j3] at z
          omega
        · rw [if_neg (fun z => c z.2)]
          refine m3.trans ⟨fun z => ⟨?_, z.2⟩, fun z => ⟨by omega, z.2⟩⟩
          have hne : le j ≠ o := fun z => c (inj j hj hjr z)
          by_cases c2 : o + 1 ≤ le j
          · exact c2
          · exact absurd m2 (n4 (le j) z.1 (by omega))
      have hkk := hJ.kk (hL.2.2.1 o n2 n3).1
      have hE : ∀ s f a, ((s = 2 ∧ a = ra r ∧ f = 814) ∨ (s = 0 ∧ a = ra r ∧ f = 813) ∨ (s = 0 ∧ a = ko r (kfO σ r o) ∧ f = 513)) → (a = ra r ∧ (f = 813 ∨ f = 814)) ∨ (cs_k S a = 6 ∧ f = 513 ∧ Ow r a) := fun s f a z => by
        rcases z with ⟨-, z1, z2⟩ | ⟨-, z1, z2⟩ | ⟨-, z1, z2⟩
        · exact Or.inl ⟨z1, by omega⟩
        · exact Or.inl ⟨z1, by omega⟩
        · exact Or.inr ⟨by rw [z1]; exact hkk.1, z2, by rw [z1]; exact hkk.2⟩
      have hown := (hCR r hr).lack hJ hx (bpr r hr) hl q3 (fun s f a z => by
        rcases hE s f a z with y | ⟨y1, y2, -⟩
        · exact Or.inl y
        · exact Or.inr ⟨y1, y2⟩) q4 hlc2
      have hW' := CW.lack hSH hCR hdis hr bpr (fun j hj => (blk j hj).2) hl (fun j _ hjr => by rw [r3ua, if_neg (fun z => hjr (by rw [z.2]; exact j2))]) q3 hE hFR hown
      obtain ⟨o1, o2, o3, o4, o5, o6⟩ := q4.2.2.1 o n2 n3
      obtain ⟨ky1, -⟩ := hD.ky hr
      have hkf : σ.2.2.1 63 (4000 * r + o) = nI (kfO σ r o) ∧ kfO σ r o ≤ o := by
        rcases (d10.1 r hr).2.1.1 o (by have := bpr r hr; omega) with z | ⟨f, g1, g2, -⟩
        · exact absurd z n3.1
        · have : kfO σ r o = f := by unfold kfO; rw [g2, nI_clamp (by have := bpr r hr; omega)]
          rw [this]
          exact ⟨g2, g1⟩
      refine hT S' j0 (eo o) ko Ow al ed wl (kfO σ r o) j1 j2 z0 (by rw [j3]; exact hd) (fun j' h1 h2 h3 => by rw [j3]; exact first lo' o hlc' e0 j' h1 h2 h3) l3 hW'.1 hW'.2.1 hdis hW'.2.2 o2 (by rw [j3]; exact o5) o6 (ky1 o n2 n3.1) (by rw [j3]; exact hkf.1) (by rw [j3]; exact hkf.2)
  · refine ⟨hruC.1, hruC.1, fun z => absurd z (h802.2 hx), fun _ => ⟨fun _ => hN S hW (fun j hj hjr => ?_), fun z => ?_⟩⟩
    · exact absurd (by rw [← hjr]; exact d14 j hj) hx
    · exact absurd z.symm (nI_m due hdue)
end LST
