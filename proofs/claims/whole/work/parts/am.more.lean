/-! ===== a rule of the class, where the log has one event more ===== -/
section EBC
variable {S : cs_S} {σ σ' : rf_S} {ne nv te : Nat} {Ow : Nat → Prop} {r ra b x k n w L wt bt nb lo now p : Nat} {tm ev ko eo sr an : Nat → Nat} {bl : Nat → List Nat} {so : Nat → Option Nat} {Kf Kc : Nat → Prop}
theorem eB.hi (h : eB σ σ' ne nv te) {o m : Nat} (ho : o < ne) (hm : eW σ te o m) : hI σ' b o ↔ hI σ b o := by
  have e38 : σ'.2.2.1 38 b = σ.2.2.1 38 b := h.2.1 38 b (by omega) (by omega) (by omega) (by omega) (by omega) (by omega)
  have ew : σ'.2.2.2 36 b = σ.2.2.2 36 b := h.2.2 36 b (by omega) (by omega) (by omega)
  unfold hI
  rw [e38, ew, h.fo ho hm.2.2.1 hm.2.1]
  constructor
  · rintro (z | ⟨i, z1, z2⟩)
    · exact Or.inl z
    · have l := (fO_lt hm.2.2.1 hm.2.1 z1).1
      have := hm.2.1
      rw [h.2.1 14 (8 * o + i) (by omega) (by omega) (by omega) (by omega) (by omega) (by omega)] at z2
      exact Or.inr ⟨i, z1, z2⟩
  · rintro (z | ⟨i, z1, z2⟩)
    · exact Or.inl z
    · have l := (fO_lt hm.2.2.1 hm.2.1 z1).1
      have := hm.2.1
      refine Or.inr ⟨i, z1, ?_⟩
      rw [h.2.1 14 (8 * o + i) (by omega) (by omega) (by omega) (by omega) (by omega) (by omega)]
      exact z2
theorem eB.gd (h : eB σ σ' ne nv te) {o m : Nat} (ho : o < ne) (hm : eW σ te o m) (c : Int64) : 8 * o + (fO σ o c).getD 0 < 8 * ne := by
  cases z : fO σ o c with
  | none => show 8 * o + 0 < 8 * ne; omega
  | some i =>
    have l := (fO_lt hm.2.2.1 hm.2.1 z).1
    have := hm.2.1
    show 8 * o + i < 8 * ne
    omega
theorem eB.am (h : eB σ σ' ne nv te) {o m : Nat} (ho : o < ne) (hm : eW σ te o m) : amO σ' b x o = amO σ b x o := by
  unfold amO
  rw [h.2.2 36 b (by omega) (by omega) (by omega), h.fo ho hm.2.2.1 hm.2.1]
  by_cases c : x = 2
  · rw [if_pos c, if_pos c]
    have := h.gd ho hm (σ.2.2.2 36 b)
    rw [h.2.1 15 _ (by omega) (by omega) (by omega) (by omega) (by omega) (by omega)]
  · rw [if_neg c, if_neg c]
theorem eB.vv (h : eB σ σ' ne nv te) {o m : Nat} (ho : o < ne) (hm : eW σ te o m) : vV σ' b o = vV σ b o := by
  unfold vV
  rw [h.2.2 36 b (by omega) (by omega) (by omega), h.fo ho hm.2.2.1 hm.2.1]
  cases z : fO σ o (σ.2.2.2 36 b) with
  | none => rfl
  | some i =>
    have l := (fO_lt hm.2.2.1 hm.2.1 z).1
    have := hm.2.1
    show (σ'.2.2.1 17 (8 * o + i)).toNatClampNeg = (σ.2.2.1 17 (8 * o + i)).toNatClampNeg
    rw [h.2.1 17 _ (by omega) (by omega) (by omega) (by omega) (by omega) (by omega)]
theorem eB.kc (h : eB σ σ' ne nv te) (hte : te ≤ 24000) {o m kk i : Nat} (ho : o < ne) (hm : eW σ te o m) (hi : fO σ o (σ.2.2.2 37 (3 * b + kk)) = some i) : kcO σ' b o kk = kcO σ b o kk := by
  unfold kcO
  rw [h.2.2 37 _ (by omega) (by omega) (by omega), h.fo ho hm.2.2.1 hm.2.1, hi]
  have l := (fO_lt hm.2.2.1 hm.2.1 hi).1
  have := hm.2.1
  exact h.vc hte (show 8 * o + i < 8 * ne by omega) (hm.2.2.2 i l)
theorem eB.sc (h : eB σ σ' ne nv te) (hte : te ≤ 24000) {o m i : Nat} (ho : o < ne) (hm : eW σ te o m) (hi : fO σ o (σ.2.2.2 36 b) = some i) : scO σ' b o = scO σ b o := by
  unfold scO
  rw [h.2.2 36 _ (by omega) (by omega) (by omega), h.fo ho hm.2.2.1 hm.2.1, hi]
  have l := (fO_lt hm.2.2.1 hm.2.1 hi).1
  have := hm.2.1
  exact h.vc hte (show 8 * o + i < 8 * ne by omega) (hm.2.2.2 i l)
theorem JK.eb (h : JK S σ Ow r ra b x k n w L tm ev wt bt nb bl ko eo so lo sr an (KfO σ r p) (KfO σ r p) now p) (hE : eB σ σ' ne nv te) (hte : te ≤ 24000) (hpn : p ≤ ne) (hne : ne ≤ 4000) (hew : ∀ o, o < ne → ∃ m, eW σ te o m) (h38 : σ.2.2.1 38 b = nI x) (hky : ∀ o, o < p → hkO σ r o → KfO σ r p (kfO σ r o)) (hkh : ∀ f, KfO σ r p f → kH σ b n f) : JK S σ' Ow r ra b x k n w L tm ev wt bt nb bl ko eo so lo sr an (KfO σ' r p) (KfO σ' r p) now p := by
  have row : ∀ kk, 63 ≤ kk ∧ kk ≤ 83 → σ'.2.2.1 kk = σ.2.2.1 kk := fun kk hk => funext fun j => hE.2.1 kk j (by omega) (by omega) (by omega) (by omega) (by omega) (by omega)
  have eK : KfO σ' r p = KfO σ r p := funext fun f => propext (by unfold KfO; rw [row 63 (by omega)])
  rw [eK]
  obtain ⟨h1, h2, h3, h4, h5, h6, h7, h8, h9, h10⟩ := h
  have hco : ∀ o, o < p → (cO σ r b o ↔ cO σ' r b o) := fun o ho => by
    obtain ⟨m, hm⟩ := hew o (by omega)
    unfold cO hkO
    rw [row 63 (by omega), row 64 (by omega), hE.hi (by omega) hm]
  have hkf : kfO σ' r = kfO σ r := funext fun o => by unfold kfO; rw [row 63 (by omega)]
  have hc4 : c4O σ' r = c4O σ r := funext fun o => by unfold c4O hkO; rw [row 63 (by omega), row 64 (by omega)]
  have hbM : bM σ' r = bM σ r := funext fun f => funext fun c => funext fun o => by unfold bM; rw [row 63 (by omega), row 64 (by omega)]
  have hbU : bU σ' r = bU σ r := funext fun f => funext fun o => by unfold bU; rw [row 63 (by omega), row 64 (by omega)]
  have kce : ∀ f, KfO σ r p f → ∀ kk, kk < n → kcO σ b f kk = kcO σ' b f kk := fun f hf kk hkk => by
    obtain ⟨m, hm⟩ := hew f (by have := hf.1; omega)
    obtain ⟨i, hi⟩ := hkh f hf kk hkk
    exact (hE.kc hte (by have := hf.1; omega) hm hi).symm
  refine ⟨h1, h2, h3.cong (fun _ _ z => z) (fun _ => Iff.rfl) (fun f hf => ⟨rfl, kce f hf⟩) (Nat.le_refl _) (fun o ho hc _ => ⟨ho, (hco o ho).mpr hc⟩) (fun o ho hc hs => ⟨(hco o ho).mp hc, rfl, ?_, fun kk hkk => ?_⟩) (fun o a _ _ z => z), fun f hf => ?_, h5, ?_, h7, fun hx => ?_, fun hx => ?_, fun hx => ?_⟩
  · obtain ⟨m, hm⟩ := hew o (by omega)
    have hx1 : x = 1 := by
      by_cases c : x = 1
      · exact c
      · exact absurd (h7 c o) hs
    rcases hc.2.2 with ⟨z, -⟩ | ⟨i, z, -⟩
    · exact absurd (by rw [h38, hx1]; rfl) z
    · exact (hE.sc hte (by omega) hm z).symm
  · rw [hkf]
    exact kce _ (hky o ho hc.1) kk hkk
  · rw [row 65 (by omega), row 66 (by omega)]; exact h4 f hf
  · rw [row 67 (by omega)]; exact h6
  · obtain ⟨j1, j2, j3, j4, j5⟩ := h8 hx
    have hlo := j1.1.1
    refine ⟨j1.cong hco (fun o ho _ => ?_) (fun _ => Iff.rfl) (fun _ _ => rfl) (fun _ _ z => z), fun hx0 f hf => ?_, j3, fun hx1 o ho hc => j4 hx1 o ho ((hco o ho).mpr hc), fun o ho hc => j5 o ho ((hco o (by omega)).mpr hc)⟩
    · obtain ⟨m, hm⟩ := hew o (by omega)
      exact ⟨by rw [hkf], rfl, rfl, (hE.am (by omega) hm).symm, rfl, (hE.vv (by omega) hm).symm⟩
    · have hck : ∀ o, o < p → (cK (cO σ r b) (kfO σ r) f o ↔ cK (cO σ' r b) (kfO σ' r) f o) := fun o ho => by
        unfold cK
        rw [hco o ho, hkf]
      have e0 : sS (cK (cO σ' r b) (kfO σ' r) f) (fun _ => 1) 0 p = sS (cK (cO σ r b) (kfO σ r) f) (fun _ => 1) 0 p := sS_cong _ (fun y _ hy => ⟨(hck y (by omega)).symm, fun _ => rfl⟩)
      obtain ⟨y1, y2⟩ := j2 hx0 f hf
      rw [e0]
      refine ⟨y1, fun z => ?_⟩
      obtain ⟨o, o1, o2, o3, o4⟩ := y2 z
      refine ⟨o, o1, (hck o o1).mp o2, o3, ?_⟩
      rw [← o4]
      exact sS_cong _ (fun y _ hy => ⟨(hck y (by omega)).symm, fun _ => rfl⟩)
  · rw [hbM, hbU]; exact h9 hx
  · rw [hkf, hc4]; exact h10 hx
end EBC
section EBR
variable {S : cs_S} {σ σ' : rf_S} {ne nv te : Nat} {Ow : Nat → Prop} {r ra bk x k n w q L nl now p : Nat} {dp : Nat → Nat} {tr : (c : Nat) → cT (dp c)} {ud : Nat} {ut : Option (cT ud)} {tm ev ko lr le tm' ev' : Nat → Nat}
theorem CR.eb (h : CR S σ Ow r ra bk x k n w q L dp tr ud ut tm ev ko nl lr le now p) (hE : eB σ σ' ne nv te) (hte : te ≤ 24000) (hpn : p ≤ ne) (hne : ne ≤ 4000) (hew : ∀ o, o < ne → ∃ m, eW σ te o m) (h38 : σ.2.2.1 38 (12 * bk + r) = nI x) (hky : ∀ o, o < p → hkO σ r o → KfO σ r p (kfO σ r o)) (hkh : ∀ f, KfO σ r p f → kH σ (12 * bk + r) n f) (ht : ∀ o, o < p → tm' o = tm o) (hv : ∀ o, o < p → ev' o = ev o) : CR S σ' Ow r ra bk x k n w q L dp tr ud ut tm' ev' ko nl lr le now p := by
  have row : ∀ kk, 63 ≤ kk ∧ kk ≤ 83 → σ'.2.2.1 kk = σ.2.2.1 kk := fun kk hk => funext fun j => hE.2.1 kk j (by omega) (by omega) (by omega) (by omega) (by omega) (by omega)
  obtain ⟨h1, h2, wt, bt, nb, bl, eo, so, lo, sr, an, h3, h4⟩ := h
  refine ⟨h1.er hE.er, h2, wt, bt, nb, bl, eo, so, lo, sr, an, (h3.eb hE hte hpn hne hew h38 hky hkh).tev ht hv, fun hx => ?_⟩
  have hkf : kfO σ' r = kfO σ r := funext fun o => by unfold kfO; rw [row 63 (by omega)]
  have hc4 : c4O σ' r = c4O σ r := funext fun o => by unfold c4O hkO; rw [row 63 (by omega), row 64 (by omega)]
  have h9 := h4 hx
  unfold lcR at h9 ⊢
  rw [hkf, hc4, row 71 (by omega)]
  exact h9
end EBR
