/-! ===== one rule that counts looks at one event ===== -/
theorem sh.mono {S : cs_S} {wt : Nat} {E E' : Nat → Nat → Nat → Prop} (h : sh S wt E') (m : ∀ s f a, E s f a → E' s f a) : sh S wt E := fun s f a ha z => h s f a ha (m s f a z)
theorem nthI.fx {S S' : cs_S} {ko eo kf : Nat → Nat} {C Kf : Nat → Prop} {L p : Nat} (h : nthI S ko eo kf C Kf L p) (h8 : ∀ f, Kf f → cs_i S' 508 (ko f) = cs_i S 508 (ko f) ∧ cs_r S' 507 (ko f) = cs_r S 507 (ko f)) : nthI S' ko eo kf C Kf L p := fun f hf => by
  obtain ⟨a, b⟩ := h8 f hf
  rw [a, b]; exact h f hf
def soU (so : Nat → Option Nat) (e : Nat) (x : Option Nat) : Nat → Option Nat := fun o => if o = e then x else so o
theorem soU_r {so : Nat → Option Nat} {e : Nat} {x : Option Nat} : soU so e x e = x := if_pos rfl
theorem soU_o {so : Nat → Option Nat} {e o : Nat} {x : Option Nat} (h : o ≠ e) : soU so e x o = so o := if_neg h
section CLC
variable {G : Nat → Nat} {S : cs_S} {σ : rf_S} {r ra b x k n w q wt bt nb e f0 B H L te m mc ms lo : Nat} {dp : Nat → Nat} {tr : (c : Nat) → cT (dp c)} {ud : Nat} {ut : Option (cT ud)} {bl : Nat → List Nat} {Ow Kf : Nat → Prop} {ko ev eo tm : Nat → Nat} {so : Nat → Option Nat} {res : Option Nat} {post : Int32 → cs_S → Prop}
theorem clC (hR : ruC S σ r ra b x k n w q dp tr ud ut) (hx2 : x ≤ 2) (h38 : σ.2.2.1 38 b = nI x) (hL : x = 0 ∨ x = 1 → 1 ≤ L ∧ L ≤ 1000 ∧ σ.2.2.1 39 b = nI L) (hw1 : 1 ≤ w) (hw2 : w ≤ 1000000) (he : e < 4000) (hf0 : f0 ≤ e) (hk63 : σ.2.2.1 63 (4000 * r + e) = nI f0) (hk64 : σ.2.2.1 64 (4000 * r + e) = nI B) (hB : B < 64) (hky : kyO σ r (e + 1)) (hH32 : H < 32) (hH : H = 0 ↔ B.testBit 0 = false)
    (hb : bI S ra wt bt nb n bl Ow ko Kf (kcO σ b) (kfO σ r) (cO σ r b) so (scO σ b) e) (hKf0 : Kf f0) (hKk : ∀ o, o < e → hkO σ r o → Kf (kfO σ r o)) (hj : jC S σ r ra b x w L Ow ko ev Kf so tm eo lo e (tm e)) (hwr : wnW S ra wt n ∧ ∀ k, k < n → rX S wt k = kcO σ b f0 k) (hku : ∀ f f', Kf f → Kf f' → (∀ k, k < n → kcO σ b f k = kcO σ b f' k) → f = f')
    (hvu : x = 1 → ∀ o o', o ≤ e → o' ≤ e → hI σ b o → hI σ b o' → (scO σ b o = scO σ b o' ↔ vV σ b o = vV σ b o')) (hvl : ∀ o, o ≤ e → vV σ b o < 32000) (hev : evR S σ te (ev e) e m) (hte : te ≤ 24000) (hvs : ∀ vs, cs_r S 404 (ev e) = some vs → vs ≠ wt)
    (hevs : ∀ o, o ≤ e → cs_k S (ev o) = 5 ∧ cs_i S 400 (ev o) = nI (tm o) ∧ tm o ≤ 2000000000 ∧ cs_i S 405 (ev o) = nI o) (hm : ∀ o o', o ≤ o' → o' ≤ e → tm o ≤ tm o') (hst : B.testBit 0 = true → stO σ r b e f0 w tm res) (hno : B.testBit 0 = false → res = none) (hmc : 1 ≤ mc ∧ 6 ≤ ms) (hmd : x = 1 → hI σ b e → 3 ≤ mc ∧ 25 ≤ ms)
    (hpost : ∀ S' Ow' eo' so' lo' bl', fX (rE S wt bt Ow) S S' → oX S Ow Ow' → bI S' ra wt bt nb n bl' Ow' ko Kf (kcO σ b) (kfO σ r) (cO σ r b) so' (scO σ b) (e + 1) → jC S' σ r ra b x w L Ow' ko ev Kf so' tm eo' lo' (e + 1) (tm e) → post (oI res) S') :
    w_X7_look_52 post G mc ms S 0 0 ra (some (ko f0)) (some (ev e)) (nI H) := by
  obtain ⟨r1, r2, r3, r4, r5, r6, r7, r8, r9, r10, r11⟩ := id hR
  obtain ⟨j1, j2, j3, j4, j5⟩ := id hj
  obtain ⟨⟨b1, b2, b3, b4, b5, b6, b6'⟩, b7, b8, b9⟩ := id hb
  have kbt : cs_k S bt = 25 := b1.2.2.1
  have n28 : ¬ cs_i S 802 ra = 28 := fun z => by
    rcases r3 with y | y | y | y | y
    · rw [y.2] at z; exact absurd z (by decide)
    · rw [y.2] at z; exact absurd z (by decide)
    · rw [y.2] at z; exact absurd z (by decide)
    · omega
    · omega
  have n31 : ¬ cs_i S 802 ra = 31 := fun z => by
    rcases r3 with y | y | y | y | y
    · rw [y.2] at z; exact absurd z (by decide)
    · rw [y.2] at z; exact absurd z (by decide)
    · rw [y.2] at z; exact absurd z (by decide)
    · omega
    · omega
  have kfe : kfO σ r e = f0 := by unfold kfO; rw [hk63, nI_clamp (by omega)]
  have coe : cO σ r b e ↔ B.testBit 0 = true ∧ hI σ b e := by
    unfold cO hkO
    rw [hk63, hk64, (bt_a B hB).2.1]
    exact ⟨fun z => z.2, fun z => ⟨nI_m f0 (by omega), z⟩⟩
  obtain ⟨e1, e2, e3, e4⟩ := hevs e (Nat.le_refl _)
  have hx : x = 0 ∨ x = 1 ∨ x = 2 := by omega
  -- an event that does not count
  have skip : ∀ S1 lo1, fX (fgE S Ow) S S1 → jC S1 σ r ra b x w L Ow ko ev Kf so tm eo lo1 e (tm e) → ¬ cO σ r b e → res = none → post (-1) S1 := fun S1 lo1 hF hj1 hn hres => by
    obtain ⟨g1, g2, g3, g4, g5⟩ := hj1
    have hFr : fX (rE S wt bt Ow) S S1 := hF.mono (fun s f a z => rE.ru s f a (fgE.ru s f a z))
    have hp := hpost S1 Ow eo so lo1 bl hFr oX.rfl ((hb.fx (E := fgE S Ow) ((rE.sh (Ow := Ow) kbt).mono (fun s f a z => rE.ru s f a (fgE.ru s f a z))) b4 hF (fun f z => by have := z.2; omega) (fun vs _ hne => hne)).nop (fun z => absurd z hn)) ⟨g1.nop he hn, fun z => ?_, g3, fun z o ho hc => ?_, g5⟩
    · rw [hres] at hp; exact hp
    · intro f hf
      obtain ⟨y1, y2⟩ := g2 z f hf
      have e0 : sS (cK (cO σ r b) (kfO σ r) f) (fun _ => 1) 0 (e + 1) = sS (cK (cO σ r b) (kfO σ r) f) (fun _ => 1) 0 e := by
        have := sS_nst (P := cK (cO σ r b) (kfO σ r) f) (v := fun _ => 1) (lo := 0) (p := e) (by omega) (fun z => hn z.1)
        simpa using this
      rw [e0]
      refine ⟨y1, fun z => ?_⟩
      obtain ⟨o, o1, o2, o3, o4⟩ := y2 z
      exact ⟨o, by omega, o2, o3, by rw [sS_nst (by omega) (fun z => hn z.1)]; exact o4⟩
    · by_cases c : o = e
      · rw [c] at hc; exact absurd hc hn
      · exact g4 z o (by omega) hc
  have hzero : nI H = 0 → post (-1) S := fun hH0 => by
    have hbit := hH.mp ((nI_eq (a := H) (b := 0) (by omega) (by omega)).mp hH0)
    exact skip S lo fX.rfl hj (fun z => by rw [(coe.mp z).1] at hbit; cases hbit) (hno hbit)
  refine ⟨by omega, by omega, r1, fun _ => ⟨fun _ => ⟨fun hH0 => ⟨ev e, rfl, e1, ?_⟩, hzero⟩, fun z => absurd z n31⟩, fun z => absurd z n28⟩
  have hbit : B.testBit 0 = true := by
    cases hB0 : B.testBit 0 with
    | true => rfl
    | false => exact absurd (congrArg nI (hH.mpr hB0)) hH0
  have hst' := hst hbit
  have nohi : ¬ hI σ b e → ¬ σ.2.2.1 38 b = 0 → res = none := fun z z0 => by
    rcases hst' with ⟨y, -⟩ | ⟨-, -, y⟩ | ⟨y, -⟩ | ⟨y, -⟩
    · rw [h38] at y
      have := (nI_eq (a := x) (b := 3) (by omega) (by omega)).mp y
      omega
    · exact y
    · exact absurd y z
    · exact absurd y z
  rw [e2]
  refine cfg hw2 e3 (fun o o' h1 h2 => hm o o' h1 (by omega)) r10 (fun o ho _ => ⟨(hevs o (by omega)).2.1, (hevs o (by omega)).2.2.1⟩) j1 (fun S1 lo1 hlo1 hF hc1 hg1 hg2 => ?_)
  have hFr : fX (rE S wt bt Ow) S S1 := hF.mono (fun s f a z => rE.ru s f a (fgE.ru s f a z))
  have hsF : sh S wt (fgE S Ow) := (rE.sh (Ow := Ow) (bt := bt) kbt).mono (fun s f a z => rE.ru s f a (fgE.ru s f a z))
  have hR1 : ruC S1 σ r ra b x k n w q dp tr ud ut := hR.fx hsF hF b4
  obtain ⟨q1, q2, q3, q4, q5, q6, q7, q8, q9, q10, q11⟩ := id hR1
  have hb1 : bI S1 ra wt bt nb n bl Ow ko Kf (kcO σ b) (kfO σ r) (cO σ r b) so (scO σ b) e := hb.fx hsF b4 hF (fun f z => by have := z.2; omega) (fun vs _ hne => hne)
  have hev1 : evR S1 σ te (ev e) e m := hsF.evr hF b4 hvs hev
  have hevs1 : ∀ o, o ≤ e → cs_k S1 (ev o) = 5 ∧ cs_i S1 400 (ev o) = nI (tm o) ∧ tm o ≤ 2000000000 ∧ cs_i S1 405 (ev o) = nI o := fun o ho => by
    obtain ⟨z1, z2, z3, z4⟩ := hevs o ho
    obtain ⟨a1, -, a3, -⟩ := hF (ev o) (by omega)
    exact ⟨a1.trans z1, (a3 400 (fun y => by have := y.2; omega)).trans z2, z3, (a3 405 (fun y => by have := y.2; omega)).trans z4⟩
  have hg1' : ∀ o, o < lo1 → cO σ r b o → tm o + w ≤ tm e := fun o ho hc => by
    by_cases c : o < lo
    · exact j5 o c hc
    · exact hg1 o (by omega) ho hc
  have hlo1e : lo1 ≤ e := hc1.1.1
  have hg2' : ∀ o, lo1 ≤ o → o ≤ e → cO σ r b o → tm e < tm o + w := fun o h1 h2 h3 => by
    by_cases c : o = e
    · rw [c]; omega
    · exact hg2 o h1 (by omega) h3
  have hN1 : x = 0 → nthI S1 ko eo (kfO σ r) (cO σ r b) Kf L e := fun z => (j2 z).fx (fun f hf => by
    obtain ⟨a1, -, a3, -, a5, -⟩ := hF (ko f) (by rw [(j1.2.1.1 f hf).1]; decide)
    exact ⟨a3 508 (fun y => by have := y.2; omega), a5 507 (fun y => by have := y.2; omega)⟩)
  have hj1' : jC S1 σ r ra b x w L Ow ko ev Kf so tm eo lo1 e (tm e) := ⟨hc1, hN1, j3, j4, hg1'⟩
  -- the end of all three
  have fin : ∀ S2 S3 Ow2 q bl2 so2 eo2, fX (rE S wt bt Ow) S S2 → oX S Ow Ow2 → cs_k S2 q = 0 → bI S2 ra wt bt nb n bl2 Ow2 ko Kf (kcO σ b) (kfO σ r) (cO σ r b) so2 (scO σ b) (e + 1) → fX (ruE S2 Ow2) S2 S3 → cI S3 ra (oU Ow2 q) ko eo2 ev (kfO σ r) (cO σ r b) Kf (amO σ b x) so2 (vV σ b) lo1 (e + 1) → (x = 0 → nthI S3 ko eo2 (kfO σ r) (cO σ r b) Kf L (e + 1)) → (x ≠ 1 → ∀ o, so2 o = none) → (x = 1 → ∀ o, o < e + 1 → cO σ r b o → so2 o ≠ none) → post (oI res) S3 := by
    intro S2 S3 Ow2 q bl2 so2 eo2 hF2 hO2 hq hb2 hF3 hc3 hn3 hs3 hs3'
    have kbt2 : cs_k S2 bt = 25 := hb2.1.1.2.2.1
    have hsF3 : sh S2 wt (ruE S2 Ow2) := (rE.sh (Ow := Ow2) (bt := bt) kbt2).mono (fun s f a z => rE.ru s f a z)
    have hb3 := hb2.fx hsF3 hb2.1.2.2.2.1 hF3 (fun f z => by have := z.2; omega) (fun vs _ hne => hne)
    have hb4 : bI S3 ra wt bt nb n bl2 (oU Ow2 q) ko Kf (kcO σ b) (kfO σ r) (cO σ r b) so2 (scO σ b) (e + 1) := hb3.cong (fun a _ z => Or.inl z) (fun _ => Iff.rfl) (fun _ _ => ⟨rfl, fun _ _ => rfl⟩) (Nat.le_refl _) (fun o h1 h2 _ => ⟨h1, h2⟩) (fun o h1 h2 _ => ⟨h2, rfl, rfl, fun _ _ => rfl⟩) (fun o a _ _ z => z)
    refine hpost S3 (oU Ow2 q) eo2 so2 lo1 bl2 (hF2.tr hF3 (fun s f a ha z => ?_)) (hO2.trans hF2 (oX.u hq)) hb4 ⟨hc3, hn3, hs3, hs3', hg1'⟩
    exact rE.sub hF2 hO2 s f a ha (rE.ru s f a z)
  have bI_nop : (cO σ r b e → so e = none) → bI S1 ra wt bt nb n bl Ow ko Kf (kcO σ b) (kfO σ r) (cO σ r b) so (scO σ b) (e + 1) := fun z => hb1.nop z
  refine ⟨q1, fun n24 => ⟨(hevs1 e (Nat.le_refl _)).1, ?_⟩, fun y24 => ?_⟩
  · -- a FIELD
    have hx12 : x = 1 ∨ x = 2 := by
      rcases q3 with y | y | y | y | y
      · exact absurd y.2 n24
      · exact Or.inl y.1
      · exact Or.inr y.1
      · omega
      · omega
    have n0 : ¬ σ.2.2.1 38 b = 0 := fun z => by
      rw [h38] at z
      have := (nI_eq (a := x) (b := 0) (by omega) (by omega)).mp z
      omega
    obtain ⟨n', l, f1, f2⟩ := q5 hx12
    refine cfi hev1 f2 f1 (fun hnone => ⟨fun _ => ?_, fun b39 e39 => (nomatch e39)⟩) (fun kk va vs hkk hsome hvs' har hvl' => ⟨fun z => (nomatch z), fun b39 e39 => ?_⟩)
    · have nh : ¬ hI σ b e := fun z => by
        rcases z with ⟨y1, y2⟩ | ⟨k', y1, -⟩
        · rcases hx12 with y | y
          · exact y1 (by rw [h38, y]; rfl)
          · exact y2 (by rw [h38, y]; rfl)
        · rw [hnone] at y1; cases y1
      exact skip S1 lo1 hF hj1' (fun z => nh (coe.mp z).2) (nohi nh n0)
    · have : va = b39 := Option.some.inj e39
      subst this
      have hva11 : cs_k S1 va = 11 := hvl'.1
      refine ⟨q1, fun n27 => ?_, fun y27 => ?_⟩
      · -- a distinct
        have hx1 : x = 1 := by
          rcases q3 with y | y | y | y | y
          · exact absurd y.2 n24
          · exact y.1
          · exact absurd y.2 n27
          · omega
          · omega
        have hhi : hI σ b e := Or.inr ⟨kk, hsome, Or.inl (by rw [h38, hx1]; rfl)⟩
        have hce : cO σ r b e := coe.mpr ⟨hbit, hhi⟩
        obtain ⟨hL1, hL2, hL3⟩ := hL (Or.inr hx1)
        obtain ⟨hm3, hm25⟩ := hmd hx1 hhi
        have h817 : cs_r S1 817 ra = some wt := hb1.1.2.2.1
        have kwt : cs_k S1 wt = 26 := hb1.1.2.2.2.1
        have nwt : cs_n S1 wt = 4 := hb1.1.2.2.2.2.1
        have i809 : cs_i S1 809 ra = nI n := q9.2.1
        have emin : (if (3 : Int32) < cs_i S1 809 ra then (3 : Int32) else cs_i S1 809 ra) = nI n := by
          rw [i809, if_neg]
          intro z
          exact absurd (nI_le (a := n) (b := 3) b6' (by omega)) (Int32.not_le.mpr z)
        refine fun r41 e41 => ⟨wt, e41.trans h817, kwt, by rw [emin, nwt]; exact nI_in (by omega) (by omega), fun b hb' => by cases hb'; exact hva11, fun S44 e44 => ?_⟩
        rw [emin, nI_clamp (by omega)] at e44
        have hF4 : fX (rowE wt) S1 S44 := by rw [e44]; exact fX.rfl.uar (Or.inl ⟨rfl, rfl⟩)
        have hb4 := hb1.fx rowE.sh kwt hF4 (fun f z => by have h9 := hb1.1.1.2.2.1; rw [z.2, kwt] at h9; cases h9) (fun vs _ hne => hne)
        have hR4 := hR1.fx rowE.sh hF4 kwt
        have hvl4 := rowE.sh.vl hF4 kwt hvl'
        -- the row of what is wanted
        obtain ⟨wr1, wr2⟩ := hwr
        have old : ∀ j, j < n → ∃ va', cs_ar S wt j = some va' ∧ vK S va' := wr1.2.2.2.2
        have row0 : ∀ j, cs_ar S1 wt j = cs_ar S wt j := fun j => (hF wt (by omega)).2.2.2.2.2.2.2 j (fun z => by have := z.2; omega)
        have row4 : ∀ j, j < n → cs_ar S44 wt j = cs_ar S wt j := fun j hj' => by rw [e44, aruar, if_neg (fun z => by omega), row0]
        have rown : cs_ar S44 wt n = some va := by rw [e44, aruar, if_pos ⟨rfl, rfl⟩]
        have vk4 : ∀ va', vK S va' → vK S44 va' ∧ vX S44 va' = vX S va' := fun va' hv => by
          obtain ⟨z1, z2⟩ := hsF.vk hF b4 hv
          obtain ⟨y1, y2⟩ := rowE.sh.vk hF4 kwt z1
          exact ⟨y1, y2.trans z2⟩
        have rx4 : ∀ j, j < n → rX S44 wt j = kcO σ b f0 j := fun j hj' => by
          obtain ⟨va', z1, z2⟩ := old j hj'
          rw [← wr2 j hj']
          unfold rX
          rw [row4 j hj', z1]
          exact (vk4 va' z2).2
        have rxn : rX S44 wt n = scO σ b e := by
          unfold rX scO
          rw [rown, hsome]
          exact (hvl4.x hte).2
        have hW4 : wnW S44 ra wt (n + 1) := by
          refine ⟨hb4.1.2.2.1, hb4.1.2.2.2.1, hb4.1.2.2.2.2.1, by omega, fun j hj' => ?_⟩
          by_cases c : j = n
          · rw [c]; exact ⟨va, rown, (hvl4.x hte).1⟩
          · obtain ⟨va', z1, z2⟩ := old j (by omega)
            exact ⟨va', by rw [row4 j (by omega)]; exact z1, (vk4 va' z2).1⟩
        have hFr4 : fX (rE S wt bt Ow) S S44 := hFr.tr hF4 (fun s f a ha z => ⟨by rw [z.2]; exact b6, Or.inl z.2⟩)
        -- cI goes along
        have hc4 : cI S44 ra Ow ko eo ev (kfO σ r) (cO σ r b) Kf (amO σ b x) so (vV σ b) lo1 e := hc1.fx hF4 (fun s f a z _ => Or.inr (Or.inr (by rw [z.2]; omega)))
        have hevs4 : ∀ o, o ≤ e → cs_k S44 (ev o) = 5 ∧ cs_i S44 405 (ev o) = nI o := fun o ho => by
          obtain ⟨z1, z2, z3, z4⟩ := hevs1 o ho
          obtain ⟨a1, -, a3, -⟩ := hF4 (ev o) (by omega)
          exact ⟨a1.trans z1, (a3 405 (fun y => absurd y.1 (by decide))).trans z4⟩
        refine ⟨hR4.1, 2, n + 16, by omega, by omega, ?_⟩
        have e809 : cs_i S44 809 ra + 1 = nI (n + 1) := by rw [hR4.2.2.2.2.2.2.2.2.1.2.1, nI_1]
        rw [e809]
        refine ckw hb4.1.1 hW4 (fun i a vs' hi ha hkw hall => ?_) (fun hnn => ⟨by omega, by omega, fun i q vs' S46 hi hfi hN => ?_⟩)
        · -- seen before
          refine ⟨hR4.1, 1, 6, by omega, by omega, ?_⟩
          obtain ⟨z1, z2, z3, z4⟩ := hb4.2.2.2 i a hi ha
          have hao : ∃ o, o < e ∧ cO σ r b o ∧ so o = some a := by
            rcases z4 with ⟨f, y1, y2⟩ | y
            · exfalso
              obtain ⟨i', vs2, y3, y4, y5, y6⟩ := hb4.2.1 f y1
              rw [← y2] at y5
              have g1 : vs2 = vs' := Option.some.inj (y5.2.1.symm.trans hkw.2.1)
              have g2 := y5.2.2.2.1
              have g3 := hkw.2.2.2.1
              rw [g1] at g2
              omega
            · exact y
          obtain ⟨o, o1, o2, o3⟩ := hao
          obtain ⟨i', vs2, y3, y4, y5, y6, y7⟩ := hb4.2.2.1 o a o1 o2 o3
          have g1 : vs2 = vs' := Option.some.inj (y5.2.1.symm.trans hkw.2.1)
          subst g1
          have same : kfO σ r o = f0 ∧ vV σ b o = vV σ b e := by
            refine ⟨hku _ _ (hKk o o1 o2.1) hKf0 (fun k' hk' => ?_), ?_⟩
            · rw [← y6 k' hk', hall k' (by omega), rx4 k' hk']
            · refine (hvu hx1 o e (by omega) (Nat.le_refl _) o2.2.2 hhi).mp ?_
              rw [← y7, hall n (by omega), rxn]
          have hbn : bI S44 ra wt bt nb n bl Ow ko Kf (kcO σ b) (kfO σ r) (cO σ r b) (soU so e (some a)) (scO σ b) (e + 1) := by
            have h0 : bI S44 ra wt bt nb n bl Ow ko Kf (kcO σ b) (kfO σ r) (cO σ r b) (soU so e (some a)) (scO σ b) e := hb4.cong (fun a _ z => z) (fun _ => Iff.rfl) (fun _ _ => ⟨rfl, fun _ _ => rfl⟩) (Nat.le_refl _) (fun o h1 h2 _ => ⟨h1, h2⟩) (fun o h1 h2 _ => ⟨h2, (soU_o (by omega)).symm, rfl, fun _ _ => rfl⟩) (fun o a h1 _ z => by rw [soU_o (by omega)] at z; exact z)
            exact h0.again hi ha hkw hce soU_r (fun k' hk' => by rw [hall k' (by omega), rx4 k' hk', kfe]) (by rw [hall n (by omega), rxn])
          have hcn : cI S44 ra Ow ko eo ev (kfO σ r) (cO σ r b) Kf (amO σ b x) (soU so e (some a)) (vV σ b) lo1 e := hc4.cong (fun _ _ => Iff.rfl) (fun o ho _ => ⟨rfl, rfl, rfl, rfl, (soU_o (by omega)).symm, rfl⟩) (fun _ => Iff.rfl) (fun _ _ => rfl) (fun _ _ z => z)
          have h511 := hcn.2.2.2.2.2.2.1 o a o1 o2 (by rw [soU_o (by omega)]; exact o3)
          have hiff := hcn.2.2.2.2.2.2.2
          have e803 : cs_i S44 803 ra = nI L := by rw [hR4.2.2.2.1]; exact hL3
          have hcall := cfd (G := G) (mc := 1) (ms := 6) (post := fun r47 S47 => post r47 S47) (c := a) (L := L) hcn he hce (by rw [kfe]; exact hKf0) (hvl e (Nat.le_refl _)) (by unfold amO; rw [if_neg (by omega)]) soU_r ⟨z2, z1, h511, fun o' ho' hc' => by
            have := hiff o o' a o1 ho' o2 hc' (by rw [soU_o (by omega)]; exact o3)
            rw [this, same.1, same.2, kfe]
            exact ⟨fun z => ⟨z.1.symm, z.2.symm⟩, fun z => ⟨z.1.symm, z.2.symm⟩⟩⟩ (by omega) (by omega) e803 hL2 hevs4 (fun S3 q oo hq hq4 hI3 hF3 hnx => ?_)
          · rw [kfe] at hcall; exact hcall
          · have hstn := st_n (X := (L : Int) ≤ sS (dV (cO σ r b) (kfO σ r) (soU so e (some a)) (vV σ b) lo1 (e + 1) (kfO σ r e)) (fun _ => 1) 0 32000) (o := oo) (f := f0) (res := res) hky he (by omega) (Or.inl (by rw [h38, hx1]; rfl)) hhi hg1' hg2' hst' (by rw [kfe] at hnx; exact hnx) (by
              rw [dis_w (so := soU so e (some a)) hky he (by omega) hg1' hg2' (fun o ho hc => by
                by_cases c : o = e
                · rw [c, soU_r]; exact fun z => nomatch z
                · rw [soU_o c]; exact j4 hx1 o (by omega) hc), kfe, hL3, nI_toInt (by omega)]
              exact ⟨fun z => ⟨fun y => by rw [h38, hx1] at y; exact absurd y (by decide), fun _ => z⟩, fun z => z.2 (by rw [h38, hx1]; rfl)⟩)
            show post _ S3
            rw [hstn]
            exact fin S44 S3 Ow q bl _ _ hFr4 oX.rfl hq hbn hF3 hI3 (fun z => by omega) (fun z => absurd hx1 z) (fun _ o ho hc => by
              by_cases c : o = e
              · rw [c, soU_r]; exact fun z => nomatch z
              · rw [soU_o c]; exact j4 hx1 o (by omega) hc)
        · -- seen for the first time
          have hFN := hN.2.2.2.1
          have hsN : sh S44 wt (fun s f a => s = 5 ∧ f = i ∧ a = bt) := (hb4.ins hW4 hi hfi hN).1
          have hqd : cs_k S44 q = 0 := hN.1
          have hOv : oX S Ow (oV Ow q vs') := ⟨fun a z => Or.inl z, fun a ha z => by
            rcases z with z | z | z
            · exact z
            · rw [z] at ha; exact absurd (hFr4.dead hqd) ha
            · rw [z] at ha; exact absurd (hFr4.dead hN.2.1) ha⟩
          have noq : ∀ o, o < e → cO σ r b o → so o ≠ some q := fun o ho hc z => by
            have := (hc4.2.2.1 o ho hc).2.2.1 q z
            rw [hqd] at this; exact absurd this.1 (by decide)
          have hbn : bI S46 ra wt bt nb n (blU bl i q) (oV Ow q vs') ko Kf (kcO σ b) (kfO σ r) (cO σ r b) (soU so e (some q)) (scO σ b) (e + 1) := by
            have h0 : bI S44 ra wt bt nb n bl Ow ko Kf (kcO σ b) (kfO σ r) (cO σ r b) (soU so e (some q)) (scO σ b) e := hb4.cong (fun a _ z => z) (fun _ => Iff.rfl) (fun _ _ => ⟨rfl, fun _ _ => rfl⟩) (Nat.le_refl _) (fun o h1 h2 _ => ⟨h1, h2⟩) (fun o h1 h2 _ => ⟨h2, (soU_o (by omega)).symm, rfl, fun _ _ => rfl⟩) (fun o a h1 _ z => by rw [soU_o (by omega)] at z; exact z)
            exact h0.seen hW4 hi hfi hN hce soU_r (fun k' hk' => by rw [rx4 k' hk', kfe]) rxn
          have hc5 : cI S46 ra (oV Ow q vs') ko eo ev (kfO σ r) (cO σ r b) Kf (amO σ b x) (soU so e (some q)) (vV σ b) lo1 e := by
            have h0 := hc4.fx hFN (fun s f a z _ => Or.inr (Or.inr (by rw [z.2.2]; have := hb4.1.1.2.2.1; omega)))
            exact h0.cong (fun _ _ => Iff.rfl) (fun o ho _ => ⟨rfl, rfl, rfl, rfl, (soU_o (by omega)).symm, rfl⟩) (fun _ => Iff.rfl) (fun _ _ => rfl) (fun _ _ z => Or.inl z)
          have hR6 := hR4.fx hsN hFN hb4.1.2.2.2.1
          have hevs6 : ∀ o, o ≤ e → cs_k S46 (ev o) = 5 ∧ cs_i S46 405 (ev o) = nI o := fun o ho => by
            obtain ⟨z1, z2⟩ := hevs4 o ho
            obtain ⟨a1, -, a3, -⟩ := hFN (ev o) (by omega)
            exact ⟨a1.trans z1, (a3 405 (fun y => absurd y.1 (by decide))).trans z2⟩
          have hFr6 : fX (rE S wt bt Ow) S S46 := hFr4.tr hFN (fun s f a ha z => ⟨by rw [z.2.2]; exact b2, Or.inr (Or.inl z.2.2)⟩)
          refine ⟨hR6.1, 1, 6, by omega, by omega, ?_⟩
          have e803 : cs_i S46 803 ra = nI L := by rw [hR6.2.2.2.1]; exact hL3
          have hcall := cfd (G := G) (mc := 1) (ms := 6) (post := fun r47 S47 => post r47 S47) (c := q) (L := L) hc5 he hce (by rw [kfe]; exact hKf0) (hvl e (Nat.le_refl _)) (by unfold amO; rw [if_neg (by omega)]) soU_r ⟨hN.2.2.2.2.1, Or.inr (Or.inl rfl), by
            rw [hN.2.2.2.2.2.2.2.2.2.2.2.2.2.1 511 (by decide) (by decide), sS_zero (P := cA (cO σ r b) (soU so e (some q)) q) _ (fun o _ ho z => by
              have := z.2
              rw [soU_o (by omega)] at this
              exact noq o (by omega) z.1 this)]
            rfl, fun o' ho' hc' => by
            rw [soU_o (by omega), kfe]
            refine ⟨fun z => absurd z (noq o' ho' hc'), fun z => ?_⟩
            exfalso
            cases hs' : so o' with
            | none => exact j4 hx1 o' ho' hc' hs'
            | some a' =>
              obtain ⟨i', vs2, y3, y4, y5, y6, y7⟩ := hb4.2.2.1 o' a' ho' hc' hs'
              refine hnn i' a' vs2 y3 y4 y5 (fun k' hk' => ?_)
              by_cases c : k' = n
              · rw [c, y7, rxn]
                exact (hvu hx1 o' e (by omega) (Nat.le_refl _) hc'.2.2 hhi).mpr z.2
              · rw [y6 k' (by omega), rx4 k' (by omega), z.1]⟩ (by omega) (by omega) e803 hL2 hevs6 (fun S3 q' oo hq' hq4 hI3 hF3 hnx => ?_)
          · rw [kfe] at hcall; exact hcall
          · have hstn := st_n (X := (L : Int) ≤ sS (dV (cO σ r b) (kfO σ r) (soU so e (some q)) (vV σ b) lo1 (e + 1) (kfO σ r e)) (fun _ => 1) 0 32000) (o := oo) (f := f0) (res := res) hky he (by omega) (Or.inl (by rw [h38, hx1]; rfl)) hhi hg1' hg2' hst' (by rw [kfe] at hnx; exact hnx) (by
              rw [dis_w (so := soU so e (some q)) hky he (by omega) hg1' hg2' (fun o ho hc => by
                by_cases c : o = e
                · rw [c, soU_r]; exact fun z => nomatch z
                · rw [soU_o c]; exact j4 hx1 o (by omega) hc), kfe, hL3, nI_toInt (by omega)]
              exact ⟨fun z => ⟨fun y => by rw [h38, hx1] at y; exact absurd y (by decide), fun _ => z⟩, fun z => z.2 (by rw [h38, hx1]; rfl)⟩)
            show post _ S3
            rw [hstn]
            exact fin S46 S3 (oV Ow q vs') q' (blU bl i q) _ _ hFr6 hOv hq' hbn hF3 hI3 (fun z => by omega) (fun z => absurd hx1 z) (fun _ o ho hc => by
              by_cases c : o = e
              · rw [c, soU_r]; exact fun z => nomatch z
              · rw [soU_o c]; exact j4 hx1 o (by omega) hc)
      · -- a sum
        have hx2' : x = 2 := by
          rcases q3 with y | y | y | y | y
          · exact absurd y.2 n24
          · rw [y.2] at y27; exact absurd y27 (by decide)
          · exact y.1
          · omega
          · omega
        have h38' : σ.2.2.1 38 b = 2 := by rw [h38, hx2']; rfl
        refine ⟨1, 6, by omega, by omega, ?_⟩
        by_cases hs0 : cs_i S1 1000 va = 0
        · have h14 : σ.2.2.1 14 (8 * e + kk) = 0 := hvl'.2.1.symm.trans hs0
          have hhi : hI σ b e := Or.inr ⟨kk, hsome, Or.inr h14⟩
          have hce : cO σ r b e := coe.mpr ⟨hbit, hhi⟩
          have ham : cs_i S1 1001 va = amO σ b x e := by
            unfold amO
            rw [if_pos hx2', hsome]
            exact hvl'.2.2.1
          have hcall := cfs (G := G) (mc := 1) (ms := 6) (post := fun r49 S49 => post r49 S49) (Ls := σ.2.2.1 39 b) hc1 he hce (by rw [kfe]; exact hKf0) (hvl e (Nat.le_refl _)) hva11 hs0 ham (fun o _ => j3 (by omega) o) (by omega) (by omega) q4 (fun o ho => ⟨(hevs1 o ho).1, (hevs1 o ho).2.2.2⟩) (fun S3 q oo hq hq4 hI3 hF3 hnx => ?_)
          · rw [kfe] at hcall; exact hcall
          · have hstn := st_n (X := (σ.2.2.1 39 b).toInt ≤ sS (cK (cO σ r b) (kfO σ r) (kfO σ r e)) (fun o => (amO σ b x o).toInt) lo1 (e + 1 - lo1)) (o := oo) (f := f0) (res := res) hky he (by omega) (Or.inr h38') hhi hg1' hg2' hst' (by rw [kfe] at hnx; exact hnx) (by
              rw [sum_w hky he (by omega) (by omega) hg1' hg2' h38', kfe, hx2']
              exact ⟨fun z => ⟨fun _ => z, fun y => by rw [h38'] at y; exact absurd y (by decide)⟩, fun z => z.1 h38'⟩)
            show post _ S3
            rw [hstn]
            exact fin S1 S3 Ow q bl so _ hFr oX.rfl hq (bI_nop (fun _ => j3 (by omega) e)) hF3 hI3 (fun z => by omega) j3 (fun z => by omega)
        · refine ⟨va, rfl, hva11, fun z => absurd z hs0, fun _ => ?_⟩
          have nh : ¬ hI σ b e := fun z => by
            rcases z with ⟨y1, y2⟩ | ⟨k', y1, y2⟩
            · exact y2 h38'
            · rw [hsome] at y1
              cases y1
              rcases y2 with y2 | y2
              · rw [h38'] at y2; exact absurd y2 (by decide)
              · exact hs0 (hvl'.2.1.trans y2)
          exact skip S1 lo1 hF hj1' (fun z => nh (coe.mp z).2) (nohi nh n0)
  · -- a count
    have hx0 : x = 0 := by
      rcases q3 with y | y | y | y | y
      · exact y.1
      · rw [y.2] at y24; exact absurd y24 (by decide)
      · rw [y.2] at y24; exact absurd y24 (by decide)
      · omega
      · omega
    have h38' : σ.2.2.1 38 b = 0 := by rw [h38, hx0]; rfl
    have hhi : hI σ b e := Or.inl ⟨by rw [h38']; decide, by rw [h38']; decide⟩
    have hce : cO σ r b e := coe.mpr ⟨hbit, hhi⟩
    obtain ⟨hL1, hL2, hL3⟩ := hL (Or.inl hx0)
    refine ⟨1, 6, by omega, by omega, ?_⟩
    have hcall := cfc (G := G) (mc := 1) (ms := 6) (post := fun r50 S50 => post r50 S50) (L := L) (w := w) (tm := tm) hc1 (hN1 hx0) he hce (by rw [kfe]; exact hKf0) (hvl e (Nat.le_refl _)) (by unfold amO; rw [if_neg (by omega)]) (fun o _ => j3 (by omega) o) (by omega) (by omega) hL1 hL2 (by rw [q4]; exact hL3) q10 hw2 hevs1 (fun S3 q oo hq hq4 hI3 hN3 hF3 hoo hck hmin => ?_)
    · rw [kfe] at hcall; exact hcall
    · rw [kfe] at hck hmin
      have hstn := st_c (L := L) (res := res) hky he (by omega) h38' hL3 hL1 hL2 hm hst' hoo hck hmin
      show post _ S3
      rw [kfe, hstn]
      exact fin S1 S3 Ow q bl so _ hFr oX.rfl hq (bI_nop (fun _ => j3 (by omega) e)) hF3 hI3 (fun _ => hN3) j3 (fun z => by omega)
end CLC
