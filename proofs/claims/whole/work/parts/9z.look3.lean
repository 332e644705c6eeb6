/-! ===== one rule looks at one event: chains, lacks ===== -/
theorem chE.ru {S : cs_S} {wt bt : Nat} {Ow : Nat → Prop} : ∀ s f a, chE S Ow s f a → rE S wt bt Ow s f a := fun s f a h => ⟨h.1, by
  rcases h.2 with z | z
  · exact Or.inr (Or.inr (Or.inr (Or.inl ⟨z.1, by omega⟩)))
  · exact Or.inr (Or.inr (Or.inr (Or.inr (Or.inr z.1))))⟩
theorem lcE.ru {S : cs_S} {wt bt : Nat} {Ow : Nat → Prop} : ∀ s f a, lcE S Ow s f a → rE S wt bt Ow s f a := fun s f a h => ⟨h.1, by
  rcases h.2 with z | z | z
  · exact Or.inr (Or.inr (Or.inl ⟨z.1, by omega⟩))
  · exact Or.inr (Or.inr (Or.inr (Or.inl ⟨z.1, by omega⟩)))
  · exact Or.inr (Or.inr (Or.inr (Or.inr (Or.inl ⟨z.1, by omega⟩))))⟩
def c4O (σ : rf_S) (r o : Nat) : Prop := hkO σ r o ∧ σ.2.2.1 64 (4000 * r + o) &&& 1 = 1
section CLH
variable {G : Nat → Nat} {S : cs_S} {σ : rf_S} {r ra b x k n w q wt bt nb e f0 B H te m mc ms lo : Nat} {dp : Nat → Nat} {tr : (c : Nat) → cT (dp c)} {ud : Nat} {ut : Option (cT ud)} {bl : Nat → List Nat} {Ow Kf Kf' : Nat → Prop} {ko ev eo tm sr an : Nat → Nat} {so : Nat → Option Nat} {res : Option Nat} {post : Int32 → cs_S → Prop}
theorem clH (hR : ruC S σ r ra b x k n w q dp tr ud ut) (hx3 : x = 3) (h38 : σ.2.2.1 38 b = 3) (h40 : σ.2.2.1 40 b = nI k) (hk1 : 1 ≤ k) (hk5 : k ≤ 5) (hud : ut ≠ none → ud ≤ 14) (hw1 : 1 ≤ w) (hw2 : w ≤ 1000000) (he : e < 4000) (hf0 : f0 ≤ e) (hk63 : σ.2.2.1 63 (4000 * r + e) = nI f0) (hk64 : σ.2.2.1 64 (4000 * r + e) = nI B) (hB : B < 64) (hky : kyO σ r (e + 1)) (hH32 : H < 32) (hH : ∀ c, c < k → H.testBit c = B.testBit c) (hU : B.testBit 5 = true ↔ unT σ e ud ut)
    (hb : bI S ra wt bt nb n bl Ow ko Kf' (kcO σ b) (kfO σ r) (cO σ r b) so (scO σ b) e) (hso : ∀ o, so o = none) (hKf : ∀ f, Kf' f ↔ Kf f ∨ f = f0) (hK4 : ∀ f, Kf f → f < e) (hkn : ¬ Kf f0 → f0 = e) (hj : chI S Ow ko ev sr Kf (bM σ r) (bU σ r) k e) (hkoi : cs_k S (ko f0) = 6 ∧ Ow (ko f0)) (hnew : ¬ Kf f0 → cs_r S 512 (ko f0) = none ∧ ∀ f, Kf f → ko f ≠ ko f0)
    (hev : evR S σ te (ev e) e m) (hte : te ≤ 24000) (hmk : cs_i S 402 (ev e) = σ.2.2.1 10 e) (hevs : ∀ o, o ≤ e → cs_k S (ev o) = 5 ∧ cs_i S 400 (ev o) = nI (tm o) ∧ tm o ≤ 2000000000 ∧ cs_i S 405 (ev o) = nI o) (hst : B.testBit (k - 1) = true → stO σ r b e f0 w tm res) (hno : B.testBit (k - 1) = false → res = none) (hmc : 1 ≤ mc ∧ 5 ≤ ms)
    (hpost : ∀ S' Ow' sr', fX (rE S wt bt Ow) S S' → oX S Ow Ow' → bI S' ra wt bt nb n bl Ow' ko Kf' (kcO σ b) (kfO σ r) (cO σ r b) so (scO σ b) (e + 1) → chI S' Ow' ko ev sr' Kf' (bM σ r) (bU σ r) k (e + 1) → post (oI res) S') :
    w_X7_look_52 post G mc ms S 0 0 ra (some (ko f0)) (some (ev e)) (nI H) := by
  obtain ⟨r1, r2, r3, r4, r5, r6, r7, r8, r9, r10, r11⟩ := id hR
  have y28 : cs_i S 802 ra = 28 := by
    rcases r3 with y | y | y | y | y
    · omega
    · omega
    · omega
    · exact y.2
    · omega
  have kbt : cs_k S bt = 25 := hb.1.1.2.2.1
  have b4 : cs_k S wt = 26 := hb.1.2.2.2.1
  have run : ∀ (br : Bool) (x4 : Int32), ((br = true → ¬ x4 = 0) ∧ (br = false → x4 = 0)) → (B.testBit 5 = true ↔ br = true) → cs_k S ra = 9 ∧ ∃ m54 n54, 0 + m54 ≤ mc ∧ 0 + n54 ≤ ms ∧ wp_X7_findChain (fun r54 S54 => post r54 S54) G m54 n54 S ra (some (ko f0)) (some (ev e)) (nI H) x4 := by
    intro br x4 hbr hb5
    refine ⟨r1, 1, 5, by omega, by omega, ?_⟩
    refine cch (Kf' := Kf') (br := br) hj hKf hkoi (fun z => ⟨(hnew z).1, (hnew z).2, fun j o ho y => ?_⟩) r1 r6 hk1 hk5 (by omega) (hevs e (Nat.le_refl _)).1 hbr (by omega) (by omega) (fun j hj' => ?_) ?_ (fun f hf hne => ⟨fun j y => ?_, fun y => ?_⟩) (fun S' Ow' sr' res' hF hO hI' hres => ?_)
    · rcases hky o (by omega) with y1 | ⟨g, y1, y2, y3⟩
      · rw [y.1] at y1; exact absurd y1 (nI_m f0 (by omega))
      · rw [y.1] at y2
        have := (nI_eq (a := f0) (b := g) (by omega) (by omega)).mp y2
        have := hkn z
        omega
    · unfold bM
      rw [hk63, hk64, (bt_c B hB j (by omega)).1, hH j hj']
      exact ⟨fun z => by
        cases h9 : B.testBit j with
        | true => rfl
        | false => exact absurd h9 z.2, fun z => ⟨rfl, by rw [z]; exact fun y => nomatch y⟩⟩
    · unfold bU
      rw [hk63, hk64, (bt_a B hB).2.2.2.2.1, ← hb5]
      exact ⟨fun z => by
        cases h9 : B.testBit 5 with
        | true => rfl
        | false => exact absurd h9 z.2, fun z => ⟨rfl, by rw [z]; exact fun y => nomatch y⟩⟩
    · have := y.1
      rw [hk63] at this
      have h1 := hK4 f hf
      have := (nI_eq (a := f0) (b := f) (by omega) (by omega)).mp this
      omega
    · have := y.1
      rw [hk63] at this
      have h1 := hK4 f hf
      have := (nI_eq (a := f0) (b := f) (by omega) (by omega)).mp this
      omega
    · have hFr : fX (rE S wt bt Ow) S S' := hF.mono (fun s f a z => chE.ru s f a z)
      have hsF : sh S wt (chE S Ow) := (rE.sh (Ow := Ow) (bt := bt) kbt).mono (fun s f a z => chE.ru s f a z)
      have hb1 := ((hb.fx hsF b4 hF (fun f z => by have := z.2; omega) (fun vs _ hne => hne)).nop (fun _ => hso e)).cong (Ow' := Ow') (fun a _ z => hO.1 a z) (fun _ => Iff.rfl) (fun _ _ => ⟨rfl, fun _ _ => rfl⟩) (Nat.le_refl _) (fun o h1 h2 _ => ⟨h1, h2⟩) (fun o h1 h2 _ => ⟨h2, rfl, rfl, fun _ _ => rfl⟩) (fun o a _ _ z => z)
      have hp := hpost S' Ow' sr' hFr hO hb1 hI'
      have hHk : H.testBit (k - 1) = B.testBit (k - 1) := hH (k - 1) (by omega)
      have ek : ∀ k', σ.2.2.1 40 b = nI k' → nI k' = nI k := fun k' z => z.symm.trans h40
      -- what the row says
      have says : ∀ s, H.testBit (k - 1) = true → rwO (chV ev (bM σ r f0) (bU σ r f0) e) H k (ev e) = some s → ∃ o, o ≤ e ∧ csF σ r f0 k e = some o ∧ clr σ r f0 o e ∧ s = ev o := fun s hbit hs => by
        unfold rwO at hs
        unfold csF
        by_cases c : k = 1
        · rw [if_pos c] at hs
          cases hs
          rw [if_pos c]
          exact ⟨e, Nat.le_refl _, rfl, fun o h1 h2 => absurd h1 (by omega), rfl⟩
        · rw [if_neg c, if_pos hbit] at hs
          rw [if_neg c]
          obtain ⟨o, o1, o2, o3⟩ := chV_of hs
          have := cfn_lt _ _ _ o1
          exact ⟨o, by omega, o1, o2, o3⟩
      have back : ∀ o, H.testBit (k - 1) = true → csF σ r f0 k e = some o → clr σ r f0 o e → rwO (chV ev (bM σ r f0) (bU σ r f0) e) H k (ev e) = some (ev o) := fun o hbit ho hc => by
        unfold csF at ho
        unfold rwO
        by_cases c : k = 1
        · rw [if_pos c] at ho ⊢
          cases ho; rfl
        · rw [if_neg c] at ho
          rw [if_neg c, if_pos hbit]
          exact chV_y ho hc
      obtain ⟨e1, e2, e3, e4⟩ := hevs e (Nat.le_refl _)
      have tim : ∀ o, o ≤ e → (¬ cs_i S 400 (ev o) ≤ cs_i S 400 (ev e) - cs_i S 810 ra ↔ tm e < tm o + w) := fun o ho => by
        obtain ⟨o1, o2, o3, o4⟩ := hevs o ho
        rw [o2, e2, r10, (win e3 o3 hw2).2]
        omega
      have ans : res' = oI res := by
        rcases hres with ⟨z1, s, z2, z3, z4, z5⟩ | ⟨z1, z2⟩
        · obtain ⟨o, o1, o2, o3, o4⟩ := says s z1 z2
          rw [o4] at z4 z5
          have ht := (tim o o1).mp z4
          rcases hst (by rw [← hHk]; exact z1) with ⟨-, k', y0, y1, y2⟩ | ⟨y, -⟩ | ⟨-, y, -⟩ | ⟨-, y, -⟩
          · have hkk : k' = k := (nI_eq (by omega) (by omega)).mp (ek k' y1)
            subst hkk
            rcases y2 with ⟨o', w1, w2, w3, w4⟩ | ⟨w1, w2⟩
            · rw [o2] at w2
              cases w2
              rw [w1, z5]; exact (hevs o o1).2.2.2
            · exact absurd o3 (w2 o o2 ht)
          · exact absurd h38 y
          · rw [h38] at y; exact absurd y (by decide)
          · rw [h38] at y; rcases y with y | y <;> exact absurd y (by decide)
        · rw [z1]
          cases hbk : B.testBit (k - 1) with
          | false => rw [hno hbk]; rfl
          | true =>
            rcases hst hbk with ⟨-, k', y0, y1, y2⟩ | ⟨y, -⟩ | ⟨-, y, -⟩ | ⟨-, y, -⟩
            · have hkk : k' = k := (nI_eq (by omega) (by omega)).mp (ek k' y1)
              subst hkk
              rcases y2 with ⟨o', w1, w2, w3, w4⟩ | ⟨w1, w2⟩
              · exfalso
                refine z2 ⟨hHk.trans hbk, ev o', back o' (hHk.trans hbk) w2 w4, ?_⟩
                have ho' : o' ≤ e := by
                  unfold csF at w2
                  by_cases c : k' = 1
                  · rw [if_pos c] at w2; cases w2; omega
                  · rw [if_neg c] at w2
                    have := cfn_lt _ _ _ w2
                    omega
                exact (tim o' ho').mpr w3
              · rw [w1]; rfl
            · exact absurd h38 y
            · rw [h38] at y; exact absurd y (by decide)
            · rw [h38] at y; rcases y with y | y <;> exact absurd y (by decide)
      show post res' S'
      rw [ans]; exact hp
  refine ⟨by omega, by omega, r1, fun z => absurd y28 z, fun _ r52 e52 => ?_⟩
  rcases r8 with ⟨u1, u2⟩ | ⟨t, a, u1, u2, u3, u4⟩
  · rw [e52, u2]
    refine ⟨1, by omega, ?_⟩
    show wpb_X1_holds _ G _ S none (some (ev e)) 0
    refine ⟨fun _ => run false 0 ⟨fun z => (nomatch z), fun _ => rfl⟩ ?_, fun b z => (nomatch z)⟩
    rw [hU, u1]
    exact ⟨fun z => z.elim, fun z => (nomatch z)⟩
  · rw [e52, u2]
    have hd := hud (by rw [u1]; exact fun z => nomatch z)
    refine ⟨29, by omega, cEv hev (by omega) hte hmk ud t a 0 29 _ u3 u4 (by omega) (by omega) (fun hy => run true 1 ⟨fun _ => by decide, fun z => (nomatch z)⟩ ?_) (fun hn => run false 0 ⟨fun z => (nomatch z), fun _ => rfl⟩ ?_)⟩
    · rw [hU, u1]
      exact ⟨fun _ => rfl, fun _ => hy⟩
    · rw [hU, u1]
      exact ⟨fun z => absurd z hn, fun z => (nomatch z)⟩
/-- a lack: answers and waits -/
theorem clL (hR : ruC S σ r ra b x k n w q dp tr ud ut) (hx4 : x = 4) (he : e < 4000) (hf0 : f0 ≤ e) (hk63 : σ.2.2.1 63 (4000 * r + e) = nI f0) (hk64 : σ.2.2.1 64 (4000 * r + e) = nI B) (hB : B < 64) (hH32 : H < 32) (hH : ∀ c, c < 2 → H.testBit c = B.testBit c)
    (hb : bI S ra wt bt nb n bl Ow ko Kf (kcO σ b) (kfO σ r) (cO σ r b) so (scO σ b) e) (hso : ∀ o, so o = none) (hKf0 : Kf f0) (hj : lcI S ra Ow ko eo ev (kfO σ r) an (c4O σ r) Kf lo e)
    (hevs : cs_k S (ev e) = 5 ∧ cs_i S 405 (ev e) = nI e) (hmc : 1 ≤ mc ∧ 6 ≤ ms)
    (hpost : ∀ S' Ow' eo', fX (rE S wt bt Ow) S S' → oX S Ow Ow' → bI S' ra wt bt nb n bl Ow' ko Kf (kcO σ b) (kfO σ r) (cO σ r b) so (scO σ b) (e + 1) → lcI S' ra Ow' ko eo' ev (kfO σ r) (if B.testBit 1 = true then prU an f0 e else an) (c4O σ r) Kf lo (e + 1) → post (-1) S') :
    w_X7_look_52 post G mc ms S 0 0 ra (some (ko f0)) (some (ev e)) (nI H) := by
  obtain ⟨r1, r2, r3, r4, r5, r6, r7, r8, r9, r10, r11⟩ := id hR
  have y31 : cs_i S 802 ra = 31 := by
    rcases r3 with y | y | y | y | y
    · omega
    · omega
    · omega
    · omega
    · exact y.2
  have kbt : cs_k S bt = 25 := hb.1.1.2.2.1
  have b4 : cs_k S wt = 26 := hb.1.2.2.2.1
  have kfe : kfO σ r e = f0 := by unfold kfO; rw [hk63, nI_clamp (by omega)]
  have coe : c4O σ r e ↔ H.testBit 0 = true := by
    unfold c4O hkO
    rw [hk63, hk64, (bt_a B hB).2.1, hH 0 (by omega)]
    exact ⟨fun z => z.2, fun z => ⟨nI_m f0 (by omega), z⟩⟩
  refine ⟨by omega, by omega, r1, fun _ => ⟨fun z => absurd y31 z, fun _ => ⟨1, 6, by omega, by omega, ?_⟩⟩, fun z => by rw [y31] at z; exact absurd z (by decide)⟩
  have hcall := cws (G := G) (mc := 1) (ms := 6) (H := H) (post := fun S51 => post (-1) S51) hj he (by omega) coe (by rw [kfe]; exact hKf0) hevs.1 hevs.2 (by omega) (by omega) (fun S' Ow' eo' hF hO hI => ?_)
  · rw [kfe] at hcall; exact hcall
  · have hFr : fX (rE S wt bt Ow) S S' := hF.mono (fun s f a z => lcE.ru s f a z)
    have hsF : sh S wt (lcE S Ow) := (rE.sh (Ow := Ow) (bt := bt) kbt).mono (fun s f a z => lcE.ru s f a z)
    have hb1 := ((hb.fx hsF b4 hF (fun f z => by have := z.2; omega) (fun vs _ hne => hne)).nop (fun _ => hso e)).cong (Ow' := Ow') (fun a _ z => hO.1 a z) (fun _ => Iff.rfl) (fun _ _ => ⟨rfl, fun _ _ => rfl⟩) (Nat.le_refl _) (fun o h1 h2 _ => ⟨h1, h2⟩) (fun o h1 h2 _ => ⟨h2, rfl, rfl, fun _ _ => rfl⟩) (fun o a _ _ z => z)
    rw [hH 1 (by omega), kfe] at hI
    exact hpost S' Ow' eo' hFr hO hb1 hI
end CLH
