theorem rfi_sk1 : ∀ i, 0 ≤ i → i < 1 → ∀ t, tyX12 i ≠ .array t := by
  intro i h1 h2 t
  have : i = 0 := by omega
  rcases this with rfl <;> exact fun h => by cases h
theorem rfi_sk8 : ∀ i, 2 ≤ i → i < 8 → ∀ t, tyX12 i ≠ .array t := by
  intro i h1 h2 t
  have : i = 2 ∨ i = 3 ∨ i = 4 ∨ i = 5 ∨ i = 6 ∨ i = 7 := by omega
  rcases this with rfl | rfl | rfl | rfl | rfl | rfl <;> exact fun h => by cases h
theorem rfi_sk9 : ∀ i, 9 ≤ i → i < 9 → ∀ t, tyX12 i ≠ .array t := fun i h1 h2 => absurd h2 (by omega)
theorem rfi_sk10 : ∀ i, 10 ≤ i → i < 10 → ∀ t, tyX12 i ≠ .array t := fun i h1 h2 => absurd h2 (by omega)
theorem rfi_sk11 : ∀ i, 11 ≤ i → i < 11 → ∀ t, tyX12 i ≠ .array t := fun i h1 h2 => absurd h2 (by omega)
theorem rfi_sk12 : ∀ i, 12 ≤ i → i < 12 → ∀ t, tyX12 i ≠ .array t := fun i h1 h2 => absurd h2 (by omega)
theorem rfi_sk13 : ∀ i, 13 ≤ i → i < 13 → ∀ t, tyX12 i ≠ .array t := fun i h1 h2 => absurd h2 (by omega)
theorem rfi_sk14 : ∀ i, 14 ≤ i → i < 14 → ∀ t, tyX12 i ≠ .array t := fun i h1 h2 => absurd h2 (by omega)
theorem rfi_sk15 : ∀ i, 15 ≤ i → i < 15 → ∀ t, tyX12 i ≠ .array t := fun i h1 h2 => absurd h2 (by omega)
theorem rfi_sk16 : ∀ i, 16 ≤ i → i < 16 → ∀ t, tyX12 i ≠ .array t := fun i h1 h2 => absurd h2 (by omega)
theorem rfi_sk17 : ∀ i, 17 ≤ i → i < 17 → ∀ t, tyX12 i ≠ .array t := fun i h1 h2 => absurd h2 (by omega)
theorem rfi_sk18 : ∀ i, 18 ≤ i → i < 18 → ∀ t, tyX12 i ≠ .array t := fun i h1 h2 => absurd h2 (by omega)
theorem rfi_sk24 : ∀ i, 19 ≤ i → i < 24 → ∀ t, tyX12 i ≠ .array t := by
  intro i h1 h2 t
  have : i = 19 ∨ i = 20 ∨ i = 21 ∨ i = 22 ∨ i = 23 := by omega
  rcases this with rfl | rfl | rfl | rfl | rfl <;> exact fun h => by cases h
theorem rfi_sk25 : ∀ i, 25 ≤ i → i < 25 → ∀ t, tyX12 i ≠ .array t := fun i h1 h2 => absurd h2 (by omega)
theorem rfi_sk35 : ∀ i, 26 ≤ i → i < 35 → ∀ t, tyX12 i ≠ .array t := by
  intro i h1 h2 t
  have : i = 26 ∨ i = 27 ∨ i = 28 ∨ i = 29 ∨ i = 30 ∨ i = 31 ∨ i = 32 ∨ i = 33 ∨ i = 34 := by omega
  rcases this with rfl | rfl | rfl | rfl | rfl | rfl | rfl | rfl | rfl <;> exact fun h => by cases h
theorem rfi_sk36 : ∀ i, 36 ≤ i → i < 36 → ∀ t, tyX12 i ≠ .array t := fun i h1 h2 => absurd h2 (by omega)
theorem rfi_sk37 : ∀ i, 37 ≤ i → i < 37 → ∀ t, tyX12 i ≠ .array t := fun i h1 h2 => absurd h2 (by omega)
theorem rfi_sk38 : ∀ i, 38 ≤ i → i < 38 → ∀ t, tyX12 i ≠ .array t := fun i h1 h2 => absurd h2 (by omega)
theorem rfi_sk39 : ∀ i, 39 ≤ i → i < 39 → ∀ t, tyX12 i ≠ .array t := fun i h1 h2 => absurd h2 (by omega)
theorem rfi_sk40 : ∀ i, 40 ≤ i → i < 40 → ∀ t, tyX12 i ≠ .array t := fun i h1 h2 => absurd h2 (by omega)
theorem rfi_sk41 : ∀ i, 41 ≤ i → i < 41 → ∀ t, tyX12 i ≠ .array t := fun i h1 h2 => absurd h2 (by omega)
theorem rfi_sk42 : ∀ i, 42 ≤ i → i < 42 → ∀ t, tyX12 i ≠ .array t := fun i h1 h2 => absurd h2 (by omega)
theorem rfi_sk43 : ∀ i, 43 ≤ i → i < 43 → ∀ t, tyX12 i ≠ .array t := fun i h1 h2 => absurd h2 (by omega)
theorem rfi_sk44 : ∀ i, 44 ≤ i → i < 44 → ∀ t, tyX12 i ≠ .array t := fun i h1 h2 => absurd h2 (by omega)
theorem rfi_sk45 : ∀ i, 45 ≤ i → i < 45 → ∀ t, tyX12 i ≠ .array t := fun i h1 h2 => absurd h2 (by omega)
theorem rfi_sk46 : ∀ i, 46 ≤ i → i < 46 → ∀ t, tyX12 i ≠ .array t := fun i h1 h2 => absurd h2 (by omega)
theorem rfi_sk47 : ∀ i, 47 ≤ i → i < 47 → ∀ t, tyX12 i ≠ .array t := fun i h1 h2 => absurd h2 (by omega)
theorem rfi_sk48 : ∀ i, 48 ≤ i → i < 48 → ∀ t, tyX12 i ≠ .array t := fun i h1 h2 => absurd h2 (by omega)
theorem rfi_sk49 : ∀ i, 49 ≤ i → i < 49 → ∀ t, tyX12 i ≠ .array t := fun i h1 h2 => absurd h2 (by omega)
theorem rfi_sk50 : ∀ i, 50 ≤ i → i < 50 → ∀ t, tyX12 i ≠ .array t := fun i h1 h2 => absurd h2 (by omega)
theorem rfi_sk51 : ∀ i, 51 ≤ i → i < 51 → ∀ t, tyX12 i ≠ .array t := fun i h1 h2 => absurd h2 (by omega)
theorem rfi_sk52 : ∀ i, 52 ≤ i → i < 52 → ∀ t, tyX12 i ≠ .array t := fun i h1 h2 => absurd h2 (by omega)
theorem rfi_sk59 : ∀ i, 53 ≤ i → i < 59 → ∀ t, tyX12 i ≠ .array t := by
  intro i h1 h2 t
  have : i = 53 ∨ i = 54 ∨ i = 55 ∨ i = 56 ∨ i = 57 ∨ i = 58 := by omega
  rcases this with rfl | rfl | rfl | rfl | rfl | rfl <;> exact fun h => by cases h
theorem rfi_sk62 : ∀ i, 60 ≤ i → i < 62 → ∀ t, tyX12 i ≠ .array t := by
  intro i h1 h2 t
  have : i = 60 ∨ i = 61 := by omega
  rcases this with rfl | rfl <;> exact fun h => by cases h
theorem rfi_sk63 : ∀ i, 63 ≤ i → i < 63 → ∀ t, tyX12 i ≠ .array t := fun i h1 h2 => absurd h2 (by omega)
theorem rfi_sk64 : ∀ i, 64 ≤ i → i < 64 → ∀ t, tyX12 i ≠ .array t := fun i h1 h2 => absurd h2 (by omega)
theorem rfi_sk65 : ∀ i, 65 ≤ i → i < 65 → ∀ t, tyX12 i ≠ .array t := fun i h1 h2 => absurd h2 (by omega)
theorem rfi_sk66 : ∀ i, 66 ≤ i → i < 66 → ∀ t, tyX12 i ≠ .array t := fun i h1 h2 => absurd h2 (by omega)
theorem rfi_sk67 : ∀ i, 67 ≤ i → i < 67 → ∀ t, tyX12 i ≠ .array t := fun i h1 h2 => absurd h2 (by omega)
theorem rfi_sk68 : ∀ i, 68 ≤ i → i < 68 → ∀ t, tyX12 i ≠ .array t := fun i h1 h2 => absurd h2 (by omega)
theorem rfi_sk69 : ∀ i, 69 ≤ i → i < 69 → ∀ t, tyX12 i ≠ .array t := fun i h1 h2 => absurd h2 (by omega)
theorem rfi_sk70 : ∀ i, 70 ≤ i → i < 70 → ∀ t, tyX12 i ≠ .array t := fun i h1 h2 => absurd h2 (by omega)
theorem rfi_sk71 : ∀ i, 71 ≤ i → i < 71 → ∀ t, tyX12 i ≠ .array t := fun i h1 h2 => absurd h2 (by omega)
theorem rfi_sk73 : ∀ i, 72 ≤ i → i < 73 → ∀ t, tyX12 i ≠ .array t := by
  intro i h1 h2 t
  have : i = 72 := by omega
  rcases this with rfl <;> exact fun h => by cases h
theorem rfi_sk74 : ∀ i, 74 ≤ i → i < 74 → ∀ t, tyX12 i ≠ .array t := fun i h1 h2 => absurd h2 (by omega)
theorem rfi_sk75 : ∀ i, 75 ≤ i → i < 75 → ∀ t, tyX12 i ≠ .array t := fun i h1 h2 => absurd h2 (by omega)
theorem rfi_sk76 : ∀ i, 76 ≤ i → i < 76 → ∀ t, tyX12 i ≠ .array t := fun i h1 h2 => absurd h2 (by omega)
theorem rfi_sk77 : ∀ i, 77 ≤ i → i < 77 → ∀ t, tyX12 i ≠ .array t := fun i h1 h2 => absurd h2 (by omega)
theorem rfi_sk81 : ∀ i, 78 ≤ i → i < 81 → ∀ t, tyX12 i ≠ .array t := by
  intro i h1 h2 t
  have : i = 78 ∨ i = 79 ∨ i = 80 := by omega
  rcases this with rfl | rfl | rfl <;> exact fun h => by cases h
theorem rfi_sk82 : ∀ i, 82 ≤ i → i < 82 → ∀ t, tyX12 i ≠ .array t := fun i h1 h2 => absurd h2 (by omega)
theorem rfi_sk84 : ∀ i, 83 ≤ i → i < 84 → ∀ t, tyX12 i ≠ .array t := by
  intro i h1 h2 t
  have : i = 83 := by omega
  rcases this with rfl <;> exact fun h => by cases h
/-! the words in quotes -/
def rf_qb : List Int32 := cs_byt.getD 1 []
def rf_qf : Nat → Nat × Nat
  | 0 => (0, 1)
  | k + 1 => if 1 ≤ k ∧ rf_qb.getD k 0 = 32 then ((rf_qf k).1 + 1, k + 1) else rf_qf k
def rf_qv (f k : Nat) : Nat → Int64
  | 0 => 0
  | i + 1 => (rf_qv f k i <<< ((8 : Int32).toInt64 &&& 63)) ||| (if f + i < k then rf_qb.getD (f + i) 0 else 0).toInt64
def rf_qk : List Nat := (List.range 102).filter (fun k => decide (1 ≤ k) && decide (rf_qb.getD k 0 = 32))
/-- the quoted words, eight bytes each -/
def rf_q (j : Nat) : Int64 := rf_qv (rf_qf (rf_qk.getD j 0)).2 (rf_qk.getD j 0) 8
theorem rf_qlen : rf_qb.length = 101 := by decide +kernel
theorem rf_qok : ∀ k, k < 101 → 1 ≤ k → (rf_qf k).2 ≤ k ∧ (rf_qb.getD k 0 = 32 → (rf_qf k).1 < 20 ∧ rf_qk.getD (rf_qf k).1 0 = k) := by decide +kernel
def rf_qs (n : Nat) (σ : rf_S) : rf_S := (σ.1, σ.2.1, σ.2.2.1, fun i => if i = 59 then (fun j => if j < n then rf_q j else 0) else σ.2.2.2 i)
theorem rf_qs_up {n : Nat} {σ : rf_S} : rf_ub (rf_qs n σ) 59 n (rf_q n) = rf_qs (n + 1) σ := by
  unfold rf_ub rf_qs
  refine Prod.ext rfl (Prod.ext rfl (Prod.ext rfl (funext fun i => funext fun j => ?_)))
  by_cases hi : i = 59
  · simp only [hi, if_true, vp_updL]
    by_cases hj : j = n
    · subst hj; simp
    · by_cases h2 : j < n
      · have : j < n + 1 := by omega
        simp [hj, h2, this]
      · have : ¬ j < n + 1 := by omega
        simp [hj, h2, this]
  · simp [hi]
def rf_z : rf_S := (fun _ => 0, fun _ => 0, fun _ _ => 0, fun _ _ => 0)
/-- the reference's state ahead of emptyLog -/
def rf_i0 : rf_S := rf_qs 20 (rf_ui (rf_ui rf_z 6 (-1)) 7 (-1))
theorem rf_qs0 {σ : rf_S} (h : ∀ j, σ.2.2.2 59 j = 0) : rf_qs 0 σ = σ := by
  unfold rf_qs
  refine Prod.ext rfl (Prod.ext rfl (Prod.ext rfl (funext fun i => funext fun j => ?_)))
  by_cases hi : i = 59
  · subst hi; simp [h]
  · simp [hi]
def rfi_A (o sz : Nat) : Nat → Prop := fun q => q = o ∨ sz ≤ q
def rfi_Pc (P : hw_G) (G : Nat → Nat) (o sz : Nat) : Array Value → State → Prop := va_Pc [.ref o] (fun U => U.heap.size = sz ∧ t_OB o (P.1.1 13) 86 (P.1.2 13) U.heap (fun k => defaultValue (tyX12 k)) ∧ hw_K P U ∧ cs_O G (rfi_A o sz) U U.heap)
def rfi_B (P : hw_G) (o sz : Nat) (u : (Nat → Nat) × rf_S) (t : State) : Prop := rf_at P o u.1 u.2 t.heap ∧ rf_D o u.1 ∧ (∀ q, rf_A o u.1 q → rfi_A o sz q) ∧ hw_K P t
abbrev rm_X12_init : Room := { frames := 4, cells := 51, slots := 788530, locals := 100 }
section MINIT
variable {p : Program} {l : Launch} {e : Env} {R : Room} {s : State} {m : MethodId} {args : Array Value} {below : List Frame} {meth : Method} {c : Code} {cells slots : Nat} {Q : State → Prop} {P : hw_G} {G : Nat → Nat} {A : Nat → Prop} {o : Nat} {ad : Nat → Nat}
theorem rf_addn (a b : Nat) : nI a + nI b = nI (a + b) := (Int32.ofNat_add a b).symm
set_option maxHeartbeats 4000000 in
theorem t_X12_init_487 (hR : R = rm_X12_init) (hC : rf_C P RX12 p s m meth c cX12_init 7 none) (hO : cs_O G A s s.heap) (hA : ∀ q, s.heap.size ≤ q → A q) (hf : cells ≤ R.cells ∧ slots ≤ R.slots) (f k : Nat) (n : Int32) (hk : k < 101) (hf9 : f ≤ k) (σ : rf_S)
    (kk : ∀ (H : Heap) (locs : List Loc) (ls : Array Slot), rf_T P s A o ad σ H locs → lv_has ls 7 [(0, .ref o), (1, .int n), (3, .int (nI k)), (4, .long (rf_qv f k 8))] → W p l e R s m args below meth c H locs cells slots Q (F0 m 531 ls [])) :
    ∀ (r i : Nat), i + r = 8 → ∀ (H : Heap) (locs : List Loc) (ls : Array Slot), rf_T P s A o ad σ H locs → lv_has ls 7 [(0, .ref o), (1, .int n), (2, .int (nI f)), (3, .int (nI k)), (4, .long (rf_qv f k i)), (6, .int (nI i))] → W p l e R s m args below meth c H locs cells slots Q (F0 m 487 ls []) := by
  obtain ⟨hx, hb, hml, hown, hK, -, -⟩ := id hC
  subst hR
  intro r
  induction r with
  | zero =>
    intro i hi H locs ls hT hl
    have hi8 : i = 8 := by omega
    subst hi8
    refine lv_iload hx hb dX12_init_487 (lv_at hl 5 rfl) ?_
    refine lv_bipush (v := 8) hx hb dX12_init_489 (by decide) ?_
    refine lv_icmp_ge (tgt := 531) hx hb dX12_init_491 (by decide) (fun hc => ?_) (fun hc => absurd (by decide) hc)
    exact kk H locs ls hT (lv_sub hl [0, 1, 3, 4] rfl)
  | succ r ih =>
    intro i hi H locs ls hT hl
    have hi8 : i < 8 := by omega
    refine lv_iload hx hb dX12_init_487 (lv_at hl 5 rfl) ?_
    refine lv_bipush (v := 8) hx hb dX12_init_489 (by decide) ?_
    refine lv_icmp_ge (tgt := 531) hx hb dX12_init_491 (by decide) (fun hc => absurd hc (nI_ge hi8 (by decide))) (fun hc => ?_)
    refine lv_lload hx hb dX12_init_494 (lv_at hl 4 rfl) ?_
    refine lv_bipush (v := 8) hx hb dX12_init_496 (by decide) ?_
    refine lv_lshl (v := rf_qv f k i <<< ((8 : Int32).toInt64 &&& 63)) hx hb dX12_init_498 rfl ?_
    refine lv_iload_n hx hb dX12_init_499 rfl (lv_at hl 2 rfl) ?_
    refine lv_iload hx hb dX12_init_500 (lv_at hl 5 rfl) ?_
    refine lv_iadd hx hb dX12_init_502 ?_
    rw [rf_addn]
    refine lv_iload_n hx hb dX12_init_503 rfl (lv_at hl 3 rfl) ?_
    have fin : ∀ (x : Int32) (H : Heap) (locs : List Loc), x = (if f + i < k then rf_qb.getD (f + i) 0 else 0) → rf_T P s A o ad σ H locs → W p l e rm_X12_init s m args below meth c H locs cells slots Q (F0 m 521 ls [.int x, .long (rf_qv f k i <<< ((8 : Int32).toInt64 &&& 63))]) := by
      intro x H locs hxv hT
      refine lv_i2l (v := x.toInt64) hx hb dX12_init_521 rfl ?_
      refine lv_lor hx hb dX12_init_522 ?_
      refine lv_lstore (lv' := [(4, _), (0, _), (1, _), (2, _), (3, _), (6, _)]) hx hb dX12_init_523 hl (by decide) rfl (fun ls hl_ => ?_)
      refine lv_iinc (v := nI i + 1) (lv' := [(6, _), (4, _), (0, _), (1, _), (2, _), (3, _)]) hx hb dX12_init_525 hl_ (k := 5) rfl rfl (by decide) rfl (fun ls hl_ => ?_)
      refine lv_goto (tgt := 487) hx hb dX12_init_528 (by decide) ?_
      refine ih (i + 1) (by omega) H locs ls hT ?_
      rw [nI_succ]
      have e9 : rf_qv f k (i + 1) = (rf_qv f k i <<< ((8 : Int32).toInt64 &&& 63)) ||| x.toInt64 := by rw [hxv]; rfl
      rw [e9]
      exact lv_sub hl_ [2, 3, 4, 5, 1, 0] rfl
    by_cases hfk : f + i < k
    · refine lv_icmp_ge (tgt := 520) hx hb dX12_init_504 (by decide) (fun hc => absurd hc (nI_ge hfk (by omega))) (fun hc => ?_)
      refine va_ldcSW hx hb hown (hO.2.2.2.2.2.1 1 _ rfl) dX12_init_507 ?_
      refine lv_iload_n hx hb dX12_init_510 rfl (lv_at hl 2 rfl) ?_
      refine lv_iload hx hb dX12_init_511 (lv_at hl 5 rfl) ?_
      refine lv_iadd hx hb dX12_init_513 ?_
      rw [rf_addn]
      have hfi : (nI (f + i)).toNatClampNeg = f + i := nI_clamp (by omega)
      refine rfs_calli (cs_runVs hx hb hml hown hK hO (cs_0T hT.1 hA) (vk_recv hO.2.2.2.2.1 (by decide : 1 < 11) hT.1) (c_J0_charAt_5068e (post := fun r S1 => r = rf_qb.getD (f + i) 0) ⟨1, by decide, rfl, nI_in (by rw [cs_blen 1 (by decide)]; show f + i < rf_qb.length; rw [rf_qlen]; omega) (by decide +kernel), by rw [hfi]; rfl⟩) rfl rfl kl_chr ki_J0_charAt_5068e ks_J0_charAt_5068e kn_J0 kc_J0_charAt_5068e 1 ⟨rfl, by decide, by decide, by decide +kernel⟩ ⟨by decide, by decide⟩ rfl hl.1 rfl (hw_cat8 (Nat.le_of_ble_eq_true rfl)) hf dX12_init_514) hT hA (fun r H locs h_ hT_ => ?_)
      obtain ⟨-, rfl⟩ := h_
      refine lv_goto (tgt := 521) hx hb dX12_init_517 (by decide) ?_
      exact fin _ _ _ (by rw [if_pos hfk]) hT_
    · refine lv_icmp_ge (tgt := 520) hx hb dX12_init_504 (by decide) (fun hc => ?_) (fun hc => absurd (nI_le (by omega) (by omega)) hc)
      refine lv_iconst (v := 0) hx hb dX12_init_520 (by decide) ?_
      exact fin _ _ _ (by rw [if_neg hfk]) hT
set_option maxHeartbeats 4000000 in
theorem t_X12_init_456 (hR : R = rm_X12_init) (hC : rf_C P RX12 p s m meth c cX12_init 7 none) (hO : cs_O G A s s.heap) (hA : ∀ q, s.heap.size ≤ q → A q) (hf : cells ≤ R.cells ∧ slots ≤ R.slots) (σ : rf_S)
    (kk : ∀ (H : Heap) (locs : List Loc) (ls : Array Slot), rf_T P s A o ad (rf_qs 20 σ) H locs → lv_has ls 7 [(0, .ref o)] → W p l e R s m args below meth c H locs cells slots Q (F0 m 552 ls [])) :
    ∀ (r k : Nat), k + r = 101 → 1 ≤ k → ∀ (H : Heap) (locs : List Loc) (ls : Array Slot), rf_T P s A o ad (rf_qs (rf_qf k).1 σ) H locs → lv_has ls 7 [(0, .ref o), (1, .int (nI (rf_qf k).1)), (2, .int (nI (rf_qf k).2)), (3, .int (nI k))] → W p l e R s m args below meth c H locs cells slots Q (F0 m 456 ls []) := by
  obtain ⟨hx, hb, hml, hown, hK, -, -⟩ := id hC
  intro r
  induction r with
  | zero =>
    intro k hk hk1 H locs ls hT hl
    have hk8 : k = 101 := by omega
    subst hk8
    refine lv_iload_n hx hb dX12_init_456 rfl (lv_at hl 3 rfl) ?_
    refine va_ldcSW hx hb hown (hO.2.2.2.2.2.1 1 _ rfl) dX12_init_457 ?_
    subst hR
    refine rfs_calli (cs_runVs hx hb hml hown hK hO (cs_0T hT.1 hA) (vk_recv hO.2.2.2.2.1 (by decide : 1 < 11) hT.1) (c_J0_length_8abf5 (post := fun r S1 => r = 101) ⟨1, by decide, rfl, by decide +kernel⟩) rfl rfl kl_len ki_J0_length_8abf5 ks_J0_length_8abf5 kn_J0 kc_J0_length_8abf5 0 ⟨rfl, by decide, by decide, by decide +kernel⟩ ⟨by decide, by decide⟩ rfl hl.1 rfl (hw_cat8 (Nat.le_of_ble_eq_true rfl)) hf dX12_init_460) hT hA (fun r H locs h_ hT_ => ?_)
    obtain ⟨-, rfl⟩ := h_
    refine lv_icmp_ge (tgt := 552) hx hb dX12_init_463 (by decide) (fun hc => ?_) (fun hc => absurd (by decide) hc)
    have e20 : (rf_qf 101).1 = 20 := by decide +kernel
    rw [e20] at hT_
    exact kk H locs ls hT_ (lv_sub hl [0] rfl)
  | succ r ih =>
    intro k hk hk1 H locs ls hT hl
    have hk2 : k < 101 := by omega
    obtain ⟨hq1, hq2⟩ := rf_qok k hk2 hk1
    have hkc : (nI k).toNatClampNeg = k := nI_clamp (by omega)
    refine lv_iload_n hx hb dX12_init_456 rfl (lv_at hl 3 rfl) ?_
    refine va_ldcSW hx hb hown (hO.2.2.2.2.2.1 1 _ rfl) dX12_init_457 ?_
    subst hR
    refine rfs_calli (cs_runVs hx hb hml hown hK hO (cs_0T hT.1 hA) (vk_recv hO.2.2.2.2.1 (by decide : 1 < 11) hT.1) (c_J0_length_8abf5 (post := fun r S1 => r = nI 101) ⟨1, by decide, rfl, by decide +kernel⟩) rfl rfl kl_len ki_J0_length_8abf5 ks_J0_length_8abf5 kn_J0 kc_J0_length_8abf5 0 ⟨rfl, by decide, by decide, by decide +kernel⟩ ⟨by decide, by decide⟩ rfl hl.1 rfl (hw_cat8 (Nat.le_of_ble_eq_true rfl)) hf dX12_init_460) hT hA (fun r H locs h_ hT_ => ?_)
    obtain ⟨-, rfl⟩ := h_
    replace hT := hT_
    refine lv_icmp_ge (tgt := 552) hx hb dX12_init_463 (by decide) (fun hc => absurd hc (nI_ge hk2 (by decide))) (fun hc => ?_)
    refine va_ldcSW hx hb hown (hO.2.2.2.2.2.1 1 _ rfl) dX12_init_466 ?_
    refine lv_iload_n hx hb dX12_init_469 rfl (lv_at hl 3 rfl) ?_
    refine rfs_calli (cs_runVs hx hb hml hown hK hO (cs_0T hT.1 hA) (vk_recv hO.2.2.2.2.1 (by decide : 1 < 11) hT.1) (c_J0_charAt_5068e (post := fun r S1 => r = rf_qb.getD k 0) ⟨1, by decide, rfl, nI_in (by rw [cs_blen 1 (by decide)]; show k < rf_qb.length; rw [rf_qlen]; omega) (by decide +kernel), by rw [hkc]; rfl⟩) rfl rfl kl_chr ki_J0_charAt_5068e ks_J0_charAt_5068e kn_J0 kc_J0_charAt_5068e 1 ⟨rfl, by decide, by decide, by decide +kernel⟩ ⟨by decide, by decide⟩ rfl hl.1 rfl (hw_cat8 (Nat.le_of_ble_eq_true rfl)) hf dX12_init_470) hT hA (fun r H locs h_ hT_ => ?_)
    obtain ⟨-, rfl⟩ := h_
    replace hT := hT_
    refine lv_bipush (v := 32) hx hb dX12_init_473 (by decide) ?_
    have fin : ∀ (H : Heap) (locs : List Loc) (ls : Array Slot), rf_T P s A o ad (rf_qs (rf_qf (k + 1)).1 σ) H locs → lv_has ls 7 [(0, .ref o), (1, .int (nI (rf_qf (k + 1)).1)), (2, .int (nI (rf_qf (k + 1)).2)), (3, .int (nI k))] → W p l e rm_X12_init s m args below meth c H locs cells slots Q (F0 m 546 ls []) := by
      intro H locs ls hT hl
      refine lv_iinc (v := nI k + 1) (lv' := [(3, _), (0, _), (1, _), (2, _)]) hx hb dX12_init_546 hl (k := 3) rfl rfl (by decide) rfl (fun ls hl_ => ?_)
      refine lv_goto (tgt := 456) hx hb dX12_init_549 (by decide) ?_
      refine ih (k + 1) (by omega) (by omega) H locs ls hT ?_
      rw [nI_succ]
      exact lv_sub hl_ [1, 2, 3, 0] rfl
    by_cases h32 : rf_qb.getD k 0 = 32
    · obtain ⟨hn20, hqk⟩ := hq2 h32
      refine lv_icmp_eq (tgt := 481) hx hb dX12_init_475 (by decide) (fun hc => ?_) (fun hc => absurd h32 hc)
      refine lv_lconst (v := 0) hx hb dX12_init_481 (by decide) ?_
      refine lv_lstore (lv' := [(4, _), (0, _), (1, _), (2, _), (3, _)]) hx hb dX12_init_482 hl (by decide) rfl (fun ls hl_ => ?_)
      refine lv_iconst (v := 0) hx hb dX12_init_484 (by decide) ?_
      refine lv_istore (lv' := [(6, _), (4, _), (0, _), (1, _), (2, _), (3, _)]) hx hb dX12_init_485 hl_ (by decide) rfl (fun ls hl_ => ?_)
      refine t_X12_init_487 (f := (rf_qf k).2) (k := k) (n := nI (rf_qf k).1) rfl hC hO hA hf hk2 hq1 (rf_qs (rf_qf k).1 σ) ?_ 8 0 rfl H locs ls hT (lv_sub hl_ [2, 3, 4, 5, 1, 0] rfl)
      intro H locs ls hT hl
      refine lv_aload_n hx hb dX12_init_531 rfl (lv_at hl 0 rfl) ?_
      refine rf_get hx hb hK hT hown 59 (by decide) kfX12_253 (v := .ref (ad 59)) rfl dX12_init_532 ?_
      refine lv_iload_n hx hb dX12_init_535 rfl (lv_at hl 1 rfl) ?_
      refine lv_lload hx hb dX12_init_536 (lv_at hl 3 rfl) ?_
      refine rf_last hx hb hK hT 59 (by decide) rfl (nI_in hn20 (by decide)) dX12_init_538 (fun H locs hT_ => ?_)
      have eu : rf_ub (rf_qs (rf_qf k).1 σ) 59 (nI (rf_qf k).1).toNatClampNeg (rf_qv (rf_qf k).2 k 8) = rf_qs ((rf_qf k).1 + 1) σ := by
        rw [nI_clamp (by omega), ← rf_qs_up]
        have : rf_q (rf_qf k).1 = rf_qv (rf_qf k).2 k 8 := by unfold rf_q; rw [hqk]
        rw [this]
      rw [eu] at hT_
      refine lv_iinc (v := nI (rf_qf k).1 + 1) (lv' := [(1, _), (0, _), (3, _), (4, _)]) hx hb dX12_init_539 hl (k := 1) rfl rfl (by decide) rfl (fun ls hl_ => ?_)
      refine lv_iload_n hx hb dX12_init_542 rfl (lv_at hl_ 2 rfl) ?_
      refine lv_iconst (v := 1) hx hb dX12_init_543 (by decide) ?_
      refine lv_iadd hx hb dX12_init_544 ?_
      refine lv_istore_n (lv' := [(2, _), (1, _), (0, _), (3, _), (4, _)]) hx hb dX12_init_545 rfl hl_ (by decide) rfl (fun ls hl_ => ?_)
      have ef : rf_qf (k + 1) = ((rf_qf k).1 + 1, k + 1) := by
        show (if 1 ≤ k ∧ rf_qb.getD k 0 = 32 then _ else _) = _
        rw [if_pos ⟨hk1, h32⟩]
      refine fin H locs ls (by rw [ef]; exact hT_) ?_
      rw [ef, nI_succ, nI_succ]
      exact lv_sub hl_ [2, 1, 0, 3] rfl
    · refine lv_icmp_eq (tgt := 481) hx hb dX12_init_475 (by decide) (fun hc => absurd hc h32) (fun hc => ?_)
      refine lv_goto (tgt := 546) hx hb dX12_init_478 (by decide) ?_
      have ef : rf_qf (k + 1) = rf_qf k := by
        show (if 1 ≤ k ∧ rf_qb.getD k 0 = 32 then _ else _) = _
        rw [if_neg (fun h => h32 h.2)]
      exact fin H locs ls (by rw [ef]; exact hT) (by rw [ef]; exact hl)
end MINIT
set_option maxRecDepth 100000 in
set_option maxHeartbeats 8000000 in
theorem c_X12_init {l : Launch} {P : hw_G} {G : Nat → Nat} {o sz : Nat} {post : (Nat → Nat) × rf_S → Prop} (h : ∀ ad, wp_X12_emptyLog (fun σ => post (ad, σ)) rf_i0) : Met l yX12_init [Cond.code yX12_init cX12_init 7 none] rm_X12_init (rfi_Pc P G o sz) (va_Qv post (rfi_B P o sz) (rfi_A o sz)) 51 788530 (rfi_A o sz) := by
  refine Met.ofW (cc := cX12_init) (maxL := 7) (ret := none) (by decide) rfl ?_
  intro p e s m args below meth c s₁ B hml hv
  obtain ⟨rfl, hsz, hob, hK, hO⟩ := hv
  have hl := lv_entry [Value.ref o] (n := 7) (Nat.le_of_ble_eq_true rfl)
  rw [lg_entry_eq]
  have hC : rf_C P RX12 p s m meth c cX12_init 7 none := ⟨B.exec, B.bytes, hml, findClass_of_methodNamed B.named, hK, B.returns, B.notSynchronized⟩
  have hin : meth.name = "<init>" := (name_of_methodNamed B.named B.method).1
  obtain ⟨hx, hb, hml, hown, -, -, -⟩ := id hC
  have hA : ∀ q, s.heap.size ≤ q → rfi_A o sz q := fun q hq => Or.inr (by rw [← hsz]; exact hq)
  have hT : rfi_T P s (rfi_A o sz) o (fun _ => 0) 0 rf_z s.heap [] := by
    refine ⟨va_S.rf, ⟨hob.to (fun k hk => ?_), fun k ty hk => absurd hk (by omega)⟩, ⟨fun j k t u hj => absurd hj (by omega), fun k t hk => absurd hk (by omega)⟩, Or.inl rfl, fun k t hk => absurd hk (by omega), hA⟩
    unfold rfi_V
    unfold tyX12
    split <;> rfl
  generalize hls : (lg_sl [Value.ref o] ++ List.replicate (7 - (lg_sl [Value.ref o]).length) Slot.unset).toArray = ls at hl
  replace hl : lv_has ls 7 [(0, .ref o)] := hl
  refine lv_aload_n hx hb dX12_init_0 rfl (lv_at hl 0 rfl) ?_
  refine cs_objInit hx hb hml hown hK hl.1 klX12_194 ki_obj kc_obj dX12_init_1 (Nat.le_of_ble_eq_true rfl) (hw_catN (Nat.le_of_ble_eq_true rfl) (Nat.le_of_ble_eq_true rfl)) ?_
  refine lv_aload_n hx hb dX12_init_4 rfl (lv_at hl 0 rfl) ?_
  refine lv_sipush (v := 2120) hx hb dX12_init_5 (by decide) ?_
  refine rfi_row hx hb hK hT hown hin 1 (by decide) (by decide) rfi_sk1 (ty := .byte) rfl rfl ka_byte (by decide) rfl (by decide) rfl (by decide) (Nat.le_of_ble_eq_true rfl) (Nat.le_of_ble_eq_true rfl) kfX12_14 rfl rfl dX12_init_8 dX12_init_10 (fun ad H locs hT_ => ?_)
  replace hT := hT_
  refine lv_aload_n hx hb dX12_init_13 rfl (lv_at hl 0 rfl) ?_
  refine lv_iconst (v := (-1)) hx hb dX12_init_14 (by decide) ?_
  refine rfi_puti hx hb hK hT hown 6 (by decide) kfX12_21 rfl rfl dX12_init_15 (fun H locs hT_ => ?_)
  replace hT := hT_
  refine lv_aload_n hx hb dX12_init_18 rfl (lv_at hl 0 rfl) ?_
  refine lv_iconst (v := (-1)) hx hb dX12_init_19 (by decide) ?_
  refine rfi_puti hx hb hK hT hown 7 (by decide) kfX12_161 rfl rfl dX12_init_20 (fun H locs hT_ => ?_)
  replace hT := hT_
  refine lv_aload_n hx hb dX12_init_23 rfl (lv_at hl 0 rfl) ?_
  refine lv_sipush (v := 4001) hx hb dX12_init_24 (by decide) ?_
  refine rfi_row hx hb hK hT hown hin 8 (by decide) (by decide) rfi_sk8 (ty := .int) rfl rfl ka_int (by decide) rfl (by decide) rfl (by decide) (Nat.le_of_ble_eq_true rfl) (Nat.le_of_ble_eq_true rfl) kfX12_170 rfl rfl dX12_init_27 dX12_init_29 (fun ad H locs hT_ => ?_)
  replace hT := hT_
  refine lv_aload_n hx hb dX12_init_32 rfl (lv_at hl 0 rfl) ?_
  refine lv_sipush (v := 4001) hx hb dX12_init_33 (by decide) ?_
  refine rfi_row hx hb hK hT hown hin 9 (by decide) (by decide) rfi_sk9 (ty := .int) rfl rfl ka_int (by decide) rfl (by decide) rfl (by decide) (Nat.le_of_ble_eq_true rfl) (Nat.le_of_ble_eq_true rfl) kfX12_97 rfl rfl dX12_init_36 dX12_init_38 (fun ad H locs hT_ => ?_)
  replace hT := hT_
  refine lv_aload_n hx hb dX12_init_41 rfl (lv_at hl 0 rfl) ?_
  refine lv_sipush (v := 4001) hx hb dX12_init_42 (by decide) ?_
  refine rfi_row hx hb hK hT hown hin 10 (by decide) (by decide) rfi_sk10 (ty := .int) rfl rfl ka_int (by decide) rfl (by decide) rfl (by decide) (Nat.le_of_ble_eq_true rfl) (Nat.le_of_ble_eq_true rfl) kfX12_173 rfl rfl dX12_init_45 dX12_init_47 (fun ad H locs hT_ => ?_)
  replace hT := hT_
  refine lv_aload_n hx hb dX12_init_50 rfl (lv_at hl 0 rfl) ?_
  refine lv_sipush (v := 4001) hx hb dX12_init_51 (by decide) ?_
  refine rfi_row hx hb hK hT hown hin 11 (by decide) (by decide) rfi_sk11 (ty := .long) rfl rfl ka_long (by decide) rfl (by decide) rfl (by decide) (Nat.le_of_ble_eq_true rfl) (Nat.le_of_ble_eq_true rfl) kfX12_145 rfl rfl dX12_init_54 dX12_init_56 (fun ad H locs hT_ => ?_)
  replace hT := hT_
  refine lv_aload_n hx hb dX12_init_59 rfl (lv_at hl 0 rfl) ?_
  refine lv_sipush (v := 4001) hx hb dX12_init_60 (by decide) ?_
  refine rfi_row hx hb hK hT hown hin 12 (by decide) (by decide) rfi_sk12 (ty := .long) rfl rfl ka_long (by decide) rfl (by decide) rfl (by decide) (Nat.le_of_ble_eq_true rfl) (Nat.le_of_ble_eq_true rfl) kfX12_148 rfl rfl dX12_init_63 dX12_init_65 (fun ad H locs hT_ => ?_)
  replace hT := hT_
  refine lv_aload_n hx hb dX12_init_68 rfl (lv_at hl 0 rfl) ?_
  refine lv_sipush (v := 32008) hx hb dX12_init_69 (by decide) ?_
  refine rfi_row hx hb hK hT hown hin 13 (by decide) (by decide) rfi_sk13 (ty := .long) rfl rfl ka_long (by decide) rfl (by decide) rfl (by decide) (Nat.le_of_ble_eq_true rfl) (Nat.le_of_ble_eq_true rfl) kfX12_100 rfl rfl dX12_init_72 dX12_init_74 (fun ad H locs hT_ => ?_)
  replace hT := hT_
  refine lv_aload_n hx hb dX12_init_77 rfl (lv_at hl 0 rfl) ?_
  refine lv_sipush (v := 32008) hx hb dX12_init_78 (by decide) ?_
  refine rfi_row hx hb hK hT hown hin 14 (by decide) (by decide) rfi_sk14 (ty := .byte) rfl rfl ka_byte (by decide) rfl (by decide) rfl (by decide) (Nat.le_of_ble_eq_true rfl) (Nat.le_of_ble_eq_true rfl) kfX12_27 rfl rfl dX12_init_81 dX12_init_83 (fun ad H locs hT_ => ?_)
  replace hT := hT_
  refine lv_aload_n hx hb dX12_init_86 rfl (lv_at hl 0 rfl) ?_
  refine lv_sipush (v := 32008) hx hb dX12_init_87 (by decide) ?_
  refine rfi_row hx hb hK hT hown hin 15 (by decide) (by decide) rfi_sk15 (ty := .int) rfl rfl ka_int (by decide) rfl (by decide) rfl (by decide) (Nat.le_of_ble_eq_true rfl) (Nat.le_of_ble_eq_true rfl) kfX12_30 rfl rfl dX12_init_90 dX12_init_92 (fun ad H locs hT_ => ?_)
  replace hT := hT_
  refine lv_aload_n hx hb dX12_init_95 rfl (lv_at hl 0 rfl) ?_
  refine lv_sipush (v := 32008) hx hb dX12_init_96 (by decide) ?_
  refine rfi_row hx hb hK hT hown hin 16 (by decide) (by decide) rfi_sk16 (ty := .int) rfl rfl ka_int (by decide) rfl (by decide) rfl (by decide) (Nat.le_of_ble_eq_true rfl) (Nat.le_of_ble_eq_true rfl) kfX12_37 rfl rfl dX12_init_99 dX12_init_101 (fun ad H locs hT_ => ?_)
  replace hT := hT_
  refine lv_aload_n hx hb dX12_init_104 rfl (lv_at hl 0 rfl) ?_
  refine lv_sipush (v := 32008) hx hb dX12_init_105 (by decide) ?_
  refine rfi_row hx hb hK hT hown hin 17 (by decide) (by decide) rfi_sk17 (ty := .int) rfl rfl ka_int (by decide) rfl (by decide) rfl (by decide) (Nat.le_of_ble_eq_true rfl) (Nat.le_of_ble_eq_true rfl) kfX12_55 rfl rfl dX12_init_108 dX12_init_110 (fun ad H locs hT_ => ?_)
  replace hT := hT_
  refine lv_aload_n hx hb dX12_init_113 rfl (lv_at hl 0 rfl) ?_
  refine lv_sipush (v := 24000) hx hb dX12_init_114 (by decide) ?_
  refine rfi_row hx hb hK hT hown hin 18 (by decide) (by decide) rfi_sk18 (ty := .byte) rfl rfl ka_byte (by decide) rfl (by decide) rfl (by decide) (Nat.le_of_ble_eq_true rfl) (Nat.le_of_ble_eq_true rfl) kfX12_34 rfl rfl dX12_init_117 dX12_init_119 (fun ad H locs hT_ => ?_)
  replace hT := hT_
  refine lv_aload_n hx hb dX12_init_122 rfl (lv_at hl 0 rfl) ?_
  refine lv_sipush (v := 32000) hx hb dX12_init_123 (by decide) ?_
  refine rfi_row hx hb hK hT hown hin 24 (by decide) (by decide) rfi_sk24 (ty := .int) rfl rfl ka_int (by decide) rfl (by decide) rfl (by decide) (Nat.le_of_ble_eq_true rfl) (Nat.le_of_ble_eq_true rfl) kfX12_45 rfl rfl dX12_init_126 dX12_init_128 (fun ad H locs hT_ => ?_)
  replace hT := hT_
  refine lv_aload_n hx hb dX12_init_131 rfl (lv_at hl 0 rfl) ?_
  refine lv_ldc (v := 65536) hx hb hown (hK.word kkX12_73 rfl) dX12_init_132 ?_
  refine rfi_row hx hb hK hT hown hin 25 (by decide) (by decide) rfi_sk25 (ty := .int) rfl rfl ka_int (by decide) rfl (by decide) rfl (by decide) (Nat.le_of_ble_eq_true rfl) (Nat.le_of_ble_eq_true rfl) kfX12_42 rfl rfl dX12_init_134 dX12_init_136 (fun ad H locs hT_ => ?_)
  replace hT := hT_
  refine lv_aload_n hx hb dX12_init_139 rfl (lv_at hl 0 rfl) ?_
  refine lv_bipush (v := 24) hx hb dX12_init_140 (by decide) ?_
  refine rfi_row hx hb hK hT hown hin 35 (by decide) (by decide) rfi_sk35 (ty := .long) rfl rfl ka_long (by decide) rfl (by decide) rfl (by decide) (Nat.le_of_ble_eq_true rfl) (Nat.le_of_ble_eq_true rfl) kfX12_199 rfl rfl dX12_init_142 dX12_init_144 (fun ad H locs hT_ => ?_)
  replace hT := hT_
  refine lv_aload_n hx hb dX12_init_147 rfl (lv_at hl 0 rfl) ?_
  refine lv_bipush (v := 24) hx hb dX12_init_148 (by decide) ?_
  refine rfi_row hx hb hK hT hown hin 36 (by decide) (by decide) rfi_sk36 (ty := .long) rfl rfl ka_long (by decide) rfl (by decide) rfl (by decide) (Nat.le_of_ble_eq_true rfl) (Nat.le_of_ble_eq_true rfl) kfX12_202 rfl rfl dX12_init_150 dX12_init_152 (fun ad H locs hT_ => ?_)
  replace hT := hT_
  refine lv_aload_n hx hb dX12_init_155 rfl (lv_at hl 0 rfl) ?_
  refine lv_bipush (v := 72) hx hb dX12_init_156 (by decide) ?_
  refine rfi_row hx hb hK hT hown hin 37 (by decide) (by decide) rfi_sk37 (ty := .long) rfl rfl ka_long (by decide) rfl (by decide) rfl (by decide) (Nat.le_of_ble_eq_true rfl) (Nat.le_of_ble_eq_true rfl) kfX12_205 rfl rfl dX12_init_158 dX12_init_160 (fun ad H locs hT_ => ?_)
  replace hT := hT_
  refine lv_aload_n hx hb dX12_init_163 rfl (lv_at hl 0 rfl) ?_
  refine lv_bipush (v := 24) hx hb dX12_init_164 (by decide) ?_
  refine rfi_row hx hb hK hT hown hin 38 (by decide) (by decide) rfi_sk38 (ty := .int) rfl rfl ka_int (by decide) rfl (by decide) rfl (by decide) (Nat.le_of_ble_eq_true rfl) (Nat.le_of_ble_eq_true rfl) kfX12_208 rfl rfl dX12_init_166 dX12_init_168 (fun ad H locs hT_ => ?_)
  replace hT := hT_
  refine lv_aload_n hx hb dX12_init_171 rfl (lv_at hl 0 rfl) ?_
  refine lv_bipush (v := 24) hx hb dX12_init_172 (by decide) ?_
  refine rfi_row hx hb hK hT hown hin 39 (by decide) (by decide) rfi_sk39 (ty := .int) rfl rfl ka_int (by decide) rfl (by decide) rfl (by decide) (Nat.le_of_ble_eq_true rfl) (Nat.le_of_ble_eq_true rfl) kfX12_211 rfl rfl dX12_init_174 dX12_init_176 (fun ad H locs hT_ => ?_)
  replace hT := hT_
  refine lv_aload_n hx hb dX12_init_179 rfl (lv_at hl 0 rfl) ?_
  refine lv_bipush (v := 24) hx hb dX12_init_180 (by decide) ?_
  refine rfi_row hx hb hK hT hown hin 40 (by decide) (by decide) rfi_sk40 (ty := .int) rfl rfl ka_int (by decide) rfl (by decide) rfl (by decide) (Nat.le_of_ble_eq_true rfl) (Nat.le_of_ble_eq_true rfl) kfX12_214 rfl rfl dX12_init_182 dX12_init_184 (fun ad H locs hT_ => ?_)
  replace hT := hT_
  refine lv_aload_n hx hb dX12_init_187 rfl (lv_at hl 0 rfl) ?_
  refine lv_sipush (v := 144) hx hb dX12_init_188 (by decide) ?_
  refine rfi_row hx hb hK hT hown hin 41 (by decide) (by decide) rfi_sk41 (ty := .int) rfl rfl ka_int (by decide) rfl (by decide) rfl (by decide) (Nat.le_of_ble_eq_true rfl) (Nat.le_of_ble_eq_true rfl) kfX12_217 rfl rfl dX12_init_191 dX12_init_193 (fun ad H locs hT_ => ?_)
  replace hT := hT_
  refine lv_aload_n hx hb dX12_init_196 rfl (lv_at hl 0 rfl) ?_
  refine lv_bipush (v := 24) hx hb dX12_init_197 (by decide) ?_
  refine rfi_row hx hb hK hT hown hin 42 (by decide) (by decide) rfi_sk42 (ty := .int) rfl rfl ka_int (by decide) rfl (by decide) rfl (by decide) (Nat.le_of_ble_eq_true rfl) (Nat.le_of_ble_eq_true rfl) kfX12_220 rfl rfl dX12_init_199 dX12_init_201 (fun ad H locs hT_ => ?_)
  replace hT := hT_
  refine lv_aload_n hx hb dX12_init_204 rfl (lv_at hl 0 rfl) ?_
  refine lv_bipush (v := 24) hx hb dX12_init_205 (by decide) ?_
  refine rfi_row hx hb hK hT hown hin 43 (by decide) (by decide) rfi_sk43 (ty := .int) rfl rfl ka_int (by decide) rfl (by decide) rfl (by decide) (Nat.le_of_ble_eq_true rfl) (Nat.le_of_ble_eq_true rfl) kfX12_223 rfl rfl dX12_init_207 dX12_init_209 (fun ad H locs hT_ => ?_)
  replace hT := hT_
  refine lv_aload_n hx hb dX12_init_212 rfl (lv_at hl 0 rfl) ?_
  refine lv_bipush (v := 24) hx hb dX12_init_213 (by decide) ?_
  refine rfi_row hx hb hK hT hown hin 44 (by decide) (by decide) rfi_sk44 (ty := .int) rfl rfl ka_int (by decide) rfl (by decide) rfl (by decide) (Nat.le_of_ble_eq_true rfl) (Nat.le_of_ble_eq_true rfl) kfX12_226 rfl rfl dX12_init_215 dX12_init_217 (fun ad H locs hT_ => ?_)
  replace hT := hT_
  refine lv_aload_n hx hb dX12_init_220 rfl (lv_at hl 0 rfl) ?_
  refine lv_bipush (v := 24) hx hb dX12_init_221 (by decide) ?_
  refine rfi_row hx hb hK hT hown hin 45 (by decide) (by decide) rfi_sk45 (ty := .int) rfl rfl ka_int (by decide) rfl (by decide) rfl (by decide) (Nat.le_of_ble_eq_true rfl) (Nat.le_of_ble_eq_true rfl) kfX12_229 rfl rfl dX12_init_223 dX12_init_225 (fun ad H locs hT_ => ?_)
  replace hT := hT_
  refine lv_aload_n hx hb dX12_init_228 rfl (lv_at hl 0 rfl) ?_
  refine lv_sipush (v := 4240) hx hb dX12_init_229 (by decide) ?_
  refine rfi_row hx hb hK hT hown hin 46 (by decide) (by decide) rfi_sk46 (ty := .byte) rfl rfl ka_byte (by decide) rfl (by decide) rfl (by decide) (Nat.le_of_ble_eq_true rfl) (Nat.le_of_ble_eq_true rfl) kfX12_232 rfl rfl dX12_init_232 dX12_init_234 (fun ad H locs hT_ => ?_)
  replace hT := hT_
  refine lv_aload_n hx hb dX12_init_237 rfl (lv_at hl 0 rfl) ?_
  refine lv_sipush (v := 2200) hx hb dX12_init_238 (by decide) ?_
  refine rfi_row hx hb hK hT hown hin 47 (by decide) (by decide) rfi_sk47 (ty := .int) rfl rfl ka_int (by decide) rfl (by decide) rfl (by decide) (Nat.le_of_ble_eq_true rfl) (Nat.le_of_ble_eq_true rfl) kfX12_235 rfl rfl dX12_init_241 dX12_init_243 (fun ad H locs hT_ => ?_)
  replace hT := hT_
  refine lv_aload_n hx hb dX12_init_246 rfl (lv_at hl 0 rfl) ?_
  refine lv_sipush (v := 2200) hx hb dX12_init_247 (by decide) ?_
  refine rfi_row hx hb hK hT hown hin 48 (by decide) (by decide) rfi_sk48 (ty := .int) rfl rfl ka_int (by decide) rfl (by decide) rfl (by decide) (Nat.le_of_ble_eq_true rfl) (Nat.le_of_ble_eq_true rfl) kfX12_238 rfl rfl dX12_init_250 dX12_init_252 (fun ad H locs hT_ => ?_)
  replace hT := hT_
  refine lv_aload_n hx hb dX12_init_255 rfl (lv_at hl 0 rfl) ?_
  refine lv_sipush (v := 2200) hx hb dX12_init_256 (by decide) ?_
  refine rfi_row hx hb hK hT hown hin 49 (by decide) (by decide) rfi_sk49 (ty := .int) rfl rfl ka_int (by decide) rfl (by decide) rfl (by decide) (Nat.le_of_ble_eq_true rfl) (Nat.le_of_ble_eq_true rfl) kfX12_241 rfl rfl dX12_init_259 dX12_init_261 (fun ad H locs hT_ => ?_)
  replace hT := hT_
  refine lv_aload_n hx hb dX12_init_264 rfl (lv_at hl 0 rfl) ?_
  refine lv_sipush (v := 2200) hx hb dX12_init_265 (by decide) ?_
  refine rfi_row hx hb hK hT hown hin 50 (by decide) (by decide) rfi_sk50 (ty := .int) rfl rfl ka_int (by decide) rfl (by decide) rfl (by decide) (Nat.le_of_ble_eq_true rfl) (Nat.le_of_ble_eq_true rfl) kfX12_244 rfl rfl dX12_init_268 dX12_init_270 (fun ad H locs hT_ => ?_)
  replace hT := hT_
  refine lv_aload_n hx hb dX12_init_273 rfl (lv_at hl 0 rfl) ?_
  refine lv_sipush (v := 2200) hx hb dX12_init_274 (by decide) ?_
  refine rfi_row hx hb hK hT hown hin 51 (by decide) (by decide) rfi_sk51 (ty := .int) rfl rfl ka_int (by decide) rfl (by decide) rfl (by decide) (Nat.le_of_ble_eq_true rfl) (Nat.le_of_ble_eq_true rfl) kfX12_247 rfl rfl dX12_init_277 dX12_init_279 (fun ad H locs hT_ => ?_)
  replace hT := hT_
  refine lv_aload_n hx hb dX12_init_282 rfl (lv_at hl 0 rfl) ?_
  refine lv_sipush (v := 2200) hx hb dX12_init_283 (by decide) ?_
  refine rfi_row hx hb hK hT hown hin 52 (by decide) (by decide) rfi_sk52 (ty := .long) rfl rfl ka_long (by decide) rfl (by decide) rfl (by decide) (Nat.le_of_ble_eq_true rfl) (Nat.le_of_ble_eq_true rfl) kfX12_250 rfl rfl dX12_init_286 dX12_init_288 (fun ad H locs hT_ => ?_)
  replace hT := hT_
  refine lv_aload_n hx hb dX12_init_291 rfl (lv_at hl 0 rfl) ?_
  refine lv_bipush (v := 20) hx hb dX12_init_292 (by decide) ?_
  refine rfi_row hx hb hK hT hown hin 59 (by decide) (by decide) rfi_sk59 (ty := .long) rfl rfl ka_long (by decide) rfl (by decide) rfl (by decide) (Nat.le_of_ble_eq_true rfl) (Nat.le_of_ble_eq_true rfl) kfX12_253 rfl rfl dX12_init_294 dX12_init_296 (fun ad H locs hT_ => ?_)
  replace hT := hT_
  refine lv_aload_n hx hb dX12_init_299 rfl (lv_at hl 0 rfl) ?_
  refine lv_bipush (v := 25) hx hb dX12_init_300 (by decide) ?_
  refine rfi_row hx hb hK hT hown hin 62 (by decide) (by decide) rfi_sk62 (ty := .boolean) rfl rfl ka_boolean (by decide) rfl (by decide) rfl (by decide) (Nat.le_of_ble_eq_true rfl) (Nat.le_of_ble_eq_true rfl) kfX12_256 rfl rfl dX12_init_302 dX12_init_304 (fun ad H locs hT_ => ?_)
  replace hT := hT_
  refine lv_aload_n hx hb dX12_init_307 rfl (lv_at hl 0 rfl) ?_
  refine lv_ldc (v := 48000) hx hb hown (hK.word kkX12_86 rfl) dX12_init_308 ?_
  refine rfi_row hx hb hK hT hown hin 63 (by decide) (by decide) rfi_sk63 (ty := .short) rfl rfl ka_short (by decide) rfl (by decide) rfl (by decide) (Nat.le_of_ble_eq_true rfl) (Nat.le_of_ble_eq_true rfl) kfX12_87 rfl rfl dX12_init_310 dX12_init_312 (fun ad H locs hT_ => ?_)
  replace hT := hT_
  refine lv_aload_n hx hb dX12_init_315 rfl (lv_at hl 0 rfl) ?_
  refine lv_ldc (v := 48000) hx hb hown (hK.word kkX12_86 rfl) dX12_init_316 ?_
  refine rfi_row hx hb hK hT hown hin 64 (by decide) (by decide) rfi_sk64 (ty := .byte) rfl rfl ka_byte (by decide) rfl (by decide) rfl (by decide) (Nat.le_of_ble_eq_true rfl) (Nat.le_of_ble_eq_true rfl) kfX12_260 rfl rfl dX12_init_318 dX12_init_320 (fun ad H locs hT_ => ?_)
  replace hT := hT_
  refine lv_aload_n hx hb dX12_init_323 rfl (lv_at hl 0 rfl) ?_
  refine lv_ldc (v := 48000) hx hb hown (hK.word kkX12_86 rfl) dX12_init_324 ?_
  refine rfi_row hx hb hK hT hown hin 65 (by decide) (by decide) rfi_sk65 (ty := .int) rfl rfl ka_int (by decide) rfl (by decide) rfl (by decide) (Nat.le_of_ble_eq_true rfl) (Nat.le_of_ble_eq_true rfl) kfX12_91 rfl rfl dX12_init_326 dX12_init_328 (fun ad H locs hT_ => ?_)
  replace hT := hT_
  refine lv_aload_n hx hb dX12_init_331 rfl (lv_at hl 0 rfl) ?_
  refine lv_ldc (v := 48000) hx hb hown (hK.word kkX12_86 rfl) dX12_init_332 ?_
  refine rfi_row hx hb hK hT hown hin 66 (by decide) (by decide) rfi_sk66 (ty := .short) rfl rfl ka_short (by decide) rfl (by decide) rfl (by decide) (Nat.le_of_ble_eq_true rfl) (Nat.le_of_ble_eq_true rfl) kfX12_94 rfl rfl dX12_init_334 dX12_init_336 (fun ad H locs hT_ => ?_)
  replace hT := hT_
  refine lv_aload_n hx hb dX12_init_339 rfl (lv_at hl 0 rfl) ?_
  refine lv_bipush (v := 12) hx hb dX12_init_340 (by decide) ?_
  refine rfi_row hx hb hK hT hown hin 67 (by decide) (by decide) rfi_sk67 (ty := .int) rfl rfl ka_int (by decide) rfl (by decide) rfl (by decide) (Nat.le_of_ble_eq_true rfl) (Nat.le_of_ble_eq_true rfl) kfX12_83 rfl rfl dX12_init_342 dX12_init_344 (fun ad H locs hT_ => ?_)
  replace hT := hT_
  refine lv_aload_n hx hb dX12_init_347 rfl (lv_at hl 0 rfl) ?_
  refine lv_sipush (v := 32000) hx hb dX12_init_348 (by decide) ?_
  refine rfi_row hx hb hK hT hown hin 68 (by decide) (by decide) rfi_sk68 (ty := .boolean) rfl rfl ka_boolean (by decide) rfl (by decide) rfl (by decide) (Nat.le_of_ble_eq_true rfl) (Nat.le_of_ble_eq_true rfl) kfX12_263 rfl rfl dX12_init_351 dX12_init_353 (fun ad H locs hT_ => ?_)
  replace hT := hT_
  refine lv_aload_n hx hb dX12_init_356 rfl (lv_at hl 0 rfl) ?_
  refine lv_ldc (v := 48000) hx hb hown (hK.word kkX12_86 rfl) dX12_init_357 ?_
  refine rfi_row hx hb hK hT hown hin 69 (by decide) (by decide) rfi_sk69 (ty := .byte) rfl rfl ka_byte (by decide) rfl (by decide) rfl (by decide) (Nat.le_of_ble_eq_true rfl) (Nat.le_of_ble_eq_true rfl) kfX12_266 rfl rfl dX12_init_359 dX12_init_361 (fun ad H locs hT_ => ?_)
  replace hT := hT_
  refine lv_aload_n hx hb dX12_init_364 rfl (lv_at hl 0 rfl) ?_
  refine lv_ldc (v := 48000) hx hb hown (hK.word kkX12_86 rfl) dX12_init_365 ?_
  refine rfi_row hx hb hK hT hown hin 70 (by decide) (by decide) rfi_sk70 (ty := .short) rfl rfl ka_short (by decide) rfl (by decide) rfl (by decide) (Nat.le_of_ble_eq_true rfl) (Nat.le_of_ble_eq_true rfl) kfX12_269 rfl rfl dX12_init_367 dX12_init_369 (fun ad H locs hT_ => ?_)
  replace hT := hT_
  refine lv_aload_n hx hb dX12_init_372 rfl (lv_at hl 0 rfl) ?_
  refine lv_ldc (v := 48000) hx hb hown (hK.word kkX12_86 rfl) dX12_init_373 ?_
  refine rfi_row hx hb hK hT hown hin 71 (by decide) (by decide) rfi_sk71 (ty := .boolean) rfl rfl ka_boolean (by decide) rfl (by decide) rfl (by decide) (Nat.le_of_ble_eq_true rfl) (Nat.le_of_ble_eq_true rfl) kfX12_272 rfl rfl dX12_init_375 dX12_init_377 (fun ad H locs hT_ => ?_)
  replace hT := hT_
  refine lv_aload_n hx hb dX12_init_380 rfl (lv_at hl 0 rfl) ?_
  refine lv_sipush (v := 500) hx hb dX12_init_381 (by decide) ?_
  refine rfi_row hx hb hK hT hown hin 73 (by decide) (by decide) rfi_sk73 (ty := .short) rfl rfl ka_short (by decide) rfl (by decide) rfl (by decide) (Nat.le_of_ble_eq_true rfl) (Nat.le_of_ble_eq_true rfl) kfX12_275 rfl rfl dX12_init_384 dX12_init_386 (fun ad H locs hT_ => ?_)
  replace hT := hT_
  refine lv_aload_n hx hb dX12_init_389 rfl (lv_at hl 0 rfl) ?_
  refine lv_sipush (v := 500) hx hb dX12_init_390 (by decide) ?_
  refine rfi_row hx hb hK hT hown hin 74 (by decide) (by decide) rfi_sk74 (ty := .short) rfl rfl ka_short (by decide) rfl (by decide) rfl (by decide) (Nat.le_of_ble_eq_true rfl) (Nat.le_of_ble_eq_true rfl) kfX12_278 rfl rfl dX12_init_393 dX12_init_395 (fun ad H locs hT_ => ?_)
  replace hT := hT_
  refine lv_aload_n hx hb dX12_init_398 rfl (lv_at hl 0 rfl) ?_
  refine lv_sipush (v := 500) hx hb dX12_init_399 (by decide) ?_
  refine rfi_row hx hb hK hT hown hin 75 (by decide) (by decide) rfi_sk75 (ty := .short) rfl rfl ka_short (by decide) rfl (by decide) rfl (by decide) (Nat.le_of_ble_eq_true rfl) (Nat.le_of_ble_eq_true rfl) kfX12_281 rfl rfl dX12_init_402 dX12_init_404 (fun ad H locs hT_ => ?_)
  replace hT := hT_
  refine lv_aload_n hx hb dX12_init_407 rfl (lv_at hl 0 rfl) ?_
  refine lv_sipush (v := 500) hx hb dX12_init_408 (by decide) ?_
  refine rfi_row hx hb hK hT hown hin 76 (by decide) (by decide) rfi_sk76 (ty := .short) rfl rfl ka_short (by decide) rfl (by decide) rfl (by decide) (Nat.le_of_ble_eq_true rfl) (Nat.le_of_ble_eq_true rfl) kfX12_284 rfl rfl dX12_init_411 dX12_init_413 (fun ad H locs hT_ => ?_)
  replace hT := hT_
  refine lv_aload_n hx hb dX12_init_416 rfl (lv_at hl 0 rfl) ?_
  refine lv_sipush (v := 500) hx hb dX12_init_417 (by decide) ?_
  refine rfi_row hx hb hK hT hown hin 77 (by decide) (by decide) rfi_sk77 (ty := .int) rfl rfl ka_int (by decide) rfl (by decide) rfl (by decide) (Nat.le_of_ble_eq_true rfl) (Nat.le_of_ble_eq_true rfl) kfX12_287 rfl rfl dX12_init_420 dX12_init_422 (fun ad H locs hT_ => ?_)
  replace hT := hT_
  refine lv_aload_n hx hb dX12_init_425 rfl (lv_at hl 0 rfl) ?_
  refine lv_ldc (v := 48000) hx hb hown (hK.word kkX12_86 rfl) dX12_init_426 ?_
  refine rfi_row hx hb hK hT hown hin 81 (by decide) (by decide) rfi_sk81 (ty := .short) rfl rfl ka_short (by decide) rfl (by decide) rfl (by decide) (Nat.le_of_ble_eq_true rfl) (Nat.le_of_ble_eq_true rfl) kfX12_290 rfl rfl dX12_init_428 dX12_init_430 (fun ad H locs hT_ => ?_)
  replace hT := hT_
  refine lv_aload_n hx hb dX12_init_433 rfl (lv_at hl 0 rfl) ?_
  refine lv_ldc (v := 48000) hx hb hown (hK.word kkX12_86 rfl) dX12_init_434 ?_
  refine rfi_row hx hb hK hT hown hin 82 (by decide) (by decide) rfi_sk82 (ty := .short) rfl rfl ka_short (by decide) rfl (by decide) rfl (by decide) (Nat.le_of_ble_eq_true rfl) (Nat.le_of_ble_eq_true rfl) kfX12_293 rfl rfl dX12_init_436 dX12_init_438 (fun ad H locs hT_ => ?_)
  replace hT := hT_
  refine lv_aload_n hx hb dX12_init_441 rfl (lv_at hl 0 rfl) ?_
  refine lv_sipush (v := 400) hx hb dX12_init_442 (by decide) ?_
  refine rfi_row hx hb hK hT hown hin 84 (by decide) (by decide) rfi_sk84 (ty := .byte) rfl rfl ka_byte (by decide) rfl (by decide) rfl (by decide) (Nat.le_of_ble_eq_true rfl) (Nat.le_of_ble_eq_true rfl) kfX12_296 rfl rfl dX12_init_445 dX12_init_447 (fun ad H locs hT_ => ?_)
  replace hT := hT_
  refine lv_iconst (v := 0) hx hb dX12_init_450 (by decide) ?_
  refine lv_istore_n (lv' := [(1, _), (0, _)]) hx hb dX12_init_451 rfl hl (by decide) rfl (fun ls hl_ => ?_)
  refine lv_iconst (v := 1) hx hb dX12_init_452 (by decide) ?_
  refine lv_istore_n (lv' := [(2, _), (1, _), (0, _)]) hx hb dX12_init_453 rfl hl_ (by decide) rfl (fun ls hl_ => ?_)
  refine lv_iconst (v := 1) hx hb dX12_init_454 (by decide) ?_
  refine lv_istore_n (lv' := [(3, _), (2, _), (1, _), (0, _)]) hx hb dX12_init_455 rfl hl_ (by decide) rfl (fun ls hl_ => ?_)
  replace hT := rfi_T.all hT rfl
  refine t_X12_init_456 rfl hC hO hA ⟨Nat.le_of_ble_eq_true rfl, Nat.le_of_ble_eq_true rfl⟩ (rf_ui (rf_ui rf_z 6 (-1)) 7 (-1)) ?_ 100 1 rfl (Nat.le_refl _) _ _ ls (by rw [show (rf_qf 1).1 = 0 by decide +kernel, rf_qs0 (fun _ => rfl)]; exact hT) (lv_sub hl_ [3, 2, 1, 0] rfl)
  intro H locs ls hT hl
  refine lv_aload_n hx hb dX12_init_552 rfl (lv_at hl 0 rfl) ?_
  refine va_callv (rf_runV hx hb hml hown hK hT (c_X12_emptyLog (post := fun σ => post (ad, σ)) (h ad)) rfl rfl klX12_310 ki_X12_emptyLog ks_X12_emptyLog kn_X12 kc_X12_emptyLog 0 ⟨rfl, by decide, by decide, by decide +kernel⟩ ⟨by decide, by decide⟩ rfl hl.1 rfl (Nat.le_of_ble_eq_true rfl) ⟨Nat.le_of_ble_eq_true rfl, Nat.le_of_ble_eq_true rfl⟩ dX12_init_553) hT.1 (fun q _ h9 => hT.2.2.2 q h9) (fun q h9 => hT.2.2.2 q h9) (fun σ1 t H1 locs1 ht hal hp hB hz hk hS => ?_)
  refine W.widen (Nat.le_of_ble_eq_true rfl) (Nat.le_of_ble_eq_true rfl) (W.vret hC.1 hC.2.1 hC.2.2.2.2.2.1 (fun t2 ht2 hW => ⟨⟨(ad, σ1), rfl, hp, ⟨by rw [ht2, ← ht]; exact hB.1, hT.2.2.1, hT.2.2.2, hK.warm hW⟩⟩, hS.F ht2⟩) hS.2.2 dX12_init_556 hC.2.2.2.2.2.2)
