/-! ===== the reference's constructor: its rows are made one by one ===== -/
def rfi_V (σ : rf_S) (ad : Nat → Nat) (j : Nat) : Nat → Value := fun k => match tyX12 k with
  | .int => .int (σ.1 k)
  | .long => .long (σ.2.1 k)
  | _ => if k < j then .ref (ad k) else .null
def rfi_at (P : hw_G) (o : Nat) (ad : Nat → Nat) (j : Nat) (σ : rf_S) (H : Heap) : Prop :=
  t_OB o (P.1.1 13) 86 (P.1.2 13) H (rfi_V σ ad j) ∧ ∀ (k : Nat) (ty : FieldType), k < j → tyX12 k = .array ty → H[ad k]? = some (arrV (P.2.1 ty) (rf_n k) (rf_row σ k ty))
def rfi_D (o : Nat) (ad : Nat → Nat) (n : Nat) : Prop := (∀ (j k : Nat) (t u : FieldType), j < n → k < n → tyX12 j = .array t → tyX12 k = .array u → ad j = ad k → j = k) ∧ ∀ (k : Nat) (t : FieldType), k < n → tyX12 k = .array t → ad k ≠ o
def rfi_T (P : hw_G) (s : State) (A : Nat → Prop) (o : Nat) (ad : Nat → Nat) (j : Nat) (σ : rf_S) (H : Heap) (locs : List Loc) : Prop :=
  va_S A s.heap H locs ∧ rfi_at P o ad j σ H ∧ rfi_D o ad j ∧ A o ∧ (∀ (k : Nat) (t : FieldType), k < j → tyX12 k = .array t → A (ad k)) ∧ ∀ q, s.heap.size ≤ q → A q
theorem rfi_T.o_lt {P : hw_G} {s : State} {A : Nat → Prop} {o : Nat} {ad : Nat → Nat} {j : Nat} {σ : rf_S} {H : Heap} {locs : List Loc} (h : rfi_T P s A o ad j σ H locs) : o < H.size := by
  obtain ⟨cell, h2, -⟩ := h.2.1.1
  exact (Array.getElem?_eq_some_iff.mp h2).1
theorem rfi_T.a_lt {P : hw_G} {s : State} {A : Nat → Prop} {o : Nat} {ad : Nat → Nat} {j : Nat} {σ : rf_S} {H : Heap} {locs : List Loc} (h : rfi_T P s A o ad j σ H locs) {k : Nat} {t : FieldType} (hk : k < j) (ht : tyX12 k = .array t) : ad k < H.size := (Array.getElem?_eq_some_iff.mp (h.2.1.2 k t hk ht)).1
section RFI
variable {p : Program} {l : Launch} {e : Env} {R : Room} {s : State} {m : MethodId} {args : Array Value} {below : List Frame} {meth : Method} {c : Code} {H : Heap} {locs : List Loc} {cells slots : Nat} {Q : State → Prop}
variable {cc : ByteArray} {pc : Nat} {ls : Array Slot} {rest : List Value} {P : hw_G} {A : Nat → Prop} {o : Nat} {ad : Nat → Nat} {j : Nat} {σ : rf_S}
/-- newarray; putfield -/
theorem rfi_row (hexec : p.tables.exec = Jvm.exec) (hb : c.code = cc) (hK : hw_K P s) (hT : rfi_T P s A o ad j σ H locs) (hown : s.vm.findClass RX12 = some m.cls) (hin2 : meth.name = "<init>") {index : Nat} (k : Nat) (hk : k < 86) (hj : j ≤ k) (hskip : ∀ i, j ≤ i → i < k → ∀ t, tyX12 i ≠ .array t) {atype : ArrayType} {ty : FieldType} (hty : newarray.typeOf atype = ty) (ht : tyX12 k = .array ty) (harr : Cond.arrayClass ty ∈ lw_tbl) (hin : ty ∈ hw_tys) (hdv : (fun _ => defaultValue ty) = rf_row σ k ty) {n : Int32} (hn : ¬ n < 0) (hN : n.toNatClampNeg = rf_n k) (hbytes : rf_n k * componentBytes ty ≤ 536870912) (hcells : cells + 1 ≤ R.cells) (hslots : slots + rf_n k ≤ R.slots) (hlink : Cond.fieldLink RX12 index (TX12 k).1 (TX12 k).2.1 (TX12 k).2.2.1 ∈ lw_tbl) (hfin : (TX12 k).2.2.2 = true) (hdecl : (TX12 k).1 = RX12) (hdn : decode cc pc = .ok (.newarray atype, 2)) (hdg : decode cc (pc + 2) = .ok (.putfield index, 3))
    (kk : ∀ (ad1 : Nat → Nat) (H1 : Heap) (locs1 : List Loc), rfi_T P s A o ad1 (k + 1) σ H1 locs1 → W p l e R s m args below meth c H1 locs1 (cells + 1) (slots + rf_n k) Q (F0 m (pc + 5) ls rest)) : W p l e R s m args below meth c H locs cells slots Q (F0 m pc ls (.int n :: .ref o :: rest)) := by
  subst hty
  refine va_newaK hexec hb (hK.word harr rfl) rfl hdn rfl hn hN hbytes hcells hslots rfl fun H1 cA e1 z1 o1 hAr hNm => ?_
  have hcA : cA = P.2.1 (newarray.typeOf atype) := by
    have h2 := (hK.2.2.1 _ hin).2
    have h3 : s.vm.findClass ("[" ++ (newarray.typeOf atype).toString) = some (P.2.1 (newarray.typeOf atype)) := by
      cases atype <;> exact h2
    exact Option.some.inj (hNm.symm.trans h3)
  subst hcA
  obtain ⟨cell, q1, q2, q3, q4⟩ := hT.2.1.1
  have hoH : o < H.size := hT.o_lt
  have q1' : H1[o]? = some cell := (o1 o hoH).trans q1
  obtain ⟨⟨hS, hfc, kC, hkC, hkind⟩, hinW, hap⟩ := hK.2.1 13 _ rf_c13
  obtain ⟨cf, kf, fi, f, hi, hsl⟩ := hS k hk
  have hlay : (u_lay RX12 TX12 k).before args s = true := hK.lays (args := args) rf_c13 _ (u_in_lay hk)
  unfold u_lay at hlay
  rw [if_pos hfin] at hlay
  have hst := (u_facts hfc hkC (u_lays (hK.lays (args := args) rf_c13) (fun _ h => h) hk) hi).1
  have hcf : m.cls = cf := by
    obtain ⟨_, _, c', _, _, _, -, -, hf', -, -, -, hown2, -⟩ := Cond.laysFinal_spec hlay
    have e1 : c' = cf := by have := hi.symm.trans hf'; simp at this; exact this.1.symm
    rw [hdecl] at hown2
    rw [← e1]; exact Option.some.inj (hown.symm.trans hown2)
  have h6 := u_fits (v := .ref H.size) hfc hkC hkind (Or.inr hlay) hi (tyX12_ok k hk) (by rw [ht]; rfl) (by rw [ht]; rfl)
  refine W.putFinK hexec hb hown (hK.word hlink rfl) hi hst hcf hin2 (by rw [q2]; exact h6) q1' q3 (by rw [hsl]; exact k2_hasslot (q4 k hk)) rfl rfl hdg fun H' g1 g2 g3 => ?_
  rw [hsl] at g1 ⊢
  have hnew : s.heap.size ≤ H.size := hT.1.1
  refine kk (fun i => if i = k then H.size else ad i) H' _ ⟨?_, ⟨?_, ?_⟩, ⟨?_, ?_⟩, hT.2.2.2.1, ?_, hT.2.2.2.2.2⟩
  · have hS1 : va_S A s.heap H1 locs := ⟨Nat.le_trans hT.1.1 (by omega), fun x h1 h2 => (o1 x (Nat.lt_of_lt_of_le h1 hT.1.1)).trans (hT.1.2.1 x h1 h2), hT.1.2.2⟩
    exact hS1.put g2 g3 hT.2.2.2.1
  · refine t_OB.to (V := updV (rfi_V σ ad j) k (.ref H.size)) ⟨_, g1, q2, q3, t_set q4 hap hk _⟩ (fun i _ => ?_)
    by_cases hik : i = k
    · subst hik
      simp [updV, rfi_V, ht]
    · have e9 : updV (rfi_V σ ad j) k (.ref H.size) i = rfi_V σ ad j i := by simp [updV, hik]
      rw [e9]
      cases hy : tyX12 i with
      | array t =>
        by_cases hij : i < j
        · have : i < k + 1 := by omega
          simp [rfi_V, hy, hij, this, hik]
        · have : ¬ i < k + 1 := by
            intro h9
            exact hskip i (by omega) (by omega) t hy
          simp [rfi_V, hy, hij, this]
      | _ => simp [rfi_V, hy] <;> (try (exfalso; revert hy; unfold tyX12; split <;> simp))
  · intro i t hi' hy
    by_cases hik : i = k
    · subst hik
      rw [ht] at hy
      cases hy
      show H'[(if i = i then H.size else ad i)]? = _
      rw [if_pos rfl, g3 H.size (Nat.ne_of_gt hoH), e1, ← hdv]
    · have hij : i < j := by
        apply Classical.byContradiction
        intro h9
        exact hskip i (by omega) (by omega) t hy
      simp only [if_neg hik]
      rw [g3 _ (hT.2.2.1.2 i t hij hy), o1 _ (hT.a_lt hij hy)]
      exact hT.2.1.2 i t hij hy
  · intro a b t u ha hb' hta htb hab
    have lt : ∀ (i : Nat) (t : FieldType), i < k + 1 → ¬ i = k → tyX12 i = .array t → i < j := by
      intro i t h1 h2 h3
      apply Classical.byContradiction
      intro h9
      exact hskip i (by omega) (by omega) t h3
    by_cases h1 : a = k
    · by_cases h2 : b = k
      · rw [h1, h2]
      · exfalso
        have := hT.a_lt (lt b u hb' h2 htb) htb
        simp only [h1, if_pos, if_neg h2] at hab
        omega
    · by_cases h2 : b = k
      · exfalso
        have := hT.a_lt (lt a t ha h1 hta) hta
        simp only [h2, if_pos, if_neg h1] at hab
        omega
      · simp only [if_neg h1, if_neg h2] at hab
        exact hT.2.2.1.1 a b t u (lt a t ha h1 hta) (lt b u hb' h2 htb) hta htb hab
  · intro i t hi' hy
    by_cases hik : i = k
    · simp only [if_pos hik]
      omega
    · have hij : i < j := by
        apply Classical.byContradiction
        intro h9
        exact hskip i (by omega) (by omega) t hy
      simp only [if_neg hik]
      exact hT.2.2.1.2 i t hij hy
  · intro i t hi' hy
    by_cases hik : i = k
    · simp only [if_pos hik]
      exact hT.2.2.2.2.2 _ hnew
    · have hij : i < j := by
        apply Classical.byContradiction
        intro h9
        exact hskip i (by omega) (by omega) t hy
      simp only [if_neg hik]
      exact hT.2.2.2.2.1 i t hij hy
/-- putfield of an int -/
theorem rfi_puti (hexec : p.tables.exec = Jvm.exec) (hb : c.code = cc) (hK : hw_K P s) (hT : rfi_T P s A o ad j σ H locs) (hown : s.vm.findClass RX12 = some m.cls) {index : Nat} (k : Nat) (hk : k < 86) (hlink : Cond.fieldLink RX12 index (TX12 k).1 (TX12 k).2.1 (TX12 k).2.2.1 ∈ lw_tbl) (hfin : (TX12 k).2.2.2 = false) (hty : tyX12 k = .int) {x : Int32} (hdg : decode cc pc = .ok (.putfield index, 3))
    (kk : ∀ (H1 : Heap) (locs1 : List Loc), rfi_T P s A o ad j (rf_ui σ k x) H1 locs1 → W p l e R s m args below meth c H1 locs1 cells slots Q (F0 m (pc + 3) ls rest)) : W p l e R s m args below meth c H locs cells slots Q (F0 m pc ls (.int x :: .ref o :: rest)) := by
  obtain ⟨cell, q1, q2, q3, q4⟩ := hT.2.1.1
  obtain ⟨⟨hS, hfc, kC, hkC, hkind⟩, hin, hap⟩ := hK.2.1 13 _ rf_c13
  obtain ⟨cf, kf, fi, f, hi, hsl⟩ := hS k hk
  have hlay : (u_lay RX12 TX12 k).before args s = true := hK.lays (args := args) rf_c13 _ (u_in_lay hk)
  unfold u_lay at hlay
  rw [if_neg (by rw [hfin]; decide)] at hlay
  have hst := (u_facts hfc hkC (u_lays (hK.lays (args := args) rf_c13) (fun _ h => h) hk) hi).1
  have h6 := u_store (v := .int x) hfc hkC hkind hlay hi (tyX12_ok k hk) (by rw [hty]; rfl) (by rw [hty]; rfl)
  refine W.putK hexec hb (f := f) ⟨hown, hK.word hlink rfl, ⟨_, _, _, hi⟩, hst⟩ (by rw [q2]; exact h6) q1 q3 (by rw [hsl]; exact k2_hasslot (q4 k hk)) rfl rfl hdg fun H' e1 e2 e3 => ?_
  rw [hsl] at e1 ⊢
  refine kk H' _ ⟨hT.1.put e2 e3 hT.2.2.2.1, ⟨t_OB.to (V := updV (rfi_V σ ad j) k (.int x)) ⟨_, e1, q2, q3, t_set q4 hap hk _⟩ (fun i _ => ?_), fun i ty hi ht => ?_⟩, hT.2.2.1, hT.2.2.2.1, hT.2.2.2.2⟩
  · by_cases hik : i = k
    · subst hik
      simp [updV, rfi_V, hty, rf_ui, upd]
    · simp [updV, rfi_V, rf_ui, upd, hik]
  · rw [e3 _ (hT.2.2.1.2 i ty hi ht), hT.2.1.2 i ty hi ht]
    simp only [rf_row, rf_ui]
end RFI
theorem rfi_T.all {P : hw_G} {s : State} {A : Nat → Prop} {o : Nat} {ad : Nat → Nat} {σ : rf_S} {H : Heap} {locs : List Loc} (h : rfi_T P s A o ad 85 σ H locs) (h85 : tyX12 85 = .int) : rf_T P s A o ad σ H locs := by
  have lt : ∀ (k : Nat) (t : FieldType), k < 86 → tyX12 k = .array t → k < 85 := by
    intro k t h1 h2
    apply Classical.byContradiction
    intro h3
    have : k = 85 := by omega
    rw [this, h85] at h2
    cases h2
  refine ⟨h.1, ⟨h.2.1.1.to (fun k hk => ?_), fun k ty hk ht => h.2.1.2 k ty (lt k ty hk ht) ht⟩, ⟨fun j k t u h1 h2 h3 h4 h5 => h.2.2.1.1 j k t u (lt j t h1 h3) (lt k u h2 h4) h3 h4 h5, fun k t h1 h2 => h.2.2.1.2 k t (lt k t h1 h2) h2⟩, fun q hq => ?_⟩
  · by_cases h9 : k < 85
    · cases hy : tyX12 k <;> simp [rfi_V, rf_V, hy, h9]
    · have : k = 85 := by omega
      subst this
      simp [rfi_V, rf_V, h85]
  · rcases hq with rfl | ⟨k, t, h1, h2, rfl⟩
    · exact h.2.2.2.1
    · exact h.2.2.2.2.1 k t (lt k t h1 h2) h2
/-- the class's world with nothing in it -/
def cs_0 : cs_S := (fun _ => 0, fun _ _ => 0, fun _ _ => 0, fun _ _ => none, fun _ => 0, fun _ _ => 0, fun _ _ => 0, fun _ _ => none)
theorem cs_0M (a : Nat) : cs_M cs_0 a = none := by simp [cs_M, cs_k, cs_0]
theorem cs_0T {P : hw_G} {s : State} {A : Nat → Prop} {H : Heap} {locs : List Loc} (h : va_S A s.heap H locs) (hA : ∀ q, s.heap.size ≤ q → A q) : cs_T P s A cs_0 H locs :=
  ⟨h, fun a e h9 => (by rw [cs_0M] at h9; cases h9), fun a e h9 => (by rw [cs_0M] at h9; cases h9), hA⟩
section RFS
variable {p : Program} {l : Launch} {e : Env} {R : Room} {s : State} {m : MethodId} {args : Array Value} {below : List Frame} {meth : Method} {c : Code} {H : Heap} {locs : List Loc} {cells slots : Nat} {Q : State → Prop}
variable {cc : ByteArray} {pc : Nat} {ls : Array Slot} {rest st0 : List Value} {P : hw_G} {A : Nat → Prop} {o : Nat} {ad : Nat → Nat} {σ : rf_S} {a : Array Value}
theorem rfs_calli {post : Int32 → cs_S → Prop} (hr : va_Run p l e R s m args below meth c H locs cells slots 0 0 (F0 m pc ls st0) rest (cs_Qi P (cs_A cs_0 H.size) post a) (cs_A cs_0 H.size)) (hT : rf_T P s A o ad σ H locs) (hA : ∀ q, s.heap.size ≤ q → A q)
    (kk : ∀ (r : Int32) (H1 : Heap) (locs1 : List Loc), (∃ S1, post r S1) → rf_T P s A o ad σ H1 locs1 → W p l e R s m args below meth c H1 locs1 cells slots Q (F0 m (pc + 3) ls (.int r :: rest))) : W p l e R s m args below meth c H locs cells slots Q (F0 m pc ls st0) := by
  have hno : ∀ q, cs_A cs_0 H.size q → H.size ≤ q := by
    rintro q (⟨e9, h9, -⟩ | h9)
    · rw [cs_0M] at h9; cases h9
    · exact h9
  refine va_calli hr hT.1 (fun q _ h => hA q (Nat.le_trans hT.1.1 (hno q h))) (fun q h => hA q (Nat.le_trans hT.1.1 (hno q h))) (fun r u t H1 locs1 ht _ hp hB hz hk hS => kk r H1 locs1 ⟨u, hp⟩ ⟨hS, hT.2.1.kept (fun q hq => hk q (hT.2.1.lt hq) (fun h9 => absurd (hno q h9) (Nat.not_le.mpr (hT.2.1.lt hq)))), hT.2.2⟩)
theorem va_ldcSW (hexec : p.tables.exec = Jvm.exec) (hb : c.code = cc) {own tx : String} {index q : Nat} (hown : s.vm.findClass own = some m.cls) (hZ : vk_R own index tx q s) (hdg : decode cc pc = .ok (.ldc_w index, 3))
    (k : W p l e R s m args below meth c H locs cells slots Q (F0 m (pc + 3) ls (.ref q :: rest))) : W p l e R s m args below meth c H locs cells slots Q (F0 m pc ls rest) := by
  intro T hT X
  obtain ⟨t, a1, b1⟩ := k T hT X
  exact ⟨t, X.ldcStringW hexec hown (text := tx) (a := q) hZ.1 hZ.2 (g := F0 m pc ls rest) rfl (by rw [hb]; exact hdg) t a1, b1⟩
end RFS
