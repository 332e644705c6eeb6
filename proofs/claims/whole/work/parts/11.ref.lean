/-! ===== the reference: one object and its rows; its state by the fields' numbers ===== -/
abbrev rf_S : Type := (Nat → Int32) × (Nat → Int64) × (Nat → Nat → Int32) × (Nat → Nat → Int64)
/-- how long each row is -/
def rf_n : Nat → Nat := fun k => match k with
  | 1 => 2120 | 8 => 4001 | 9 => 4001 | 10 => 4001 | 11 => 4001 | 12 => 4001 | 13 => 32008 | 14 => 32008 | 15 => 32008 | 16 => 32008 | 17 => 32008 | 18 => 24000 | 24 => 32000 | 25 => 65536
  | 35 => 24 | 36 => 24 | 37 => 72 | 38 => 24 | 39 => 24 | 40 => 24 | 41 => 144 | 42 => 24 | 43 => 24 | 44 => 24 | 45 => 24 | 46 => 4240 | 47 => 2200 | 48 => 2200 | 49 => 2200 | 50 => 2200 | 51 => 2200 | 52 => 2200 | 59 => 20
  | 62 => 25 | 63 => 48000 | 64 => 48000 | 65 => 48000 | 66 => 48000 | 67 => 12 | 68 => 32000 | 69 => 48000 | 70 => 48000 | 71 => 48000 | 73 => 500 | 74 => 500 | 75 => 500 | 76 => 500 | 77 => 500 | 81 => 48000 | 82 => 48000 | 84 => 400
  | _ => 0
def rf_V (σ : rf_S) (ad : Nat → Nat) : Nat → Value := fun k => match tyX12 k with
  | .int => .int (σ.1 k)
  | .long => .long (σ.2.1 k)
  | _ => .ref (ad k)
def rf_row (σ : rf_S) (k : Nat) (ty : FieldType) : Nat → Value := match ty with
  | .long => fun j => .long (σ.2.2.2 k j)
  | _ => fun j => .int (σ.2.2.1 k j)
def rf_at (P : hw_G) (o : Nat) (ad : Nat → Nat) (σ : rf_S) (H : Heap) : Prop :=
  t_OB o (P.1.1 13) 86 (P.1.2 13) H (rf_V σ ad) ∧ ∀ (k : Nat) (ty : FieldType), k < 86 → tyX12 k = .array ty → H[ad k]? = some (arrV (P.2.1 ty) (rf_n k) (rf_row σ k ty))
/-- its addresses are apart -/
def rf_D (o : Nat) (ad : Nat → Nat) : Prop := (∀ (j k : Nat) (t u : FieldType), j < 86 → k < 86 → tyX12 j = .array t → tyX12 k = .array u → ad j = ad k → j = k) ∧ ∀ (k : Nat) (t : FieldType), k < 86 → tyX12 k = .array t → ad k ≠ o
def rf_A (o : Nat) (ad : Nat → Nat) : Nat → Prop := fun q => q = o ∨ ∃ (k : Nat) (t : FieldType), k < 86 ∧ tyX12 k = .array t ∧ q = ad k
def rf_T (P : hw_G) (s : State) (A : Nat → Prop) (o : Nat) (ad : Nat → Nat) (σ : rf_S) (H : Heap) (locs : List Loc) : Prop :=
  va_S A s.heap H locs ∧ rf_at P o ad σ H ∧ rf_D o ad ∧ ∀ q, rf_A o ad q → A q
def rf_ui (σ : rf_S) (k : Nat) (x : Int32) : rf_S := (upd σ.1 k x, σ.2)
def rf_ul (σ : rf_S) (k : Nat) (x : Int64) : rf_S := (σ.1, vp_updL σ.2.1 k x, σ.2.2)
def rf_ua (σ : rf_S) (k i : Nat) (x : Int32) : rf_S := (σ.1, σ.2.1, (fun j => if j = k then upd (σ.2.2.1 k) i x else σ.2.2.1 j), σ.2.2.2)
def rf_ub (σ : rf_S) (k i : Nat) (x : Int64) : rf_S := (σ.1, σ.2.1, σ.2.2.1, fun j => if j = k then vp_updL (σ.2.2.2 k) i x else σ.2.2.2 j)
theorem rf_c13 : vwCl[13]? = some (RX12, TX12, 86) := rfl
theorem rf_at.kept {P : hw_G} {o : Nat} {ad : Nat → Nat} {σ : rf_S} {H H1 : Heap} (h : rf_at P o ad σ H) (hq : ∀ q, rf_A o ad q → H1[q]? = H[q]?) : rf_at P o ad σ H1 :=
  ⟨h.1.kept (hq o (Or.inl rfl)), fun k ty hk ht => by rw [hq (ad k) (Or.inr ⟨k, ty, hk, ht, rfl⟩)]; exact h.2 k ty hk ht⟩
theorem rf_at.lt {P : hw_G} {o : Nat} {ad : Nat → Nat} {σ : rf_S} {H : Heap} (h : rf_at P o ad σ H) {q : Nat} (hq : rf_A o ad q) : q < H.size := by
  rcases hq with rfl | ⟨k, ty, hk, ht, rfl⟩
  · obtain ⟨cell, h2, -⟩ := h.1
    exact (Array.getElem?_eq_some_iff.mp h2).1
  · exact (Array.getElem?_eq_some_iff.mp (h.2 k ty hk ht)).1
section RFR
variable {p : Program} {l : Launch} {e : Env} {R : Room} {s : State} {m : MethodId} {args : Array Value} {below : List Frame} {meth : Method} {c : Code} {H : Heap} {locs : List Loc} {cells slots : Nat} {Q : State → Prop}
variable {cc : ByteArray} {pc : Nat} {ls : Array Slot} {rest : List Value} {P : hw_G} {A : Nat → Prop} {o : Nat} {ad : Nat → Nat} {σ : rf_S}
theorem rf_get (hexec : p.tables.exec = Jvm.exec) (hb : c.code = cc) (hK : hw_K P s) (hT : rf_T P s A o ad σ H locs) (hown : s.vm.findClass RX12 = some m.cls) {index : Nat} (k : Nat) (hk : k < 86) (hlink : Cond.fieldLink RX12 index (TX12 k).1 (TX12 k).2.1 (TX12 k).2.2.1 ∈ lw_tbl) {v : Value} (hv : rf_V σ ad k = v) (hdg : decode cc pc = .ok (.getfield index, 3))
    (kk : W p l e R s m args below meth c H locs cells slots Q (F0 m (pc + 3) ls (v :: rest))) : W p l e R s m args below meth c H locs cells slots Q (F0 m pc ls (.ref o :: rest)) := by
  obtain ⟨cell, q1, q2, q3, q4⟩ := hT.2.1.1
  obtain ⟨⟨hS, hfc, kC, hkC, hkind⟩, -, -⟩ := hK.2.1 13 _ rf_c13
  obtain ⟨cf, kf, fi, f, hi, hsl⟩ := hS k hk
  refine W.getf hexec hb hown (hK.word hlink rfl) hi (u_facts hfc hkC (u_lays (hK.lays (args := args) rf_c13) (fun _ h => h) hk) hi).1 q1 (by rw [q3]; exact fun h => by cases h) (v := v) ?_ rfl rfl hdg kk
  rw [hsl, q4 k hk, ← hv]
/-- putfield, by the state that comes of it -/
theorem rf_put (hexec : p.tables.exec = Jvm.exec) (hb : c.code = cc) (hK : hw_K P s) (hT : rf_T P s A o ad σ H locs) (hown : s.vm.findClass RX12 = some m.cls) {index : Nat} (k : Nat) (hk : k < 86) (hlink : Cond.fieldLink RX12 index (TX12 k).1 (TX12 k).2.1 (TX12 k).2.2.1 ∈ lw_tbl) (hfin : (TX12 k).2.2.2 = false) {v : Value} (hn : narrow (tyX12 k) v = v) (hfit : fits (tyX12 k) v = true) {σ' : rf_S} (hσ : ∀ j, j < 86 → updV (rf_V σ ad) k v j = rf_V σ' ad j) (hr : σ'.2.2 = σ.2.2) (hdg : decode cc pc = .ok (.putfield index, 3))
    (kk : ∀ (H1 : Heap) (locs1 : List Loc), rf_T P s A o ad σ' H1 locs1 → W p l e R s m args below meth c H1 locs1 cells slots Q (F0 m (pc + 3) ls rest)) : W p l e R s m args below meth c H locs cells slots Q (F0 m pc ls (v :: .ref o :: rest)) := by
  obtain ⟨cell, q1, q2, q3, q4⟩ := hT.2.1.1
  obtain ⟨⟨hS, hfc, kC, hkC, hkind⟩, hin, hap⟩ := hK.2.1 13 _ rf_c13
  obtain ⟨cf, kf, fi, f, hi, hsl⟩ := hS k hk
  have hlay : (u_lay RX12 TX12 k).before args s = true := hK.lays (args := args) rf_c13 _ (u_in_lay hk)
  unfold u_lay at hlay
  rw [if_neg (by rw [hfin]; decide)] at hlay
  have hst := (u_facts hfc hkC (u_lays (hK.lays (args := args) rf_c13) (fun _ h => h) hk) hi).1
  have h6 := u_store hfc hkC hkind hlay hi (tyX12_ok k hk) hn hfit
  refine W.putK hexec hb (f := f) ⟨hown, hK.word hlink rfl, ⟨_, _, _, hi⟩, hst⟩ (by rw [q2]; exact h6) q1 q3 (by rw [hsl]; exact k2_hasslot (q4 k hk)) rfl rfl hdg fun H' e1 e2 e3 => ?_
  rw [hsl] at e1 ⊢
  refine kk H' _ ⟨hT.1.put e2 e3 (hT.2.2.2 o (Or.inl rfl)), ⟨t_OB.to (V := updV (rf_V σ ad) k v) ⟨_, e1, q2, q3, t_set q4 hap hk v⟩ hσ, fun j ty hj ht => ?_⟩, hT.2.2.1, hT.2.2.2⟩
  rw [e3 _ (hT.2.2.1.2 j ty hj ht), hT.2.1.2 j ty hj ht]
  simp only [rf_row, hr]
theorem rf_V_ui {σ : rf_S} {ad : Nat → Nat} {k : Nat} {x : Int32} (h : tyX12 k = .int) (j : Nat) : updV (rf_V σ ad) k (.int x) j = rf_V (rf_ui σ k x) ad j := by
  by_cases hj : j = k
  · subst hj
    simp [updV, rf_V, rf_ui, upd, h]
  · simp [updV, rf_V, rf_ui, upd, hj]
theorem rf_V_ul {σ : rf_S} {ad : Nat → Nat} {k : Nat} {x : Int64} (h : tyX12 k = .long) (j : Nat) : updV (rf_V σ ad) k (.long x) j = rf_V (rf_ul σ k x) ad j := by
  by_cases hj : j = k
  · subst hj
    simp [updV, rf_V, rf_ul, vp_updL, h]
  · simp [updV, rf_V, rf_ul, vp_updL, hj]
theorem rf_puti (hexec : p.tables.exec = Jvm.exec) (hb : c.code = cc) (hK : hw_K P s) (hT : rf_T P s A o ad σ H locs) (hown : s.vm.findClass RX12 = some m.cls) {index : Nat} (k : Nat) (hk : k < 86) (hlink : Cond.fieldLink RX12 index (TX12 k).1 (TX12 k).2.1 (TX12 k).2.2.1 ∈ lw_tbl) (hfin : (TX12 k).2.2.2 = false) (hty : tyX12 k = .int) {x : Int32} (hdg : decode cc pc = .ok (.putfield index, 3))
    (kk : ∀ (H1 : Heap) (locs1 : List Loc), rf_T P s A o ad (rf_ui σ k x) H1 locs1 → W p l e R s m args below meth c H1 locs1 cells slots Q (F0 m (pc + 3) ls rest)) : W p l e R s m args below meth c H locs cells slots Q (F0 m pc ls (.int x :: .ref o :: rest)) :=
  rf_put hexec hb hK hT hown k hk hlink hfin (by rw [hty]; rfl) (by rw [hty]; rfl) (fun j _ => rf_V_ui hty j) rfl hdg kk
theorem rf_putl (hexec : p.tables.exec = Jvm.exec) (hb : c.code = cc) (hK : hw_K P s) (hT : rf_T P s A o ad σ H locs) (hown : s.vm.findClass RX12 = some m.cls) {index : Nat} (k : Nat) (hk : k < 86) (hlink : Cond.fieldLink RX12 index (TX12 k).1 (TX12 k).2.1 (TX12 k).2.2.1 ∈ lw_tbl) (hfin : (TX12 k).2.2.2 = false) (hty : tyX12 k = .long) {x : Int64} (hdg : decode cc pc = .ok (.putfield index, 3))
    (kk : ∀ (H1 : Heap) (locs1 : List Loc), rf_T P s A o ad (rf_ul σ k x) H1 locs1 → W p l e R s m args below meth c H1 locs1 cells slots Q (F0 m (pc + 3) ls rest)) : W p l e R s m args below meth c H locs cells slots Q (F0 m pc ls (.long x :: .ref o :: rest)) :=
  rf_put hexec hb hK hT hown k hk hlink hfin (by rw [hty]; rfl) (by rw [hty]; rfl) (fun j _ => rf_V_ul hty j) rfl hdg kk
/-- a row is written -/
theorem rf_T.row {H1 : Heap} {k i : Nat} {ty : FieldType} {σ' : rf_S} (hT : rf_T P s A o ad σ H locs) (hk : k < 86) (ht : tyX12 k = .array ty) (hV : ∀ j, rf_V σ ad j = rf_V σ' ad j) (hr : ∀ (j : Nat) (u : FieldType), j ≠ k → rf_row σ j u = rf_row σ' j u) (e : H1[ad k]? = some (arrV (P.2.1 ty) (rf_n k) (rf_row σ' k ty))) (z : H1.size = H.size) (oq : ∀ q, q ≠ ad k → H1[q]? = H[q]?) : rf_T P s A o ad σ' H1 (locs ++ [⟨ad k, i⟩]) := by
  refine ⟨hT.1.put z oq (hT.2.2.2 _ (Or.inr ⟨k, ty, hk, ht, rfl⟩)), ⟨(hT.2.1.1.kept (oq o (fun h => hT.2.2.1.2 k ty hk ht h.symm))).to (fun j _ => hV j), fun j u hj hu => ?_⟩, hT.2.2.1, hT.2.2.2⟩
  by_cases hjk : j = k
  · subst hjk
    have : u = ty := by rw [ht] at hu; cases hu; rfl
    subst this
    exact e
  · rw [oq _ (fun h => hjk (hT.2.2.1.1 j k u ty hj hk hu ht h)), hT.2.1.2 j u hj hu, hr j u hjk]
theorem rf_alen (hexec : p.tables.exec = Jvm.exec) (hb : c.code = cc) (hK : hw_K P s) (hT : rf_T P s A o ad σ H locs) (k : Nat) (hk : k < 86) {ty : FieldType} (ht : tyX12 k = .array ty) (hin : ty ∈ hw_tys) {v : Int32} (hv : Int32.ofNat (rf_n k) = v) (hdg : decode cc pc = .ok (.arraylength, 1))
    (kk : W p l e R s m args below meth c H locs cells slots Q (F0 m (pc + 1) ls (.int v :: rest))) : W p l e R s m args below meth c H locs cells slots Q (F0 m pc ls (.ref (ad k) :: rest)) := by
  subst hv
  exact W.alen (n := Int32.ofNat (rf_n k)) hexec hb (hT.2.1.2 k ty hk ht) ((hK.2.2.1 _ hin).1 _ _) (by rw [arrV_size] <;> rfl) rfl rfl hdg kk
theorem rf_iald (hexec : p.tables.exec = Jvm.exec) (hb : c.code = cc) (hK : hw_K P s) (hT : rf_T P s A o ad σ H locs) (k : Nat) (hk : k < 86) (ht : tyX12 k = .array .int) {i : Int32} (hin : vp_in i (rf_n k)) {v : Int32} (hv : σ.2.2.1 k i.toNatClampNeg = v) (hdg : decode cc pc = .ok (.iaload, 1))
    (kk : W p l e R s m args below meth c H locs cells slots Q (F0 m (pc + 1) ls (.int v :: rest))) : W p l e R s m args below meth c H locs cells slots Q (F0 m pc ls (.int i :: .ref (ad k) :: rest)) := by
  subst hv
  have hlt : i.toNatClampNeg < rf_n k := Nat.not_le.mp fun q => hin (Or.inr q)
  exact W.iald (v := .int (σ.2.2.1 k i.toNatClampNeg)) hexec hb (hT.2.1.2 k _ hk ht) ((hK.2.2.1 .int (by decide)).1 _ _) (fun q => by cases q) (by show ¬ (i < 0 ∨ (arrV _ _ _).slots.size ≤ _); rw [arrV_size]; exact hin) (by show (arrV _ _ _).slots[_]? = _; rw [arrV_read _ _ hlt]; rfl) rfl rfl hdg kk
theorem rf_bald (hexec : p.tables.exec = Jvm.exec) (hb : c.code = cc) (hK : hw_K P s) (hT : rf_T P s A o ad σ H locs) (k : Nat) (hk : k < 86) (ht : tyX12 k = .array .byte) {i : Int32} (hin : vp_in i (rf_n k)) {v : Int32} (hv : σ.2.2.1 k i.toNatClampNeg = v) (hdg : decode cc pc = .ok (.baload, 1))
    (kk : W p l e R s m args below meth c H locs cells slots Q (F0 m (pc + 1) ls (.int v :: rest))) : W p l e R s m args below meth c H locs cells slots Q (F0 m pc ls (.int i :: .ref (ad k) :: rest)) := by
  subst hv
  have hlt : i.toNatClampNeg < rf_n k := Nat.not_le.mp fun q => hin (Or.inr q)
  exact W.bald (v := .int (σ.2.2.1 k i.toNatClampNeg)) hexec hb (hT.2.1.2 k _ hk ht) ((hK.2.2.1 .byte (by decide)).1 _ _) (fun q => by cases q) (by show ¬ (i < 0 ∨ (arrV _ _ _).slots.size ≤ _); rw [arrV_size]; exact hin) (by show (arrV _ _ _).slots[_]? = _; rw [arrV_read _ _ hlt]; rfl) rfl rfl hdg kk
theorem rf_sald (hexec : p.tables.exec = Jvm.exec) (hb : c.code = cc) (hK : hw_K P s) (hT : rf_T P s A o ad σ H locs) (k : Nat) (hk : k < 86) (ht : tyX12 k = .array .short) {i : Int32} (hin : vp_in i (rf_n k)) {v : Int32} (hv : σ.2.2.1 k i.toNatClampNeg = v) (hdg : decode cc pc = .ok (.saload, 1))
    (kk : W p l e R s m args below meth c H locs cells slots Q (F0 m (pc + 1) ls (.int v :: rest))) : W p l e R s m args below meth c H locs cells slots Q (F0 m pc ls (.int i :: .ref (ad k) :: rest)) := by
  subst hv
  have hlt : i.toNatClampNeg < rf_n k := Nat.not_le.mp fun q => hin (Or.inr q)
  exact W.sald (v := .int (σ.2.2.1 k i.toNatClampNeg)) hexec hb (hT.2.1.2 k _ hk ht) ((hK.2.2.1 .short (by decide)).1 _ _) (fun q => by cases q) (by show ¬ (i < 0 ∨ (arrV _ _ _).slots.size ≤ _); rw [arrV_size]; exact hin) (by show (arrV _ _ _).slots[_]? = _; rw [arrV_read _ _ hlt]; rfl) rfl rfl hdg kk
theorem rf_zald (hexec : p.tables.exec = Jvm.exec) (hb : c.code = cc) (hK : hw_K P s) (hT : rf_T P s A o ad σ H locs) (k : Nat) (hk : k < 86) (ht : tyX12 k = .array .boolean) {i : Int32} (hin : vp_in i (rf_n k)) {v : Int32} (hv : σ.2.2.1 k i.toNatClampNeg = v) (hdg : decode cc pc = .ok (.baload, 1))
    (kk : W p l e R s m args below meth c H locs cells slots Q (F0 m (pc + 1) ls (.int v :: rest))) : W p l e R s m args below meth c H locs cells slots Q (F0 m pc ls (.int i :: .ref (ad k) :: rest)) := by
  subst hv
  have hlt : i.toNatClampNeg < rf_n k := Nat.not_le.mp fun q => hin (Or.inr q)
  exact W.zald (v := .int (σ.2.2.1 k i.toNatClampNeg)) hexec hb (hT.2.1.2 k _ hk ht) ((hK.2.2.1 .boolean (by decide)).1 _ _) (fun q => by cases q) (by show ¬ (i < 0 ∨ (arrV _ _ _).slots.size ≤ _); rw [arrV_size]; exact hin) (by show (arrV _ _ _).slots[_]? = _; rw [arrV_read _ _ hlt]; rfl) rfl rfl hdg kk
theorem rf_lald (hexec : p.tables.exec = Jvm.exec) (hb : c.code = cc) (hK : hw_K P s) (hT : rf_T P s A o ad σ H locs) (k : Nat) (hk : k < 86) (ht : tyX12 k = .array .long) {i : Int32} (hin : vp_in i (rf_n k)) {v : Int64} (hv : σ.2.2.2 k i.toNatClampNeg = v) (hdg : decode cc pc = .ok (.laload, 1))
    (kk : W p l e R s m args below meth c H locs cells slots Q (F0 m (pc + 1) ls (.long v :: rest))) : W p l e R s m args below meth c H locs cells slots Q (F0 m pc ls (.int i :: .ref (ad k) :: rest)) := by
  subst hv
  have hlt : i.toNatClampNeg < rf_n k := Nat.not_le.mp fun q => hin (Or.inr q)
  exact W.lald (v := .long (σ.2.2.2 k i.toNatClampNeg)) hexec hb (hT.2.1.2 k _ hk ht) ((hK.2.2.1 .long (by decide)).1 _ _) (fun q => by cases q) (by show ¬ (i < 0 ∨ (arrV _ _ _).slots.size ≤ _); rw [arrV_size]; exact hin) (by show (arrV _ _ _).slots[_]? = _; rw [arrV_read _ _ hlt]; rfl) rfl rfl hdg kk
theorem rf_iast (hexec : p.tables.exec = Jvm.exec) (hb : c.code = cc) (hK : hw_K P s) (hT : rf_T P s A o ad σ H locs) (k : Nat) (hk : k < 86) (ht : tyX12 k = .array .int) {i : Int32} {x : Int32} (hin : vp_in i (rf_n k)) (hdg : decode cc pc = .ok (.iastore, 1))
    (kk : ∀ (H1 : Heap) (locs1 : List Loc), rf_T P s A o ad (rf_ua σ k i.toNatClampNeg x) H1 locs1 → W p l e R s m args below meth c H1 locs1 cells slots Q (F0 m (pc + 1) ls rest)) : W p l e R s m args below meth c H locs cells slots Q (F0 m pc ls (.int x :: .int i :: .ref (ad k) :: rest)) := by
  refine W.iast hexec hb (hT.2.1.2 k _ hk ht) ((hK.2.2.1 .int (by decide)).1 _ _) (fun q => by cases q) (by show ¬ (i < 0 ∨ (arrV _ _ _).slots.size ≤ _); rw [arrV_size]; exact hin) rfl rfl hdg fun H1 e z oq => ?_
  refine kk H1 _ (hT.row hk ht (fun j => rfl) (fun j v hj => ?_) ?_ z oq)
  · cases v <;> simp [rf_row, rf_ua, hj]
  · rw [e, arrV_store]
    congr 2
    funext q
    by_cases hq : q = i.toNatClampNeg
    · subst hq
      simp [updV, rf_ua, rf_row, upd, vp_nar, narrow]
    · simp [updV, rf_ua, rf_row, upd, hq]
theorem rf_bast (hexec : p.tables.exec = Jvm.exec) (hb : c.code = cc) (hK : hw_K P s) (hT : rf_T P s A o ad σ H locs) (k : Nat) (hk : k < 86) (ht : tyX12 k = .array .byte) {i : Int32} {x : Int32} (hin : vp_in i (rf_n k)) (hdg : decode cc pc = .ok (.bastore, 1))
    (kk : ∀ (H1 : Heap) (locs1 : List Loc), rf_T P s A o ad (rf_ua σ k i.toNatClampNeg (vp_nar .byte x)) H1 locs1 → W p l e R s m args below meth c H1 locs1 cells slots Q (F0 m (pc + 1) ls rest)) : W p l e R s m args below meth c H locs cells slots Q (F0 m pc ls (.int x :: .int i :: .ref (ad k) :: rest)) := by
  refine W.bast hexec hb (hT.2.1.2 k _ hk ht) ((hK.2.2.1 .byte (by decide)).1 _ _) (fun q => by cases q) (by show ¬ (i < 0 ∨ (arrV _ _ _).slots.size ≤ _); rw [arrV_size]; exact hin) rfl rfl hdg fun H1 e z oq => ?_
  refine kk H1 _ (hT.row hk ht (fun j => rfl) (fun j v hj => ?_) ?_ z oq)
  · cases v <;> simp [rf_row, rf_ua, hj]
  · rw [e, arrV_store]
    congr 2
    funext q
    by_cases hq : q = i.toNatClampNeg
    · subst hq
      simp [updV, rf_ua, rf_row, upd, vp_nar, narrow]
    · simp [updV, rf_ua, rf_row, upd, hq]
theorem rf_sast (hexec : p.tables.exec = Jvm.exec) (hb : c.code = cc) (hK : hw_K P s) (hT : rf_T P s A o ad σ H locs) (k : Nat) (hk : k < 86) (ht : tyX12 k = .array .short) {i : Int32} {x : Int32} (hin : vp_in i (rf_n k)) (hdg : decode cc pc = .ok (.sastore, 1))
    (kk : ∀ (H1 : Heap) (locs1 : List Loc), rf_T P s A o ad (rf_ua σ k i.toNatClampNeg (vp_nar .short x)) H1 locs1 → W p l e R s m args below meth c H1 locs1 cells slots Q (F0 m (pc + 1) ls rest)) : W p l e R s m args below meth c H locs cells slots Q (F0 m pc ls (.int x :: .int i :: .ref (ad k) :: rest)) := by
  refine W.sast hexec hb (hT.2.1.2 k _ hk ht) ((hK.2.2.1 .short (by decide)).1 _ _) (fun q => by cases q) (by show ¬ (i < 0 ∨ (arrV _ _ _).slots.size ≤ _); rw [arrV_size]; exact hin) rfl rfl hdg fun H1 e z oq => ?_
  refine kk H1 _ (hT.row hk ht (fun j => rfl) (fun j v hj => ?_) ?_ z oq)
  · cases v <;> simp [rf_row, rf_ua, hj]
  · rw [e, arrV_store]
    congr 2
    funext q
    by_cases hq : q = i.toNatClampNeg
    · subst hq
      simp [updV, rf_ua, rf_row, upd, vp_nar, narrow]
    · simp [updV, rf_ua, rf_row, upd, hq]
theorem rf_zast (hexec : p.tables.exec = Jvm.exec) (hb : c.code = cc) (hK : hw_K P s) (hT : rf_T P s A o ad σ H locs) (k : Nat) (hk : k < 86) (ht : tyX12 k = .array .boolean) {i : Int32} {x : Int32} (hin : vp_in i (rf_n k)) (hdg : decode cc pc = .ok (.bastore, 1))
    (kk : ∀ (H1 : Heap) (locs1 : List Loc), rf_T P s A o ad (rf_ua σ k i.toNatClampNeg (vp_nar .boolean x)) H1 locs1 → W p l e R s m args below meth c H1 locs1 cells slots Q (F0 m (pc + 1) ls rest)) : W p l e R s m args below meth c H locs cells slots Q (F0 m pc ls (.int x :: .int i :: .ref (ad k) :: rest)) := by
  refine W.zast hexec hb (hT.2.1.2 k _ hk ht) ((hK.2.2.1 .boolean (by decide)).1 _ _) (fun q => by cases q) (by show ¬ (i < 0 ∨ (arrV _ _ _).slots.size ≤ _); rw [arrV_size]; exact hin) rfl rfl hdg fun H1 e z oq => ?_
  refine kk H1 _ (hT.row hk ht (fun j => rfl) (fun j v hj => ?_) ?_ z oq)
  · cases v <;> simp [rf_row, rf_ua, hj]
  · rw [e, arrV_store]
    congr 2
    funext q
    by_cases hq : q = i.toNatClampNeg
    · subst hq
      simp [updV, rf_ua, rf_row, upd, vp_nar, narrow]
    · simp [updV, rf_ua, rf_row, upd, hq]
theorem rf_last (hexec : p.tables.exec = Jvm.exec) (hb : c.code = cc) (hK : hw_K P s) (hT : rf_T P s A o ad σ H locs) (k : Nat) (hk : k < 86) (ht : tyX12 k = .array .long) {i : Int32} {x : Int64} (hin : vp_in i (rf_n k)) (hdg : decode cc pc = .ok (.lastore, 1))
    (kk : ∀ (H1 : Heap) (locs1 : List Loc), rf_T P s A o ad (rf_ub σ k i.toNatClampNeg x) H1 locs1 → W p l e R s m args below meth c H1 locs1 cells slots Q (F0 m (pc + 1) ls rest)) : W p l e R s m args below meth c H locs cells slots Q (F0 m pc ls (.long x :: .int i :: .ref (ad k) :: rest)) := by
  refine W.last hexec hb (hT.2.1.2 k _ hk ht) ((hK.2.2.1 .long (by decide)).1 _ _) (fun q => by cases q) (by show ¬ (i < 0 ∨ (arrV _ _ _).slots.size ≤ _); rw [arrV_size]; exact hin) rfl rfl hdg fun H1 e z oq => ?_
  refine kk H1 _ (hT.row hk ht (fun j => rfl) (fun j v hj => ?_) ?_ z oq)
  · cases v <;> simp [rf_row, rf_ub, hj]
  · rw [e, arrV_store]
    congr 2
    funext q
    by_cases hq : q = i.toNatClampNeg
    · subst hq
      simp [updV, rf_ub, rf_row, vp_updL, vp_nar, narrow]
    · simp [updV, rf_ub, rf_row, vp_updL, hq]
end RFR
