/-! ===== what a made event may cost ===== -/
theorem sS_const {lo : Nat} {c : Int} : ∀ r, sS (fun _ => True) (fun _ => c) lo r = c * r := by
  intro r
  induction r with
  | zero => rw [sS]; simp
  | succ r ih =>
    rw [sS, ih, one_y (P := True) trivial]
    have : c * ((r + 1 : Nat) : Int) = c * r + c := by rw [Int.natCast_add, Int.mul_add]; simp
    rw [this]
    simp
theorem al_made {σ : rf_S} {p0 p1 t mk e r d nr : Nat} (hm : ¬ σ.2.2.1 10 e = -1) (hd : r + 1 + d = nr) (hnr : nr ≤ 12) : sS (fun _ => True) (fun r' => (alB p0 p1 t mk σ e r' : Int)) (r + 1) d ≤ (((pcB p0 p1 σ e + t) * (11 - r) : Nat) : Int) := by
  have e1 : (fun r' => (alB p0 p1 t mk σ e r' : Int)) = fun _ => ((pcB p0 p1 σ e + t : Nat) : Int) := funext fun r' => by
    unfold alB lcB
    rw [if_neg hm, Nat.add_zero]
  rw [e1, sS_const, ← Int.natCast_mul]
  have : (pcB p0 p1 σ e + t) * d ≤ (pcB p0 p1 σ e + t) * (11 - r) := Nat.mul_le_mul_left _ (by omega)
  omega
