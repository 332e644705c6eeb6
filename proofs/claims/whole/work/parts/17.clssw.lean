theorem hw_osw {z a o d : Int} {r : List (Int × Int)} (h : ¬ z = a) : Op.lookupswitch.offset ((a, o) :: r) d z = Op.lookupswitch.offset r d z := by
  rw [Op.lookupswitch.offset_cons, if_neg]
  intro q
  exact h q.symm
theorem hw_cat2 (st : List Value) : (st.map fun v => v.category).sum ≤ 2 * st.length := by
  induction st with
  | nil => simp
  | cons a r ih =>
    have h := lv_cat a
    simp only [List.map_cons, List.sum_cons, List.length_cons]
    omega
theorem hw_cat8 {st : List Value} (h : st.length ≤ 4) : (st.map fun v => v.category).sum ≤ 8 := by
  have := hw_cat2 st
  omega
theorem hw_catN {st : List Value} {k n : Nat} (h : st.length ≤ 4) (hn : 8 + k ≤ n) : (st.map fun v => v.category).sum + k ≤ n := by
  have := hw_cat2 st
  omega
