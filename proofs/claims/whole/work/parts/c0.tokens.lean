/-! ===== tokens of a text of rules ===== -/
def bL (b : Nat) : Bool := decide (97 ≤ b ∧ b ≤ 122)
def bD (b : Nat) : Bool := decide (48 ≤ b ∧ b ≤ 57)
def bA (b : Nat) : Bool := bL b || bD b
def bX (b : Nat) : Bool := bA b || decide (b = 46)
def bP (b : Nat) : Bool := decide (32 ≤ b ∧ b ≤ 126 ∧ b ≠ 34)
def bB (b : Nat) : Bool := decide (b = 32 ∨ b = 10)
theorem bL_t {b : Nat} : bL b = true ↔ 97 ≤ b ∧ b ≤ 122 := by simp [bL]
theorem bD_t {b : Nat} : bD b = true ↔ 48 ≤ b ∧ b ≤ 57 := by simp [bD]
theorem bA_t {b : Nat} : bA b = true ↔ (97 ≤ b ∧ b ≤ 122) ∨ (48 ≤ b ∧ b ≤ 57) := by simp [bA, bL, bD]
theorem bX_t {b : Nat} : bX b = true ↔ ((97 ≤ b ∧ b ≤ 122) ∨ (48 ≤ b ∧ b ≤ 57)) ∨ b = 46 := by simp [bX, bA, bL, bD]
theorem bP_t {b : Nat} : bP b = true ↔ 32 ≤ b ∧ b ≤ 126 ∧ b ≠ 34 := by simp [bP]
theorem bB_t {b : Nat} : bB b = true ↔ b = 32 ∨ b = 10 := by simp [bB]
theorem b_ff {b : Bool} : b = false ↔ ¬ b = true := by cases b <;> simp
/-- how many bytes of a kind stand from p on, of the next d -/
def rn (P : Nat → Bool) (bf : Nat → Nat) : Nat → Nat → Nat
  | 0, _ => 0
  | d + 1, p => if P (bf p) = true then rn P bf d (p + 1) + 1 else 0
/-- n bytes of a kind from s on, and then another or the end -/
def rnW (P : Nat → Bool) (bf : Nat → Nat) (z s n : Nat) : Prop := s + n ≤ z ∧ (∀ i, i < n → P (bf (s + i)) = true) ∧ (s + n < z → P (bf (s + n)) = false)
theorem rn_w {P : Nat → Bool} {bf : Nat → Nat} {z : Nat} : ∀ d s, s + d = z → rnW P bf z s (rn P bf d s) := by
  intro d
  induction d with
  | zero => intro s h; exact ⟨by show s + 0 ≤ z; omega, fun i hi => absurd hi (Nat.not_lt_zero _), fun h2 => by have : s + 0 < z := h2; omega⟩
  | succ d ih =>
    intro s h
    rw [rn]
    by_cases hp : P (bf s) = true
    · rw [if_pos hp]
      obtain ⟨a, b, c⟩ := ih (s + 1) (by omega)
      refine ⟨by omega, fun i hi => ?_, fun hz => ?_⟩
      · cases i with
        | zero => exact hp
        | succ i => rw [show s + (i + 1) = s + 1 + i from by omega]; exact b i (by omega)
      · rw [show s + (rn P bf d (s + 1) + 1) = s + 1 + rn P bf d (s + 1) from by omega]
        exact c (by omega)
    · rw [if_neg hp]
      exact ⟨by omega, fun i hi => absurd hi (Nat.not_lt_zero _), fun _ => b_ff.mpr hp⟩
theorem rnW.uni {P : Nat → Bool} {bf : Nat → Nat} {z s n m : Nat} (a : rnW P bf z s n) (b : rnW P bf z s m) : n = m := by
  rcases Nat.lt_trichotomy n m with h | h | h
  · have h1 := b.2.1 n h
    have h2 := b.1
    rw [a.2.2 (by omega)] at h1
    cases h1
  · exact h
  · have h1 := a.2.1 m h
    have h2 := a.1
    rw [b.2.2 (by omega)] at h1
    cases h1
theorem rn_of {P : Nat → Bool} {bf : Nat → Nat} {z s n : Nat} (h : rnW P bf z s n) : rn P bf (z - s) s = n :=
  (rn_w (z - s) s (by have := h.1; omega)).uni h
/-- all of the first j are letters; digits -/
def al (bf : Nat → Nat) (s : Nat) : Nat → Bool
  | 0 => true
  | j + 1 => al bf s j && bL (bf (s + j))
def ag (bf : Nat → Nat) (s : Nat) : Nat → Bool
  | 0 => true
  | j + 1 => ag bf s j && bD (bf (s + j))
theorem al_t {bf : Nat → Nat} {s : Nat} : ∀ n, al bf s n = true ↔ ∀ i, i < n → bL (bf (s + i)) = true := by
  intro n
  induction n with
  | zero => exact ⟨fun _ i hi => absurd hi (Nat.not_lt_zero _), fun _ => rfl⟩
  | succ n ih =>
    rw [al, Bool.and_eq_true, ih]
    constructor
    · rintro ⟨h1, h2⟩ i hi
      by_cases e : i = n
      · rw [e]; exact h2
      · exact h1 i (by omega)
    · exact fun h => ⟨fun i hi => h i (by omega), h n (by omega)⟩
theorem ag_t {bf : Nat → Nat} {s : Nat} : ∀ n, ag bf s n = true ↔ ∀ i, i < n → bD (bf (s + i)) = true := by
  intro n
  induction n with
  | zero => exact ⟨fun _ i hi => absurd hi (Nat.not_lt_zero _), fun _ => rfl⟩
  | succ n ih =>
    rw [ag, Bool.and_eq_true, ih]
    constructor
    · rintro ⟨h1, h2⟩ i hi
      by_cases e : i = n
      · rw [e]; exact h2
      · exact h1 i (by omega)
    · exact fun h => ⟨fun i hi => h i (by omega), h n (by omega)⟩
/-- letters and digits, of which all are digits -/
theorem ag_rn {bf : Nat → Nat} {z s n m : Nat} (a : rnW bA bf z s n) (b : rnW bD bf z s m) : ag bf s n = true ↔ n = m := by
  rw [ag_t]
  constructor
  · intro h
    refine (?_ : rnW bD bf z s n).uni b
    refine ⟨a.1, h, fun hz => ?_⟩
    have := a.2.2 hz
    rw [bA, Bool.or_eq_false_iff] at this
    exact this.2
  · rintro rfl; exact b.2.1
/-- the number of n digits -/
def dv (bf : Nat → Nat) (p : Nat) : Nat → Nat
  | 0 => 0
  | k + 1 => 10 * dv bf p k + (bf (p + k) - 48)
theorem dv_lt {bf : Nat → Nat} {p : Nat} : ∀ n, (∀ i, i < n → bf (p + i) ≤ 57) → dv bf p n < 10 ^ n := by
  intro n
  induction n with
  | zero => intro _; exact Nat.one_pos
  | succ n ih =>
    intro h
    have h1 := ih (fun i hi => h i (by omega))
    have h2 := h n (by omega)
    rw [dv, Nat.pow_succ]
    omega
/-- which word of the twenty -/
def wkl (A : Int64) : Nat → Nat
  | 0 => 2
  | k + 1 => if cw_row k = A then 20 + k else wkl A k
/-- the steps of an address: address, part, digits, dots, good -/
def ad (bf : Nat → Nat) (s : Nat) : Nat → Int32 × Nat × Nat × Nat × Bool
  | 0 => (0, 0, 0, 0, true)
  | k + 1 =>
    if bf (s + k) = 46 then (((ad bf s k).1 <<< (8 &&& 31)) ||| (nI (ad bf s k).2.1 &&& 255), 0, 0, (ad bf s k).2.2.2.1 + 1, (ad bf s k).2.2.2.2 && decide (0 < (ad bf s k).2.2.1))
    else if (ad bf s k).2.2.2.2 = true ∧ bD (bf (s + k)) = true ∧ (ad bf s k).2.2.1 + 1 ≤ 3 then ((ad bf s k).1, 10 * (ad bf s k).2.1 + bf (s + k) - 48, (ad bf s k).2.2.1 + 1, (ad bf s k).2.2.2.1, decide (10 * (ad bf s k).2.1 + bf (s + k) - 48 ≤ 255))
    else ((ad bf s k).1, 0, (ad bf s k).2.2.1 + 1, (ad bf s k).2.2.2.1, false)
abbrev tkT : Type := Nat × Nat × Int64 × Int32
def tkW (bf : Nat → Nat) (s n : Nat) : tkT := if al bf s n = true ∧ n ≤ 8 then (wkl (Int64.ofNat (dg 5 12 (lf bf s) n)) 20, s + n, Int64.ofNat (dg 5 12 (lf bf s) n), 0) else (0, 0, 0, 0)
def nvl (bf : Nat → Nat) (s d n : Nat) : Int := if s < d then - (dv bf d n : Int) else (dv bf d n : Int)
def tkN (bf : Nat → Nat) (s d n : Nat) : tkT := if ag bf d n = true ∧ 1 ≤ n ∧ n ≤ 10 ∧ -2147483648 ≤ nvl bf s d n ∧ nvl bf s d n ≤ 2147483647 then (3, d + n, Int64.ofInt (nvl bf s d n), Int32.ofInt (nvl bf s d n)) else (0, 0, 0, 0)
def adv (bf : Nat → Nat) (s n : Nat) : Int32 := ((ad bf s n).1 <<< (8 &&& 31)) ||| (nI (ad bf s n).2.1 &&& 255)
def tkA (bf : Nat → Nat) (s n : Nat) : tkT := if (ad bf s n).2.2.2.2 = true ∧ (ad bf s n).2.2.2.1 = 3 ∧ 0 < (ad bf s n).2.2.1 then (5, s + n, (adv bf s n).toInt64, adv bf s n) else (0, 0, 0, 0)
def tkQ (bf : Nat → Nat) (z s n : Nat) : tkT := if s + 1 + n < z ∧ bf (s + 1 + n) = 34 ∧ n ≤ 24 then (4, s + n + 2, Int64.ofNat n, nI n) else (0, 0, 0, 0)
/-- a sign: its kind, one or two bytes -/
def sgK (b : Nat) (e : Bool) : Nat := if b = 40 then 6 else if b = 41 then 7 else if b = 44 then 8 else if b = 59 then 9 else if b = 47 then 10 else if b = 61 then 11 else if b = 33 then (if e = true then 12 else 0) else if b = 60 then (if e = true then 14 else 13) else if b = 62 then (if e = true then 16 else 15) else 0
def sg2 (b : Nat) (e : Bool) : Bool := e && decide (b = 33 ∨ b = 60 ∨ b = 62)
def tkG (bf : Nat → Nat) (z s : Nat) : tkT := (sgK (bf s) (decide (s + 1 < z ∧ bf (s + 1) = 61)), s + (if sg2 (bf s) (decide (s + 1 < z ∧ bf (s + 1) = 61)) = true then 2 else 1), 0, if sg2 (bf s) (decide (s + 1 < z ∧ bf (s + 1) = 61)) = true then nI (256 + bf s) else nI (bf s))
/-- the token that begins at s: kind, place behind, amount, the reference's number -/
def tk (bf : Nat → Nat) (z s : Nat) : tkT :=
  if bL (bf s) = true then tkW bf s (rn bA bf (z - s) s)
  else if bf s = 34 then tkQ bf z s (rn bP bf (z - (s + 1)) (s + 1))
  else if bf s = 45 then tkN bf s (s + 1) (rn bA bf (z - (s + 1)) (s + 1))
  else if bD (bf s) = true then (if s + rn bD bf (z - s) s < z ∧ bf (s + rn bD bf (z - s) s) = 46 then tkA bf s (rn bX bf (z - s) s) else tkN bf s s (rn bA bf (z - s) s))
  else tkG bf z s
def sk (bf : Nat → Nat) (z p : Nat) : Nat := p + rn bB bf (z - p) p
/-- where token i begins, of which kind it is, its amount, the reference's number, the place behind -/
def qp (bf : Nat → Nat) (z : Nat) : Nat → Nat
  | 0 => sk bf z 0
  | i + 1 => sk bf z (tk bf z (qp bf z i)).2.1
def tK (bf : Nat → Nat) (z s : Nat) : Nat := if 2000 ≤ s ∧ 2000 < z then 0 else if z ≤ s then 1 else (tk bf z s).1
