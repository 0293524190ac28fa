/-! numbers: an int of the machine as an integer -/
def iv (x : Int) : Int32 := Int32.ofInt x
def sm (x : Int) : Prop := -2147483648 ≤ x ∧ x < 2147483648
theorem iv_toInt {x : Int} (h : sm x) : (iv x).toInt = x := Int32.toInt_ofInt_of_le h.1 h.2
theorem iv_of (x : Int32) : iv x.toInt = x := Int32.ofInt_toInt x
theorem sm_of (x : Int32) : sm x.toInt := ⟨Int32.le_toInt x, Int32.toInt_lt x⟩
theorem iv_add (x y : Int) : iv x + iv y = iv (x + y) := (Int32.ofInt_add x y).symm
theorem iv_sub (x y : Int) : iv x - iv y = iv (x - y) := (Int32.ofInt_sub x y).symm
theorem iv_mul (x y : Int) : iv x * iv y = iv (x * y) := (Int32.ofInt_mul x y).symm
theorem iv_le {x y : Int} (hx : sm x) (hy : sm y) : (iv x ≤ iv y) ↔ x ≤ y := by rw [Int32.le_iff_toInt_le, iv_toInt hx, iv_toInt hy]
theorem iv_lt {x y : Int} (hx : sm x) (hy : sm y) : (iv x < iv y) ↔ x < y := by rw [Int32.lt_iff_toInt_lt, iv_toInt hx, iv_toInt hy]
theorem iv_eq {x y : Int} (hx : sm x) (hy : sm y) : (iv x = iv y) ↔ x = y := by rw [← Int32.toInt_inj, iv_toInt hx, iv_toInt hy]
theorem iv_nat {x : Int} (hx : sm x) : (iv x).toNatClampNeg = x.toNat := by rw [Int32.toNatClampNeg, iv_toInt hx]
theorem iv_natN {k : Nat} (hx : k < 2147483648) : (iv (k : Int)).toNatClampNeg = k := by rw [iv_nat ⟨by omega, by omega⟩]; rfl
theorem iv_inb {x : Int} (hx : sm x) (n : Nat) : inb (iv x) n = decide (0 ≤ x ∧ x < n) := by
  unfold inb
  rw [iv_nat hx]
  have h0 : (iv x < (0 : Int32)) ↔ x < 0 := by
    rw [show (0 : Int32) = iv 0 by decide]
    exact iv_lt hx ⟨by decide, by decide⟩
  rw [decide_eq_decide, h0]
  omega
theorem inb_t {x : Int} {n : Nat} (h0 : 0 ≤ x) (h1 : x < n) (hn : (n : Int) < 2147483648) : inb (iv x) n = true := by
  rw [iv_inb ⟨by omega, by omega⟩]
  exact decide_eq_true ⟨h0, h1⟩
theorem inb_k {k n : Nat} (h1 : k < n) (hn : n < 2147483648) : inb (iv (k : Int)) n = true := inb_t (by omega) (by omega) (by omega)
theorem iv_max {x y : Int} (hx : sm x) (hy : sm y) : imax (iv x) (iv y) = iv (max x y) := by
  unfold imax
  rcases Int.lt_or_le x y with h | h
  · rw [if_pos ((iv_lt hx hy).mpr h), Int.max_eq_right (Int.le_of_lt h)]
  · rw [if_neg (fun q => absurd ((iv_lt hx hy).mp q) (by omega)), Int.max_eq_left h]
theorem iv_min {x y : Int} (hx : sm x) (hy : sm y) : imin (iv x) (iv y) = iv (min x y) := by
  unfold imin
  rcases Int.lt_or_le y x with h | h
  · rw [if_pos ((iv_lt hy hx).mpr h), Int.min_eq_right (Int.le_of_lt h)]
  · rw [if_neg (fun q => absurd ((iv_lt hy hx).mp q) (by omega)), Int.min_eq_left h]
theorem iv_div {x y : Int} (hx : 0 ≤ x ∧ x < 2147483648) (hy : 0 < y ∧ y < 2147483648) : iv x / iv y = iv (x / y) := by
  rw [← Int32.toInt_inj, Int32.toInt_div, iv_toInt ⟨by omega, by omega⟩, iv_toInt ⟨by omega, by omega⟩]
  have h1 : 0 ≤ x / y := Int.ediv_nonneg hx.1 (by omega)
  have h2 : x / y ≤ x := Int.ediv_le_self _ hx.1
  rw [iv_toInt ⟨by omega, by omega⟩, Int.tdiv_eq_ediv_of_nonneg hx.1]
  rw [Int.bmod_eq_of_le (by omega) (by omega)]
theorem iv_mod {x y : Int} (hx : 0 ≤ x ∧ x < 2147483648) (hy : 0 < y ∧ y < 2147483648) : iv x % iv y = iv (x % y) := by
  rw [← Int32.toInt_inj, Int32.toInt_mod, iv_toInt ⟨by omega, by omega⟩, iv_toInt ⟨by omega, by omega⟩]
  have h1 : 0 ≤ x % y := Int.emod_nonneg _ (by omega)
  have h2 : x % y < y := Int.emod_lt_of_pos _ hy.1
  rw [iv_toInt ⟨by omega, by omega⟩, Int.tmod_eq_emod_of_nonneg hx.1]
theorem n_m1 : ((-1) : Int32) = iv (-1) := by decide
theorem n_0 : (0 : Int32) = iv 0 := by decide
theorem n_1 : (1 : Int32) = iv 1 := by decide
theorem n_2 : (2 : Int32) = iv 2 := by decide
theorem n_3 : (3 : Int32) = iv 3 := by decide
theorem n_4 : (4 : Int32) = iv 4 := by decide
theorem n_5 : (5 : Int32) = iv 5 := by decide
theorem n_6 : (6 : Int32) = iv 6 := by decide
theorem n_8 : (8 : Int32) = iv 8 := by decide
theorem zb_0 : zb 0 = true := by decide
theorem zb_1 : zb 1 = true := by decide
/-! bits of a set -/
def bt (s : Nat) (j : Nat) : Bool := s.testBit j
theorem bit_all : ∀ s : Nat, s < 256 → ∀ j : Nat, j < 8 → ((((iv (s : Int)) >>> ((iv (j : Int)) &&& 31)) &&& 1) = 0 ↔ Nat.testBit s j = false) := by decide +kernel
theorem bit_all1 : ∀ s : Nat, s < 256 → ∀ j : Nat, j < 8 → ((((iv (s : Int)) >>> ((iv (j : Int)) &&& 31)) &&& 1) = 1 ↔ Nat.testBit s j = true) := by decide +kernel
theorem bit_or : ∀ s : Nat, s < 256 → ∀ j : Nat, j < 8 → (iv (s : Int)) ||| ((1 : Int32) <<< ((iv (j : Int)) &&& 31)) = iv ((s ||| (1 <<< j) : Nat) : Int) := by decide +kernel
theorem bit_xor : ∀ s : Nat, s < 256 → ∀ j : Nat, j < 8 → (iv (s : Int)) ^^^ ((1 : Int32) <<< ((iv (j : Int)) &&& 31)) = iv ((s ^^^ (1 <<< j) : Nat) : Int) := by decide +kernel
theorem bit_one : ∀ j : Nat, j < 9 → ((1 : Int32) <<< ((iv (j : Int)) &&& 31)) = iv ((1 <<< j : Nat) : Int) := by decide +kernel
