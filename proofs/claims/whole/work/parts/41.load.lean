/-! LOAD: when each comes, what it takes and cools -/
theorem iv_s (k : Nat) : iv (k : Int) + 1 = iv ((k + 1 : Nat) : Int) := by
  rw [n_1, iv_add]
  rfl
theorem iv_lt0 {x : Int} (hx : sm x) : (iv x < 0) ↔ x < 0 := by
  rw [n_0]
  exact iv_lt hx ⟨by decide, by decide⟩
theorem iv_ge0 {x : Int} (hx : sm x) : (0 ≤ iv x) ↔ 0 ≤ x := by
  rw [n_0]
  exact iv_le ⟨by decide, by decide⟩ hx
theorem iv_eqm1 {x : Int} (hx : sm x) : (iv x = (-1)) ↔ x = -1 := by
  rw [n_m1]
  exact iv_eq hx ⟨by decide, by decide⟩
theorem iv_8le {x : Int} (hx : sm x) : (8 ≤ iv x) ↔ 8 ≤ x := by
  rw [n_8]
  exact iv_le ⟨by decide, by decide⟩ hx
theorem iv_lt8 {x : Int} (hx : sm x) : (iv x < 8) ↔ x < 8 := by
  rw [n_8]
  exact iv_lt hx ⟨by decide, by decide⟩
theorem sm_k {k : Nat} (h : k < 2147483648) : sm (k : Int) := ⟨by omega, by omega⟩
def LD (z : St) (o n : Nat) (c t q : Nat → Int) : Prop := z.1 o 3 = iv (n : Int) ∧ n ≤ 8 ∧ ∀ j, j < n → z.1 (rf o 0) j = iv (c j) ∧ z.1 (rf o 1) j = iv (t j) ∧ z.1 (rf o 2) j = iv (q j)
def BD (n : Nat) (c t q : Nat → Int) : Prop := ∀ j, j < n → (0 ≤ c j ∧ c j ≤ 900) ∧ (1 ≤ t j ∧ t j ≤ 25) ∧ (0 ≤ q j ∧ q j ≤ 900)
noncomputable def nbS (c t q : Nat → Int) (s : Nat) (h : Int) (k : Nat) (b : Int) : Int := if Nat.testBit s k = false ∧ c k ≤ h ∧ (b < 0 ∨ q b.toNat < q k ∨ (q k = q b.toNat ∧ t b.toNat < t k)) then (k : Int) else b
noncomputable def nb (c t q : Nat → Int) (s : Nat) (h : Int) : Nat → Int
  | 0 => -1
  | k + 1 => nbS c t q s h k (nb c t q s h k)
theorem nb_lt {c t q : Nat → Int} {s : Nat} {h : Int} : ∀ k : Nat, -1 ≤ nb c t q s h k ∧ nb c t q s h k < k
  | 0 => by
    show -1 ≤ (-1 : Int) ∧ (-1 : Int) < 0
    decide
  | k + 1 => by
    have ih := nb_lt (c := c) (t := t) (q := q) (s := s) (h := h) k
    show -1 ≤ nbS c t q s h k _ ∧ nbS c t q s h k _ < _
    unfold nbS
    split
    · constructor <;> omega
    · constructor <;> omega
theorem sm_b {x : Int} (h : 0 ≤ x) (h2 : x ≤ 2000) : sm x := ⟨by omega, by omega⟩
theorem sm_b' {x : Int} (h : 1 ≤ x) (h2 : x ≤ 25) : sm x := ⟨by omega, by omega⟩
theorem LD_at {z : St} {o n : Nat} {c t q : Nat → Int} (hL : LD z o n c t q) (hB : BD n c t q) {k : Nat} (hk : k < n) : n ≤ 8 ∧ z.1 (rf o 0) k = iv (c k) ∧ z.1 (rf o 1) k = iv (t k) ∧ z.1 (rf o 2) k = iv (q k) ∧ 0 ≤ c k ∧ c k ≤ 2000 ∧ 1 ≤ t k ∧ t k ≤ 25 ∧ 0 ≤ q k ∧ q k ≤ 2000 ∧ inb (iv (k : Int)) 8 = true ∧ (iv (k : Int)).toNatClampNeg = k := by
  have h8 := hL.2.1
  have hB1 := hB k hk
  obtain ⟨e1, e2, e3⟩ := hL.2.2 k hk
  exact ⟨h8, e1, e2, e3, hB1.1.1, by omega, hB1.2.1.1, hB1.2.1.2, hB1.2.2.1, by omega, inb_k (by omega) (by omega), iv_natN (by omega)⟩
section LOAD
variable {z : St} {o n : Nat} {c t q : Nat → Int}
theorem nb_step (hL : LD z o n c t q) (hB : BD n c t q) {s : Nat} (hs : s < 256) {h : Int} (hh : sm h) {k : Nat} (hk : k < n) {b : Int} (hb : -1 ≤ b ∧ b < k) (K : St → Nat → Int32 → Int32 → Int32 → Int32 → Option (St × Int32)) :
    f_X4_nextToBegin_14 K z o (iv (s : Int)) (iv h) (iv b) (iv (k : Int)) = K z o (iv (s : Int)) (iv h) (iv (nbS c t q s h k b)) (iv ((k + 1 : Nat) : Int)) := by
  obtain ⟨h8, e1, e2, e3, b1, b2, b3, b4, b5, b6, i1, i2⟩ := LD_at hL hB hk
  have sb : sm b := ⟨by omega, by omega⟩
  have j1 : inb (iv b) 8 = decide (0 ≤ b ∧ b < 8) := iv_inb sb 8
  have j2 : (iv b).toNatClampNeg = b.toNat := iv_nat ⟨by omega, by omega⟩
  have bs := bit_all s hs k (by omega)
  unfold f_X4_nextToBegin_14 f_X4_nextToBegin_23 f_X4_nextToBegin_34 f_X4_nextToBegin_37 f_X4_nextToBegin_41 f_X4_nextToBegin_57 f_X4_nextToBegin_73 f_X4_nextToBegin_89 f_X4_nextToBegin_92 nbS
  generalize Nat.testBit s k = w at *
  simp only [bs, i1, i2, e1, e2, e3, iv_s, if_true, j1, j2, iv_le (sm_b b1 b2) hh, iv_lt0 sb]
  by_cases w3 : b < 0
  · grind
  · have hbn : b.toNat < n := by omega
    obtain ⟨-, g1, g2, g3, d1, d2, d3, d4, d5, d6, -, -⟩ := LD_at hL hB hbn
    simp only [g2, g3, iv_lt (sm_b d5 d6) (sm_b b5 b6), iv_eq (sm_b b5 b6) (sm_b d5 d6), iv_le (sm_b' b3 b4) (sm_b' d3 d4)]
    grind
theorem nb_loop (hL : LD z o n c t q) (hB : BD n c t q) {s : Nat} (hs : s < 256) {h : Int} (hh : sm h) : ∀ (d k F : Nat), k + d = n → d < F →
    f_X4_nextToBegin_5 F z o (iv (s : Int)) (iv h) (iv (nb c t q s h k)) (iv (k : Int)) = some (z, iv (nb c t q s h n))
  | d, k, 0, _, h2 => absurd h2 (Nat.not_lt_zero _)
  | 0, k, F + 1, h1, _ => by
    have h8 := hL.2.1
    have e : k = n := h1
    subst e
    rw [f_X4_nextToBegin_5, hL.1, if_pos ((iv_le (sm_k (by omega)) (sm_k (by omega))).mpr (Int.le_refl _))]
    rfl
  | d + 1, k, F + 1, h1, h2 => by
    have h8 := hL.2.1
    rw [f_X4_nextToBegin_5, hL.1, if_neg (fun w => absurd ((iv_le (sm_k (by omega)) (sm_k (by omega))).mp w) (by omega)), nb_step hL hB hs hh (by omega) (nb_lt k)]
    exact nb_loop hL hB hs hh d (k + 1) F (by omega) (by omega)
theorem nb_of (hL : LD z o n c t q) (hB : BD n c t q) {s : Nat} (hs : s < 256) {h : Int} (hh : sm h) : f_X4_nextToBegin z o (iv (s : Int)) (iv h) = some (z, iv (nb c t q s h n)) := by
  have h8 := hL.2.1
  exact nb_loop hL hB hs hh n 0 FU (by omega) (by show n < 4000000; omega)
end LOAD
