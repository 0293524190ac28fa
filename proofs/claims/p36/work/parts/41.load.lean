/-! LOAD: when each comes, what it takes and cools -/
theorem iv_s (k : Nat) : iv (k : Int) + 1 = iv ((k + 1 : Nat) : Int) := by
  rw [n_1, iv_add]
  rfl
theorem iv_lt0 {x : Int} (hx : sm x) : (iv x < 0) ↔ x < 0 := by
  rw [n_0]
  exact iv_lt hx ⟨by decide, by decide⟩
theorem iv_ge0 {x : Int} (hx : sm x) : (0 ≤ iv x) ↔ 0 ≤ x := by
  rw [n_0]
  exact iv_le ⟨by decide, by decide⟩ hx
theorem iv_eqm1 {x : Int} (hx : sm x) : (iv x = (-1)) ↔ x = -1 := by
  rw [n_m1]
  exact iv_eq hx ⟨by decide, by decide⟩
theorem iv_8le {x : Int} (hx : sm x) : (8 ≤ iv x) ↔ 8 ≤ x := by
  rw [n_8]
  exact iv_le ⟨by decide, by decide⟩ hx
theorem iv_lt8 {x : Int} (hx : sm x) : (iv x < 8) ↔ x < 8 := by
  rw [n_8]
  exact iv_lt hx ⟨by decide, by decide⟩
theorem sm_k {k : Nat} (h : k < 2147483648) : sm (k : Int) := ⟨by omega, by omega⟩
def LD (z : St) (o n : Nat) (c t q : Nat → Int) : Prop := z.1 o 3 = iv (n : Int) ∧ n ≤ 8 ∧ ∀ j, j < n → z.1 (rf o 0) j = iv (c j) ∧ z.1 (rf o 1) j = iv (t j) ∧ z.1 (rf o 2) j = iv (q j)
def BD (n : Nat) (c t q : Nat → Int) : Prop := ∀ j, j < n → (0 ≤ c j ∧ c j ≤ 900) ∧ (1 ≤ t j ∧ t j ≤ 25) ∧ (0 ≤ q j ∧ q j ≤ 900)
noncomputable def nbS (c t q : Nat → Int) (s : Nat) (h : Int) (k : Nat) (b : Int) : Int := if Nat.testBit s k = false ∧ c k ≤ h ∧ (b < 0 ∨ q b.toNat < q k ∨ (q k = q b.toNat ∧ t b.toNat < t k)) then (k : Int) else b
noncomputable def nb (c t q : Nat → Int) (s : Nat) (h : Int) : Nat → Int
  | 0 => -1
  | k + 1 => nbS c t q s h k (nb c t q s h k)
theorem nb_lt {c t q : Nat → Int} {s : Nat} {h : Int} : ∀ k : Nat, -1 ≤ nb c t q s h k ∧ nb c t q s h k < k
  | 0 => by
    show -1 ≤ (-1 : Int) ∧ (-1 : Int) < 0
    decide
  | k + 1 => by
    have ih := nb_lt (c := c) (t := t) (q := q) (s := s) (h := h) k
    show -1 ≤ nbS c t q s h k _ ∧ nbS c t q s h k _ < _
    unfold nbS
    split
    · constructor <;> omega
    · constructor <;> omega
theorem sm_b {x : Int} (h : 0 ≤ x) (h2 : x ≤ 2000) : sm x := ⟨by omega, by omega⟩
theorem sm_b' {x : Int} (h : 1 ≤ x) (h2 : x ≤ 25) : sm x := ⟨by omega, by omega⟩
theorem LD_at {z : St} {o n : Nat} {c t q : Nat → Int} (hL : LD z o n c t q) (hB : BD n c t q) {k : Nat} (hk : k < n) : n ≤ 8 ∧ z.1 (rf o 0) k = iv (c k) ∧ z.1 (rf o 1) k = iv (t k) ∧ z.1 (rf o 2) k = iv (q k) ∧ 0 ≤ c k ∧ c k ≤ 2000 ∧ 1 ≤ t k ∧ t k ≤ 25 ∧ 0 ≤ q k ∧ q k ≤ 2000 ∧ inb (iv (k : Int)) 8 = true ∧ (iv (k : Int)).toNatClampNeg = k := by
  have h8 := hL.2.1
  have hB1 := hB k hk
  obtain ⟨e1, e2, e3⟩ := hL.2.2 k hk
  exact ⟨h8, e1, e2, e3, hB1.1.1, by omega, hB1.2.1.1, hB1.2.1.2, hB1.2.2.1, by omega, inb_k (by omega) (by omega), iv_natN (by omega)⟩
noncomputable def rd (f : Nat → Int) (n : Nat) (x : Int) : Int := if 0 ≤ x ∧ x < n then f x.toNat else 0
noncomputable def ob (P : Prop) [Decidable P] : Int32 := if P then 1 else 0
theorem rd_in {f : Nat → Int} {n k : Nat} (h : k < n) : rd f n (k : Int) = f k := by
  unfold rd
  rw [if_pos ⟨by omega, by omega⟩]
  rfl
section LOAD
variable {z : St} {o n : Nat} {c t q : Nat → Int}
theorem holds_of (hL : LD z o n c t q) {x : Int} (hx : sm x) : f_X4_holds z o (iv x) = some (z, ob (0 ≤ x ∧ x < n)) := by
  have h8 := hL.2.1
  unfold f_X4_holds f_X4_holds_0 f_X4_holds_4 f_X4_holds_12 f_X4_holds_18 f_X4_holds_22 f_X4_holds_23
  rw [hL.1]
  simp only [iv_lt0 hx, iv_8le hx, iv_le (sm_k (show n < 2147483648 by omega)) hx, zb_0, zb_1, if_true, ob]
  grind
theorem comes_of (hL : LD z o n c t q) {x : Int} (hx : sm x) : f_X4_comesOf z o (iv x) = some (z, iv (rd c n x)) := by
  have h8 := hL.2.1
  unfold f_X4_comesOf f_X4_comesOf_0 f_X4_comesOf_4 f_X4_comesOf_12 f_X4_comesOf_21 f_X4_comesOf_30 f_X4_comesOf_31 rd
  rw [hL.1]
  simp only [iv_lt0 hx, iv_8le hx, iv_le (sm_k (show n < 2147483648 by omega)) hx, iv_inb hx, iv_nat hx]
  have n0 := n_0
  by_cases w : 0 ≤ x ∧ x < n
  · have := (hL.2.2 x.toNat (by omega)).1
    grind
  · grind
theorem takes_of (hL : LD z o n c t q) {x : Int} (hx : sm x) : f_X4_takesOf z o (iv x) = some (z, iv (rd t n x)) := by
  have h8 := hL.2.1
  unfold f_X4_takesOf f_X4_takesOf_0 f_X4_takesOf_4 f_X4_takesOf_12 f_X4_takesOf_21 f_X4_takesOf_30 f_X4_takesOf_31 rd
  rw [hL.1]
  simp only [iv_lt0 hx, iv_8le hx, iv_le (sm_k (show n < 2147483648 by omega)) hx, iv_inb hx, iv_nat hx]
  have n0 := n_0
  by_cases w : 0 ≤ x ∧ x < n
  · have := (hL.2.2 x.toNat (by omega)).2.1
    grind
  · grind
theorem cools_of (hL : LD z o n c t q) {x : Int} (hx : sm x) : f_X4_coolsOf z o (iv x) = some (z, iv (rd q n x)) := by
  have h8 := hL.2.1
  unfold f_X4_coolsOf f_X4_coolsOf_0 f_X4_coolsOf_4 f_X4_coolsOf_12 f_X4_coolsOf_21 f_X4_coolsOf_30 f_X4_coolsOf_31 rd
  rw [hL.1]
  simp only [iv_lt0 hx, iv_8le hx, iv_le (sm_k (show n < 2147483648 by omega)) hx, iv_inb hx, iv_nat hx]
  have n0 := n_0
  by_cases w : 0 ≤ x ∧ x < n
  · have := (hL.2.2 x.toNat (by omega)).2.2
    grind
  · grind
theorem comes_at (hL : LD z o n c t q) {k : Nat} (hk : k < n) : f_X4_comesOf z o (iv (k : Int)) = some (z, iv (c k)) := by
  have h8 := hL.2.1
  rw [comes_of hL (sm_k (by omega)), rd_in hk]
theorem takes_at (hL : LD z o n c t q) {k : Nat} (hk : k < n) : f_X4_takesOf z o (iv (k : Int)) = some (z, iv (t k)) := by
  have h8 := hL.2.1
  rw [takes_of hL (sm_k (by omega)), rd_in hk]
theorem cools_at (hL : LD z o n c t q) {k : Nat} (hk : k < n) : f_X4_coolsOf z o (iv (k : Int)) = some (z, iv (q k)) := by
  have h8 := hL.2.1
  rw [cools_of hL (sm_k (by omega)), rd_in hk]
theorem nb_step (hL : LD z o n c t q) (hB : BD n c t q) {s : Nat} (hs : s < 256) {h : Int} (hh : sm h) {k : Nat} (hk : k < n) {b : Int} (hb : -1 ≤ b ∧ b < k) (K : St → Nat → Int32 → Int32 → Int32 → Int32 → Option (St × Int32)) :
    f_X4_nextToBegin_14 K z o (iv (s : Int)) (iv h) (iv b) (iv (k : Int)) = K z o (iv (s : Int)) (iv h) (iv (nbS c t q s h k b)) (iv ((k + 1 : Nat) : Int)) := by
  obtain ⟨h8, e1, e2, e3, b1, b2, b3, b4, b5, b6, i1, i2⟩ := LD_at hL hB hk
  have sb : sm b := ⟨by omega, by omega⟩
  have bs := bit_all s hs k (by omega)
  unfold f_X4_nextToBegin_14 f_X4_nextToBegin_23 f_X4_nextToBegin_33 f_X4_nextToBegin_36 f_X4_nextToBegin_41 f_X4_nextToBegin_55 f_X4_nextToBegin_69 f_X4_nextToBegin_83 f_X4_nextToBegin_86 nbS
  generalize Nat.testBit s k = w at *
  simp only [bs, iv_s, comes_at hL hk, takes_at hL hk, cools_at hL hk, Option.bind_some, iv_le (sm_b b1 b2) hh, iv_eqm1 sb]
  by_cases w3 : b < 0
  · have w4 : b = -1 := by omega
    grind
  · obtain ⟨b', rfl⟩ : ∃ b' : Nat, b = (b' : Int) := ⟨b.toNat, by omega⟩
    have hbn : b' < n := by omega
    obtain ⟨-, -, -, -, d1, d2, d3, d4, d5, d6, -, -⟩ := LD_at hL hB hbn
    simp only [takes_at hL hbn, cools_at hL hbn, takes_at hL hk, cools_at hL hk, Option.bind_some, iv_lt (sm_b d5 d6) (sm_b b5 b6), iv_eq (sm_b b5 b6) (sm_b d5 d6), iv_le (sm_b' b3 b4) (sm_b' d3 d4), Int.toNat_natCast]
    grind
theorem nb_loop (hL : LD z o n c t q) (hB : BD n c t q) {s : Nat} (hs : s < 256) {h : Int} (hh : sm h) : ∀ (d k F : Nat), k + d = n → d < F →
    f_X4_nextToBegin_5 F z o (iv (s : Int)) (iv h) (iv (nb c t q s h k)) (iv (k : Int)) = some (z, iv (nb c t q s h n))
  | d, k, 0, _, h2 => absurd h2 (Nat.not_lt_zero _)
  | 0, k, F + 1, h1, _ => by
    have h8 := hL.2.1
    have e : k = n := h1
    subst e
    rw [f_X4_nextToBegin_5, hL.1, if_pos ((iv_le (sm_k (by omega)) (sm_k (by omega))).mpr (Int.le_refl _))]
    rfl
  | d + 1, k, F + 1, h1, h2 => by
    have h8 := hL.2.1
    rw [f_X4_nextToBegin_5, hL.1, if_neg (fun w => absurd ((iv_le (sm_k (by omega)) (sm_k (by omega))).mp w) (by omega)), nb_step hL hB hs hh (by omega) (nb_lt k)]
    exact nb_loop hL hB hs hh d (k + 1) F (by omega) (by omega)
theorem nb_of (hL : LD z o n c t q) (hB : BD n c t q) {s : Nat} (hs : s < 256) {h : Int} (hh : sm h) : f_X4_nextToBegin z o (iv (s : Int)) (iv h) = some (z, iv (nb c t q s h n)) := by
  have h8 := hL.2.1
  exact nb_loop hL hB hs hh n 0 FU (by omega) (by show n < 4000000; omega)
end LOAD
