/-! THE MODEL: its arrays; its GREEDY row is the class's -/
theorem r68_1 : rf 68 1 = 69 := by decide
theorem r68_2 : rf 68 2 = 70 := by decide
theorem r68_3 : rf 68 3 = 71 := by decide
theorem r68_4 : rf 68 4 = 72 := by decide
theorem r68_6 : rf 68 6 = 73 := by decide
theorem r68_12 : rf 68 12 = 74 := by decide
theorem r68_13 : rf 68 13 = 75 := by decide
theorem r68_14 : rf 68 14 = 76 := by decide
theorem r68_15 : rf 68 15 = 77 := by decide
theorem r68_16 : rf 68 16 = 78 := by decide
theorem r68_17 : rf 68 17 = 79 := by decide
theorem r68_18 : rf 68 18 = 80 := by decide
theorem r68_20 : rf 68 20 = 81 := by decide
theorem r68_31 : rf 68 31 = 82 := by decide
theorem r68_32 : rf 68 32 = 83 := by decide
theorem r68_33 : rf 68 33 = 84 := by decide
theorem r68_34 : rf 68 34 = 85 := by decide
theorem r68_35 : rf 68 35 = 86 := by decide
theorem r68_36 : rf 68 36 = 87 := by decide
theorem r68_37 : rf 68 37 = 88 := by decide
theorem r68_38 : rf 68 38 = 89 := by decide
theorem r68_39 : rf 68 39 = 90 := by decide
theorem r68_40 : rf 68 40 = 91 := by decide
theorem r68_41 : rf 68 41 = 92 := by decide
theorem r68_42 : rf 68 42 = 93 := by decide
theorem r68_51 : rf 68 51 = 94 := by decide
theorem r68_52 : rf 68 52 = 95 := by decide
theorem r68_54 : rf 68 54 = 96 := by decide
theorem r68_55 : rf 68 55 = 97 := by decide
theorem r68_56 : rf 68 56 = 98 := by decide
def MD (z : St) (n : Nat) (c t q : Nat → Int) : Prop := z.1 68 5 = iv (n : Int) ∧ n ≤ 8 ∧ ∀ j, j < n → z.1 75 j = iv (c j) ∧ z.1 76 j = iv (t j) ∧ z.1 77 j = iv (q j)
theorem MD_at {z : St} {n : Nat} {c t q : Nat → Int} (hL : MD z n c t q) (hB : BD n c t q) {k : Nat} (hk : k < n) : n ≤ 8 ∧ z.1 75 k = iv (c k) ∧ z.1 76 k = iv (t k) ∧ z.1 77 k = iv (q k) ∧ 0 ≤ c k ∧ c k ≤ 2000 ∧ 1 ≤ t k ∧ t k ≤ 25 ∧ 0 ≤ q k ∧ q k ≤ 2000 ∧ inb (iv (k : Int)) 8 = true ∧ (iv (k : Int)).toNatClampNeg = k := by
  have h8 := hL.2.1
  have hB1 := hB k hk
  obtain ⟨e1, e2, e3⟩ := hL.2.2 k hk
  exact ⟨h8, e1, e2, e3, hB1.1.1, by omega, hB1.2.1.1, hB1.2.1.2, hB1.2.2.1, by omega, inb_k (by omega) (by omega), iv_natN (by omega)⟩
theorem MD_fr {z z' : St} {n : Nat} {c t q : Nat → Int} (hL : MD z n c t q) (h0 : z'.1 68 5 = z.1 68 5) (h : ∀ a, 75 ≤ a → a ≤ 77 → z'.1 a = z.1 a) : MD z' n c t q := by
  refine ⟨h0.trans hL.1, hL.2.1, fun j hj => ?_⟩
  rw [h 75 (by decide) (by decide), h 76 (by decide) (by decide), h 77 (by decide) (by decide)]
  exact hL.2.2 j hj
section MODEL
variable {z : St} {n : Nat} {c t q : Nat → Int}
theorem ah_of (hL : MD z n c t q) (hB : BD n c t q) {a b : Nat} (ha : a < n) (hb : b < n) : f_X11_isAhead z 68 (iv (a : Int)) (iv (b : Int)) = some (z, ob (q b < q a ∨ (q a = q b ∧ (t b < t a ∨ (t a = t b ∧ a < b))))) := by
  obtain ⟨h8, e1, e2, e3, b1, b2, b3, b4, b5, b6, i1, i2⟩ := MD_at hL hB ha
  obtain ⟨-, g1, g2, g3, d1, d2, d3, d4, d5, d6, j1, j2⟩ := MD_at hL hB hb
  unfold f_X11_isAhead f_X11_isAhead_0 f_X11_isAhead_15 f_X11_isAhead_30 f_X11_isAhead_34 f_X11_isAhead_35 f_X11_isAhead_36 f_X11_isAhead_51 f_X11_isAhead_66 f_X11_isAhead_70 f_X11_isAhead_74 f_X11_isAhead_79 f_X11_isAhead_83 f_X11_isAhead_84 ob
  simp only [r68_14, r68_15, i1, i2, j1, j2, e2, e3, g2, g3, if_true, iv_eq (sm_b b5 b6) (sm_b d5 d6), iv_eq (sm_b' b3 b4) (sm_b' d3 d4), iv_le (sm_b b5 b6) (sm_b d5 d6), iv_le (sm_b' b3 b4) (sm_b' d3 d4), iv_le (sm_k (show b < 2147483648 by omega)) (sm_k (show a < 2147483648 by omega)), zb_0, zb_1]
  grind
theorem ch_of (hL : MD z n c t q) (hB : BD n c t q) {s : Nat} (hs : s < 256) {h : Int} (hh : sm h) : f_X11_chosen z 68 (iv h) (iv (s : Int)) = some (z, iv (nb c t q s h n)) := by
  have h8 := hL.2.1
  refine loop_up (n := n) (fun F k b => f_X11_chosen_5 F z 68 (iv h) (iv (s : Int)) (iv b) (iv (k : Int))) (nb c t q s h) (fun F => ?_) (fun F k hk => ?_) n 0 FU (by omega) (FU_8 (by omega))
  · show f_X11_chosen_5 _ _ _ _ _ _ _ = _
    rw [f_X11_chosen_5, hL.1, if_pos sz_t]
    rfl
  · obtain ⟨-, e1, e2, e3, b1, b2, b3, b4, b5, b6, i1, i2⟩ := MD_at hL hB hk
    have hb := nb_lt (c := c) (t := t) (q := q) (s := s) (h := h) k
    have bs := bit_all s hs k (by omega)
    show f_X11_chosen_5 _ _ _ _ _ _ _ = f_X11_chosen_5 F z 68 (iv h) (iv (s : Int)) (iv (nbS c t q s h k (nb c t q s h k))) _
    rw [f_X11_chosen_5, hL.1, if_neg (sz_f hk (by omega))]
    generalize nb c t q s h k = b at *
    have sb : sm b := ⟨by omega, by omega⟩
    unfold f_X11_chosen_14 f_X11_chosen_23 f_X11_chosen_34 f_X11_chosen_38 f_X11_chosen_48 f_X11_chosen_51 nbS
    simp only [r68_13, bs, i1, i2, e1, iv_s, if_true, iv_lt hh (sm_b b1 b2), iv_lt0 sb]
    by_cases w3 : b < 0
    · generalize Nat.testBit s k = w at *
      grind
    · have hbn : b.toNat < n := by omega
      have eb : b = ((b.toNat : Nat) : Int) := by omega
      have ah := ah_of hL hB hk hbn
      rw [← eb] at ah
      rw [ah]
      simp only [Option.bind_some, ob]
      generalize Nat.testBit s k = w at *
      grind
noncomputable def ncS (c : Nat → Int) (s : Nat) (k : Nat) (b : Int) : Int := if Nat.testBit s k = false then min b (c k) else b
noncomputable def nc (c : Nat → Int) (s : Nat) : Nat → Int
  | 0 => 999
  | k + 1 => ncS c s k (nc c s k)
theorem nc_b (hB : BD n c t q) {s : Nat} : ∀ k, k ≤ n → 0 ≤ nc c s k ∧ nc c s k ≤ 999
  | 0, _ => by
    show (0 : Int) ≤ 999 ∧ (999 : Int) ≤ 999
    decide
  | k + 1, hk => by
    have ih := nc_b hB (s := s) k (by omega)
    have b := hB k (by omega)
    show 0 ≤ ncS c s k _ ∧ ncS c s k _ ≤ 999
    unfold ncS
    split <;> omega
theorem nc_of (hL : MD z n c t q) (hB : BD n c t q) {s : Nat} (hs : s < 256) : f_X11_nextCome z 68 (iv (s : Int)) = some (z, iv (nc c s n)) := by
  have h8 := hL.2.1
  refine loop_up (n := n) (fun F k b => f_X11_nextCome_6 F z 68 (iv (s : Int)) (iv b) (iv (k : Int))) (nc c s) (fun F => ?_) (fun F k hk => ?_) n 0 FU (by omega) (FU_8 (by omega))
  · show f_X11_nextCome_6 _ _ _ _ _ _ = _
    rw [f_X11_nextCome_6, hL.1, if_pos sz_t]
    rfl
  · obtain ⟨-, e1, e2, e3, b1, b2, b3, b4, b5, b6, i1, i2⟩ := MD_at hL hB hk
    have hb := nc_b hB (s := s) k (by omega)
    have bs := bit_all s hs k (by omega)
    show f_X11_nextCome_6 _ _ _ _ _ _ = f_X11_nextCome_6 F z 68 (iv (s : Int)) (iv (ncS c s k (nc c s k))) _
    rw [f_X11_nextCome_6, hL.1, if_neg (sz_f hk (by omega))]
    generalize nc c s k = b at *
    unfold f_X11_nextCome_14 f_X11_nextCome_22 f_X11_nextCome_33 ncS
    simp only [r68_13, bs, i1, i2, e1, iv_s, if_true, iv_min (show sm b from ⟨by omega, by omega⟩) (sm_b b1 b2)]
    generalize Nat.testBit s k = w at *
    grind
theorem nc_mn' (hB : BD n c t q) {s : Nat} {p : Nat → Bool} (hp : ∀ j, p j = !Nat.testBit s j) : ∀ k, k ≤ n → nc c s k = if mn c p k = -1 then 999 else min 999 (mn c p k)
  | 0, _ => rfl
  | k + 1, hk => by
    have ih := nc_mn' hB hp k (by omega)
    have b := hB k (by omega)
    have hm := mn_b (c := c) (p := p) (n := n) (M := 900) (fun j hj => (hB j hj).1) (by decide) k (by omega)
    have e : mn c p (k + 1) = mnS c p k (mn c p k) := rfl
    rw [e]
    show ncS c s k (nc c s k) = _
    rw [ih]
    unfold ncS mnS
    have pk := hp k
    clear e ih
    generalize mn c p k = m at *
    generalize p k = w' at *
    generalize Nat.testBit s k = w at *
    subst pk
    grind
theorem nc_mn (hB : BD n c t q) {s : Nat} : nc c s n = if mn c (fun j => !Nat.testBit s j) n = -1 then 999 else min 999 (mn c (fun j => !Nat.testBit s j) n) := nc_mn' hB (fun _ => rfl) n (Nat.le_refl _)
end MODEL
