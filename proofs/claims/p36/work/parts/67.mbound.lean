/-! THE MODEL's boundOf is the class's -/
section MBOUND
variable {z : St} {n : Nat} {c t q : Nat → Int}
theorem m9_b {f : Nat → Int} {p : Nat → Bool} (h : ∀ j, j < n → 0 ≤ f j) : ∀ k, k ≤ n → 0 ≤ m9 f p k ∧ m9 f p k ≤ 999
  | 0, _ => by
    show (0 : Int) ≤ 999 ∧ (999 : Int) ≤ 999
    decide
  | k + 1, hk => by
    have ih := m9_b h (p := p) k (by omega)
    have b := h k (by omega)
    show 0 ≤ m9S f p k _ ∧ m9S f p k _ ≤ 999
    unfold m9S
    split <;> omega
theorem mbo_of (hL : MD z n c t q) (hB : BD n c t q) {s : Nat} (hs : s < 256) : f_X11_boundOf z 68 (iv (s : Int)) = some (z, iv (m9 c (Nat.testBit s) n + su t (Nat.testBit s) n + m9 q (Nat.testBit s) n)) := by
  have h8 := hL.2.1
  have hm := m9_b (f := c) (p := Nat.testBit s) (n := n) (fun j hj => (hB j hj).1.1)
  have hq := m9_b (f := q) (p := Nat.testBit s) (n := n) (fun j hj => (hB j hj).2.2.1)
  refine loop_up (n := n) (fun F k (b : Int × Int × Int) => f_X11_boundOf_14 F z 68 (iv (s : Int)) (iv b.1) (iv b.2.1) (iv b.2.2) (iv (k : Int))) (fun k => (m9 c (Nat.testBit s) k, su t (Nat.testBit s) k, m9 q (Nat.testBit s) k)) (fun F => ?_) (fun F k hk => ?_) n 0 FU (by omega) (FU_8 (by omega))
  · show f_X11_boundOf_14 _ _ _ _ _ _ _ _ = _
    rw [f_X11_boundOf_14, hL.1, if_pos sz_t]
    unfold f_X11_boundOf_77
    rw [iv_add, iv_add]
  · obtain ⟨-, e1, e2, e3, b1, b2, -, -, d5, d6, i1, i2⟩ := MD_at hL hB hk
    have hm1 := hm k (by omega)
    have hq1 := hq k (by omega)
    have bs := bit_all s hs k (by omega)
    show f_X11_boundOf_14 _ _ _ _ _ _ _ _ = f_X11_boundOf_14 F z 68 (iv (s : Int)) (iv (m9S c (Nat.testBit s) k (m9 c (Nat.testBit s) k))) (iv (if Nat.testBit s k = true then su t (Nat.testBit s) k + t k else su t (Nat.testBit s) k)) (iv (m9S q (Nat.testBit s) k (m9 q (Nat.testBit s) k))) _
    generalize m9 c (Nat.testBit s) k = b at *
    generalize m9 q (Nat.testBit s) k = b' at *
    rw [f_X11_boundOf_14, hL.1, if_neg (sz_f hk (by omega))]
    unfold f_X11_boundOf_23 f_X11_boundOf_35 f_X11_boundOf_32 f_X11_boundOf_71 m9S
    simp only [r68_13, r68_14, r68_15, bs, i1, i2, e1, e2, e3, iv_s, iv_add, if_true, iv_min (show sm b from ⟨by omega, by omega⟩) (sm_b b1 b2), iv_min (show sm b' from ⟨by omega, by omega⟩) (sm_b d5 d6)]
    generalize Nat.testBit s k = w at *
    grind
theorem bo_eq (hB : BD n c t q) {s : Nat} (h0 : s ≠ 0) (hs : s < 2 ^ n) : m9 c (Nat.testBit s) n = mn c (Nat.testBit s) n ∧ m9 q (Nat.testBit s) n = mn q (Nat.testBit s) n := by
  obtain ⟨i, hi⟩ := Nat.exists_testBit_of_ne_zero h0
  have hn := tb_lt hs hi
  have m1 := mn_le (c := c) (p := Nat.testBit s) hi n (fun j hj => (hB j hj).1.1) hn
  have m2 := mn_le (c := q) (p := Nat.testBit s) hi n (fun j hj => (hB j hj).2.2.1) hn
  have e1 := m9_mn (n := n) (c := c) (p := Nat.testBit s) (fun j hj => (hB j hj).1) n (Nat.le_refl _)
  have e2 := m9_mn (n := n) (c := q) (p := Nat.testBit s) (fun j hj => (hB j hj).2.2) n (Nat.le_refl _)
  rw [e1, e2, if_neg (by omega), if_neg (by omega)]
  exact ⟨rfl, rfl⟩
end MBOUND
