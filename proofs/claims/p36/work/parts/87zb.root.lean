/-! SEARCH: at its root -/
section ROOT
variable {n : Nat} {c t q : Nat → Int}
theorem nr1 {e a b C : Int} {k : Nat} (he : e ≤ C + 25 * (k : Int)) (ha : a ≤ C) (hb : b ≤ 25) : max e a + b ≤ C + 25 * ((k + 1 : Nat) : Int) := by omega
theorem nr2 {f e g C Q : Int} {k : Nat} (hf : f ≤ C + Q + 25 * (k : Int)) (he : e ≤ C + 25 * ((k + 1 : Nat) : Int)) (hg : g ≤ Q) : max f (e + g) ≤ C + Q + 25 * ((k + 1 : Nat) : Int) := by omega
theorem nr3 {f : Int} {n : Nat} (h : f ≤ 160 + 130 + 25 * (n : Int)) (hn : n ≤ 8) : f ≤ 500 := by omega
/-- GREEDY ends no later than all that comes, is taken and cools, one behind another -/
theorem gr_top (hB : BD n c t q) (hn : n ≤ 8) {C Q : Int} (hC : 0 ≤ C) (hQ : 0 ≤ Q) (hb : ∀ j, j < n → c j ≤ C ∧ q j ≤ Q) : ∀ k, k ≤ n → (gr c t q n k).2.2.2.2.2.1 ≤ C + 25 * (k : Int) ∧ (gr c t q n k).2.2.2.2.2.2.1 ≤ C + Q + 25 * (k : Int)
  | 0, _ => ⟨by show (0 : Int) ≤ C + 25 * ((0 : Nat) : Int); omega, by show (0 : Int) ≤ C + Q + 25 * ((0 : Nat) : Int); omega⟩
  | k + 1, hk => by
    obtain ⟨i1, i2⟩ := gr_top hB hn hC hQ hb k (Nat.le_of_succ_le hk)
    have cbk := (gr_inv hB hn k (Nat.le_of_succ_le hk)).2.1
    have g := gr_next hB (y := gr c t q n k) (by rw [cbk]; exact hk)
    have bj := hb _ g.2.1
    have tj := (hB _ g.2.1).2.1.2
    have e := nr1 i1 bj.1 tj
    exact ⟨e, nr2 i2 e bj.2⟩
theorem root_f (hn : n ≤ 8) (hb : ∀ j, j < n → (0 ≤ c j ∧ c j ≤ 160) ∧ (1 ≤ t j ∧ t j ≤ 25) ∧ (0 ≤ q j ∧ q j ≤ 130)) : BD n c t q ∧ 0 ≤ (gr c t q n n).2.2.2.2.2.2.1 ∧ (gr c t q n n).2.2.2.2.2.2.1 ≤ 500 := by
  have hB : BD n c t q := fun j hj => by
    have := hb j hj
    omega
  exact ⟨hB, gr_f0 hB hn, nr3 (gr_top hB hn (C := 160) (Q := 130) (by decide) (by decide) (fun j hj => ⟨(hb j hj).1.2, (hb j hj).2.2.2⟩) n (Nat.le_refl _)).2 hn⟩
theorem root_G (hn : n ≤ 8) (hb : ∀ j, j < n → (0 ≤ c j ∧ c j ≤ 160) ∧ (1 ≤ t j ∧ t j ≤ 25) ∧ (0 ≤ q j ∧ q j ≤ 130)) (hD : DT t n 400 c q (-1, 0, 0)) : GT t n 400 c q (-1, 0, 0) := by
  obtain ⟨hB, f0, f5⟩ := root_f hn hb
  have n1 : (sN c t q n (-1, 0, 0)).1 = (gr c t q n n).2.2.2.2.2.2.1 := by
    unfold sN svN
    rw [if_pos (Or.inl rfl)]
  refine GT_of hn 400 c q (-1, 0, 0) (fun j hj => ?_) (by rw [n1]; exact ⟨f0, f5⟩) hD
  have := hb j hj
  omega
end ROOT
