/-! SEARCH: the class's, from what is told -/
section KNOWN
variable {z : St} {n : Nat} {c t q : Nat → Int}
theorem bs_c (hL : LD z 21 n c t q) (hb : ∀ j, j < n → (0 ≤ c j ∧ c j ≤ 160) ∧ (1 ≤ t j ∧ t j ≤ 25) ∧ (0 ≤ q j ∧ q j ≤ 130)) (hD : DT t n 400 c q (-1, 0, 0)) (hk : tk t n 400 c q (-1, 0, 0) ≤ 333333) : ∃ z1 z', f_X4_becomeAs z 25 21 = some z1 ∧ f_X6_run z1 40 25 = some z' ∧ SE z' (SR c t q n) ∧ LD z' 25 n c t q ∧ Fr fS z z' ∧ (0 ≤ (SR c t q n).1 ∧ (SR c t q n).1 ≤ 500) ∧ 0 ≤ (SR c t q n).2.1 ∧ (SR c t q n).2.1 ≤ 1000000 := by
  have h8 := hL.2.1
  have ba := ba_of (z := z) (o := 25) (u := 21) (by decide) (by decide) (by decide) hL
  have f1 : Fr fS z (ldZ c t q z 25 n) := (ldZ_fr (z := z) (u := 25) n).mono (fun a e => Or.inl (own_rng (o := 25) (Or.inr (by decide)) e))
  have l1 := ldZ_LD (c := c) (t := t) (q := q) (z := z) (u := 25) (by decide) n h8
  obtain ⟨z', r1, r2, r3, r4, r5, r6, r7⟩ := run_c l1 (root_G h8 hb hD) (Nat.mul_le_mul_left 3 hk) (root_f h8 hb).2.2
  exact ⟨_, z', ba, r1, r2, r3, f1.trans r4, r5, r6, r7⟩
end KNOWN
