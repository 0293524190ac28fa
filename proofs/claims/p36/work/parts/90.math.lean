theorem m_back : ∃ z1, f_X10_back zX 0 = some (z1, -3) := sorry
theorem m_law : ∀ (xs : Nat → Int32) (L : Nat), L ≤ 260 → ∃ zb, f_L_bench_8 xs L zX 0 = some (zb, 0) ∧ ∃ res, f_L_law_22 xs L zb 0 = some res ∧ res.2 = 1 := sorry
