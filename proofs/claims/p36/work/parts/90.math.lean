/-! P36: the two facts -/
theorem m_back : ∃ z1, f_X10_back zX 0 = some (z1, -3) := ⟨zX, by rw [n_m3]; exact p_back3 IK_0 rfl⟩
theorem m_law : ∀ (xs : Nat → Int32) (L : Nat), L ≤ 260 → ∃ zb, f_L_bench_8 xs L zX 0 = some (zb, 0) ∧ ∃ res, f_L_law_22 xs L zb 0 = some res ∧ res.2 = 1 := fun xs L hL => by
  obtain ⟨z1, N, v, hN, e1, h1⟩ := lb_8 (xs := xs) hL IK_0
  obtain ⟨z2, e2⟩ := l_22 (xs := xs) hL hN h1
  exact ⟨z1, e1, (z2, 1), e2, rfl⟩
