theorem m_law {zA : St} (h : f_X11_anew zM 68 = some zA) : ∀ (xs : Nat → Int32) (L : Nat), L ≤ 3584 → ∃ res, f_L_law_16 xs L zA 0 68 = some res ∧ res.2 = 1 := sorry
