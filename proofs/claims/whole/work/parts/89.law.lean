/-! THE LAW: a call after the other -/
section LAWS
variable {xs : Nat → Int32} {L : Nat} {K : St → Nat → Nat → Int32 → Option (St × Int32)} {z : St} {y : Sy} {x3 : Int32}
theorem lgc_self (a : Int64) : lg_cmp a a = 0 := by
  unfold lg_cmp
  simp
theorem llaw_180 (h : INV z y) (b1 : inb (x3 + 1) L = true) (b2 : inb (x3 + 2) L = true) (b3 : inb (x3 + 3) L = true) (b4 : inb (x3 + 4) L = true) (b5 : inb (x3 + 5) L = true) (b6 : inb (x3 + 6) L = true) (hK : ∀ z' y', INV z' y' → ∃ res, K z' 0 68 (x3 + 7) = some res ∧ res.2 = 1) : ∃ res, f_L_law_180 xs L K z 0 68 x3 = some res ∧ res.2 = 1 := by
  obtain ⟨z1, z2, r, e1, e2, y', h'⟩ := s_feed h (xs (Int32.toNatClampNeg (x3 + 1))) (xs (Int32.toNatClampNeg (x3 + 2))) (xs (Int32.toNatClampNeg (x3 + 3))) (xs (Int32.toNatClampNeg (x3 + 4))) (xs (Int32.toNatClampNeg (x3 + 5))) (xs (Int32.toNatClampNeg (x3 + 6)))
  have e3 : f_X11_feed z1 68 (xs (Int32.toNatClampNeg (x3 + 1))) (xs (Int32.toNatClampNeg (x3 + 2))) (xs (Int32.toNatClampNeg (x3 + 3))) (xs (Int32.toNatClampNeg (x3 + 4))) (xs (Int32.toNatClampNeg (x3 + 5))) (xs (Int32.toNatClampNeg (x3 + 6))) = some (z2, r) := e2
  unfold f_L_law_180
  simp only [b1, b2, b3, b4, b5, b6, if_true, e1, Option.bind_some, e3, lgc_self]
  exact hK z2 y' h'
theorem llaw_255 (h : INV z y) (b1 : inb (x3 + 1) L = true) (b2 : inb (x3 + 2) L = true) (b3 : inb (x3 + 3) L = true) (b4 : inb (x3 + 4) L = true) (b5 : inb (x3 + 5) L = true) (b6 : inb (x3 + 6) L = true) (hK : ∀ z' y', INV z' y' → ∃ res, K z' 0 68 (x3 + 7) = some res ∧ res.2 = 1) : ∃ res, f_L_law_255 xs L K z 0 68 x3 = some res ∧ res.2 = 1 := by
  obtain ⟨z1, z2, r, e1, e2, y', h'⟩ := s_text h
  have e3 : f_X11_text z1 68 = some (z2, r) := e2
  unfold f_L_law_255
  simp only [b1, b2, b3, b4, b5, b6, if_true, e1, Option.bind_some, e3, lgc_self]
  exact hK z2 y' h'
theorem llaw_268 (h : INV z y) (b1 : inb (x3 + 1) L = true) (b2 : inb (x3 + 2) L = true) (b3 : inb (x3 + 3) L = true) (b4 : inb (x3 + 4) L = true) (b5 : inb (x3 + 5) L = true) (b6 : inb (x3 + 6) L = true) (hK : ∀ z' y', INV z' y' → ∃ res, K z' 0 68 (x3 + 7) = some res ∧ res.2 = 1) : ∃ res, f_L_law_268 xs L K z 0 68 x3 = some res ∧ res.2 = 1 := by
  obtain ⟨z1, z2, r, e1, e2, y', h'⟩ := s_job h (xs (Int32.toNatClampNeg (x3 + 1))) (xs (Int32.toNatClampNeg (x3 + 2))) (xs (Int32.toNatClampNeg (x3 + 3))) (xs (Int32.toNatClampNeg (x3 + 4)))
  have e3 : f_X11_job z1 68 (xs (Int32.toNatClampNeg (x3 + 1))) (xs (Int32.toNatClampNeg (x3 + 2))) (xs (Int32.toNatClampNeg (x3 + 3))) (xs (Int32.toNatClampNeg (x3 + 4))) = some (z2, r) := e2
  unfold f_L_law_268
  simp only [b1, b2, b3, b4, b5, b6, if_true, e1, Option.bind_some, e3, lgc_self]
  exact hK z2 y' h'
theorem llaw_321 (h : INV z y) (b1 : inb (x3 + 1) L = true) (b2 : inb (x3 + 2) L = true) (b3 : inb (x3 + 3) L = true) (b4 : inb (x3 + 4) L = true) (b5 : inb (x3 + 5) L = true) (b6 : inb (x3 + 6) L = true) (hK : ∀ z' y', INV z' y' → ∃ res, K z' 0 68 (x3 + 7) = some res ∧ res.2 = 1) : ∃ res, f_L_law_321 xs L K z 0 68 x3 = some res ∧ res.2 = 1 := by
  obtain ⟨z1, z2, r, e1, e2, y', h'⟩ := s_set h (xs (Int32.toNatClampNeg (x3 + 1))) (xs (Int32.toNatClampNeg (x3 + 2))) (xs (Int32.toNatClampNeg (x3 + 3)))
  have e3 : f_X11_set z1 68 (xs (Int32.toNatClampNeg (x3 + 1))) (xs (Int32.toNatClampNeg (x3 + 2))) (xs (Int32.toNatClampNeg (x3 + 3))) = some (z2, r) := e2
  unfold f_L_law_321
  simp only [b1, b2, b3, b4, b5, b6, if_true, e1, Option.bind_some, e3, lgc_self]
  exact hK z2 y' h'
theorem llaw_364 (h : INV z y) (b1 : inb (x3 + 1) L = true) (b2 : inb (x3 + 2) L = true) (b3 : inb (x3 + 3) L = true) (b4 : inb (x3 + 4) L = true) (b5 : inb (x3 + 5) L = true) (b6 : inb (x3 + 6) L = true) (hK : ∀ z' y', INV z' y' → ∃ res, K z' 0 68 (x3 + 7) = some res ∧ res.2 = 1) : ∃ res, f_L_law_364 xs L K z 0 68 x3 = some res ∧ res.2 = 1 := by
  obtain ⟨z1, z2, r, e1, e2, y', h'⟩ := s_told h (xs (Int32.toNatClampNeg (x3 + 1))) (xs (Int32.toNatClampNeg (x3 + 2)))
  have e3 : f_X11_told z1 68 (xs (Int32.toNatClampNeg (x3 + 1))) (xs (Int32.toNatClampNeg (x3 + 2))) = some (z2, r) := e2
  unfold f_L_law_364
  simp only [b1, b2, b3, b4, b5, b6, if_true, e1, Option.bind_some, e3, lgc_self]
  exact hK z2 y' h'
theorem llaw_397 (h : INV z y) (b1 : inb (x3 + 1) L = true) (b2 : inb (x3 + 2) L = true) (b3 : inb (x3 + 3) L = true) (b4 : inb (x3 + 4) L = true) (b5 : inb (x3 + 5) L = true) (b6 : inb (x3 + 6) L = true) (hK : ∀ z' y', INV z' y' → ∃ res, K z' 0 68 (x3 + 7) = some res ∧ res.2 = 1) : ∃ res, f_L_law_397 xs L K z 0 68 x3 = some res ∧ res.2 = 1 := by
  obtain ⟨z1, z2, r, e1, e2, y', h'⟩ := s_drop h (xs (Int32.toNatClampNeg (x3 + 1)))
  have e3 : f_X11_drop z1 68 (xs (Int32.toNatClampNeg (x3 + 1))) = some (z2, r) := e2
  unfold f_L_law_397
  simp only [b1, b2, b3, b4, b5, b6, if_true, e1, Option.bind_some, e3, lgc_self]
  exact hK z2 y' h'
theorem llaw_420 (h : INV z y) (b1 : inb (x3 + 1) L = true) (b2 : inb (x3 + 2) L = true) (b3 : inb (x3 + 3) L = true) (b4 : inb (x3 + 4) L = true) (b5 : inb (x3 + 5) L = true) (b6 : inb (x3 + 6) L = true) (hK : ∀ z' y', INV z' y' → ∃ res, K z' 0 68 (x3 + 7) = some res ∧ res.2 = 1) : ∃ res, f_L_law_420 xs L K z 0 68 x3 = some res ∧ res.2 = 1 := by
  obtain ⟨z1, z2, r, e1, e2, y', h'⟩ := s_taken h (xs (Int32.toNatClampNeg (x3 + 1))) (xs (Int32.toNatClampNeg (x3 + 2)))
  have e3 : f_X11_taken z1 68 (xs (Int32.toNatClampNeg (x3 + 1))) (xs (Int32.toNatClampNeg (x3 + 2))) = some (z2, r) := e2
  unfold f_L_law_420
  simp only [b1, b2, b3, b4, b5, b6, if_true, e1, Option.bind_some, e3, lgc_self]
  exact hK z2 y' h'
theorem llaw_453 (h : INV z y) (b1 : inb (x3 + 1) L = true) (b2 : inb (x3 + 2) L = true) (b3 : inb (x3 + 3) L = true) (b4 : inb (x3 + 4) L = true) (b5 : inb (x3 + 5) L = true) (b6 : inb (x3 + 6) L = true) (hK : ∀ z' y', INV z' y' → ∃ res, K z' 0 68 (x3 + 7) = some res ∧ res.2 = 1) : ∃ res, f_L_law_453 xs L K z 0 68 x3 = some res ∧ res.2 = 1 := by
  obtain ⟨z1, z2, r, e1, e2, y', h'⟩ := s_greedy h (xs (Int32.toNatClampNeg (x3 + 1))) (xs (Int32.toNatClampNeg (x3 + 2)))
  have e3 : f_X11_greedy z1 68 (xs (Int32.toNatClampNeg (x3 + 1))) (xs (Int32.toNatClampNeg (x3 + 2))) = some (z2, r) := e2
  unfold f_L_law_453
  simp only [b1, b2, b3, b4, b5, b6, if_true, e1, Option.bind_some, e3, lgc_self]
  exact hK z2 y' h'
theorem llaw_486 (h : INV z y) (b1 : inb (x3 + 1) L = true) (b2 : inb (x3 + 2) L = true) (b3 : inb (x3 + 3) L = true) (b4 : inb (x3 + 4) L = true) (b5 : inb (x3 + 5) L = true) (b6 : inb (x3 + 6) L = true) (hK : ∀ z' y', INV z' y' → ∃ res, K z' 0 68 (x3 + 7) = some res ∧ res.2 = 1) : ∃ res, f_L_law_486 xs L K z 0 68 x3 = some res ∧ res.2 = 1 := by
  obtain ⟨z1, z2, r, e1, e2, y', h'⟩ := s_breaking h (xs (Int32.toNatClampNeg (x3 + 1)))
  have e3 : f_X11_breaking z1 68 (xs (Int32.toNatClampNeg (x3 + 1))) = some (z2, r) := e2
  unfold f_L_law_486
  simp only [b1, b2, b3, b4, b5, b6, if_true, e1, Option.bind_some, e3, lgc_self]
  exact hK z2 y' h'
theorem llaw_509 (h : INV z y) (b1 : inb (x3 + 1) L = true) (b2 : inb (x3 + 2) L = true) (b3 : inb (x3 + 3) L = true) (b4 : inb (x3 + 4) L = true) (b5 : inb (x3 + 5) L = true) (b6 : inb (x3 + 6) L = true) (hK : ∀ z' y', INV z' y' → ∃ res, K z' 0 68 (x3 + 7) = some res ∧ res.2 = 1) : ∃ res, f_L_law_509 xs L K z 0 68 x3 = some res ∧ res.2 = 1 := by
  obtain ⟨z1, z2, r, e1, e2, y', h'⟩ := s_critical h (xs (Int32.toNatClampNeg (x3 + 1)))
  have e3 : f_X11_critical z1 68 (xs (Int32.toNatClampNeg (x3 + 1))) = some (z2, r) := e2
  unfold f_L_law_509
  simp only [b1, b2, b3, b4, b5, b6, if_true, e1, Option.bind_some, e3, lgc_self]
  exact hK z2 y' h'
theorem llaw_532 (h : INV z y) (b1 : inb (x3 + 1) L = true) (b2 : inb (x3 + 2) L = true) (b3 : inb (x3 + 3) L = true) (b4 : inb (x3 + 4) L = true) (b5 : inb (x3 + 5) L = true) (b6 : inb (x3 + 6) L = true) (hK : ∀ z' y', INV z' y' → ∃ res, K z' 0 68 (x3 + 7) = some res ∧ res.2 = 1) : ∃ res, f_L_law_532 xs L K z 0 68 x3 = some res ∧ res.2 = 1 := by
  obtain ⟨z1, z2, r, e1, e2, y', h'⟩ := s_branch h (xs (Int32.toNatClampNeg (x3 + 1))) (xs (Int32.toNatClampNeg (x3 + 2)))
  have e3 : f_X11_branch z1 68 (xs (Int32.toNatClampNeg (x3 + 1))) (xs (Int32.toNatClampNeg (x3 + 2))) = some (z2, r) := e2
  unfold f_L_law_532
  simp only [b1, b2, b3, b4, b5, b6, if_true, e1, Option.bind_some, e3, lgc_self]
  exact hK z2 y' h'
theorem llaw_565 (h : INV z y) (b1 : inb (x3 + 1) L = true) (b2 : inb (x3 + 2) L = true) (b3 : inb (x3 + 3) L = true) (b4 : inb (x3 + 4) L = true) (b5 : inb (x3 + 5) L = true) (b6 : inb (x3 + 6) L = true) (hK : ∀ z' y', INV z' y' → ∃ res, K z' 0 68 (x3 + 7) = some res ∧ res.2 = 1) : ∃ res, f_L_law_565 xs L K z 0 68 x3 = some res ∧ res.2 = 1 := by
  obtain ⟨z1, z2, r, e1, e2, y', h'⟩ := s_bound h (xs (Int32.toNatClampNeg (x3 + 1)))
  have e3 : f_X11_bound z1 68 (xs (Int32.toNatClampNeg (x3 + 1))) = some (z2, r) := e2
  unfold f_L_law_565
  simp only [b1, b2, b3, b4, b5, b6, if_true, e1, Option.bind_some, e3, lgc_self]
  exact hK z2 y' h'
theorem llaw_588 (h : INV z y) (b1 : inb (x3 + 1) L = true) (b2 : inb (x3 + 2) L = true) (b3 : inb (x3 + 3) L = true) (b4 : inb (x3 + 4) L = true) (b5 : inb (x3 + 5) L = true) (b6 : inb (x3 + 6) L = true) (hK : ∀ z' y', INV z' y' → ∃ res, K z' 0 68 (x3 + 7) = some res ∧ res.2 = 1) : ∃ res, f_L_law_588 xs L K z 0 68 x3 = some res ∧ res.2 = 1 := by
  obtain ⟨z1, z2, r, e1, e2, y', h'⟩ := s_strongest h (xs (Int32.toNatClampNeg (x3 + 1)))
  have e3 : f_X11_strongest z1 68 (xs (Int32.toNatClampNeg (x3 + 1))) = some (z2, r) := e2
  unfold f_L_law_588
  simp only [b1, b2, b3, b4, b5, b6, if_true, e1, Option.bind_some, e3, lgc_self]
  exact hK z2 y' h'
theorem llaw_611 (h : INV z y) (b1 : inb (x3 + 1) L = true) (b2 : inb (x3 + 2) L = true) (b3 : inb (x3 + 3) L = true) (b4 : inb (x3 + 4) L = true) (b5 : inb (x3 + 5) L = true) (b6 : inb (x3 + 6) L = true) (hK : ∀ z' y', INV z' y' → ∃ res, K z' 0 68 (x3 + 7) = some res ∧ res.2 = 1) : ∃ res, f_L_law_611 xs L K z 0 68 x3 = some res ∧ res.2 = 1 := by
  obtain ⟨z1, z2, r, e1, e2, y', h'⟩ := s_least h (xs (Int32.toNatClampNeg (x3 + 1)))
  have e3 : f_X11_least z1 68 (xs (Int32.toNatClampNeg (x3 + 1))) = some (z2, r) := e2
  unfold f_L_law_611
  simp only [b1, b2, b3, b4, b5, b6, if_true, e1, Option.bind_some, e3, lgc_self]
  exact hK z2 y' h'
theorem llaw_634 (h : INV z y) (b1 : inb (x3 + 1) L = true) (b2 : inb (x3 + 2) L = true) (b3 : inb (x3 + 3) L = true) (b4 : inb (x3 + 4) L = true) (b5 : inb (x3 + 5) L = true) (b6 : inb (x3 + 6) L = true) (hK : ∀ z' y', INV z' y' → ∃ res, K z' 0 68 (x3 + 7) = some res ∧ res.2 = 1) : ∃ res, f_L_law_634 xs L K z 0 68 x3 = some res ∧ res.2 = 1 := by
  obtain ⟨z1, z2, r, e1, e2, y', h'⟩ := s_many h
  have e3 : f_X11_many_ z1 68 = some (z2, r) := e2
  unfold f_L_law_634
  simp only [b1, b2, b3, b4, b5, b6, if_true, e1, Option.bind_some, e3, lgc_self]
  exact hK z2 y' h'
theorem llaw_647 (h : INV z y) (b1 : inb (x3 + 1) L = true) (b2 : inb (x3 + 2) L = true) (b3 : inb (x3 + 3) L = true) (b4 : inb (x3 + 4) L = true) (b5 : inb (x3 + 5) L = true) (b6 : inb (x3 + 6) L = true) (hK : ∀ z' y', INV z' y' → ∃ res, K z' 0 68 (x3 + 7) = some res ∧ res.2 = 1) : ∃ res, f_L_law_647 xs L K z 0 68 x3 = some res ∧ res.2 = 1 := by
  obtain ⟨z1, z2, r, e1, e2, y', h'⟩ := s_order h (xs (Int32.toNatClampNeg (x3 + 1)))
  have e3 : f_X11_order z1 68 (xs (Int32.toNatClampNeg (x3 + 1))) = some (z2, r) := e2
  unfold f_L_law_647
  simp only [b1, b2, b3, b4, b5, b6, if_true, e1, Option.bind_some, e3, lgc_self]
  exact hK z2 y' h'
theorem llaw_670 (h : INV z y) (b1 : inb (x3 + 1) L = true) (b2 : inb (x3 + 2) L = true) (b3 : inb (x3 + 3) L = true) (b4 : inb (x3 + 4) L = true) (b5 : inb (x3 + 5) L = true) (b6 : inb (x3 + 6) L = true) (hK : ∀ z' y', INV z' y' → ∃ res, K z' 0 68 (x3 + 7) = some res ∧ res.2 = 1) : ∃ res, f_L_law_670 xs L K z 0 68 x3 = some res ∧ res.2 = 1 := by
  obtain ⟨z1, z2, r, e1, e2, y', h'⟩ := s_must h (xs (Int32.toNatClampNeg (x3 + 1)))
  have e3 : f_X11_must z1 68 (xs (Int32.toNatClampNeg (x3 + 1))) = some (z2, r) := e2
  unfold f_L_law_670
  simp only [b1, b2, b3, b4, b5, b6, if_true, e1, Option.bind_some, e3, lgc_self]
  exact hK z2 y' h'
theorem llaw_693 (h : INV z y) (b1 : inb (x3 + 1) L = true) (b2 : inb (x3 + 2) L = true) (b3 : inb (x3 + 3) L = true) (b4 : inb (x3 + 4) L = true) (b5 : inb (x3 + 5) L = true) (b6 : inb (x3 + 6) L = true) (hK : ∀ z' y', INV z' y' → ∃ res, K z' 0 68 (x3 + 7) = some res ∧ res.2 = 1) : ∃ res, f_L_law_693 xs L K z 0 68 x3 = some res ∧ res.2 = 1 := by
  obtain ⟨z1, z2, r, e1, e2, y', h'⟩ := s_room h (xs (Int32.toNatClampNeg (x3 + 1)))
  have e3 : f_X11_room z1 68 (xs (Int32.toNatClampNeg (x3 + 1))) = some (z2, r) := e2
  unfold f_L_law_693
  simp only [b1, b2, b3, b4, b5, b6, if_true, e1, Option.bind_some, e3, lgc_self]
  exact hK z2 y' h'
theorem llaw_716 (h : INV z y) (b1 : inb (x3 + 1) L = true) (b2 : inb (x3 + 2) L = true) (b3 : inb (x3 + 3) L = true) (b4 : inb (x3 + 4) L = true) (b5 : inb (x3 + 5) L = true) (b6 : inb (x3 + 6) L = true) (hK : ∀ z' y', INV z' y' → ∃ res, K z' 0 68 (x3 + 7) = some res ∧ res.2 = 1) : ∃ res, f_L_law_716 xs L K z 0 68 x3 = some res ∧ res.2 = 1 := by
  obtain ⟨z1, z2, r, e1, e2, y', h'⟩ := s_gain h (xs (Int32.toNatClampNeg (x3 + 1)))
  have e3 : f_X11_gain z1 68 (xs (Int32.toNatClampNeg (x3 + 1))) = some (z2, r) := e2
  unfold f_L_law_716
  simp only [b1, b2, b3, b4, b5, b6, if_true, e1, Option.bind_some, e3, lgc_self]
  exact hK z2 y' h'
theorem llaw_739 (h : INV z y) (b1 : inb (x3 + 1) L = true) (b2 : inb (x3 + 2) L = true) (b3 : inb (x3 + 3) L = true) (b4 : inb (x3 + 4) L = true) (b5 : inb (x3 + 5) L = true) (b6 : inb (x3 + 6) L = true) (hK : ∀ z' y', INV z' y' → ∃ res, K z' 0 68 (x3 + 7) = some res ∧ res.2 = 1) : ∃ res, f_L_law_739 xs L K z 0 68 x3 = some res ∧ res.2 = 1 := by
  obtain ⟨z1, z2, r, e1, e2, y', h'⟩ := s_judge h (xs (Int32.toNatClampNeg (x3 + 1))) (xs (Int32.toNatClampNeg (x3 + 2)))
  have e3 : f_X11_judge z1 68 (xs (Int32.toNatClampNeg (x3 + 1))) (xs (Int32.toNatClampNeg (x3 + 2))) = some (z2, r) := e2
  unfold f_L_law_739
  simp only [b1, b2, b3, b4, b5, b6, if_true, e1, Option.bind_some, e3, lgc_self]
  exact hK z2 y' h'
theorem llaw_773 (h : INV z y) (b1 : inb (x3 + 1) L = true) (b2 : inb (x3 + 2) L = true) (b3 : inb (x3 + 3) L = true) (b4 : inb (x3 + 4) L = true) (b5 : inb (x3 + 5) L = true) (b6 : inb (x3 + 6) L = true) (hK : ∀ z' y', INV z' y' → ∃ res, K z' 0 68 (x3 + 7) = some res ∧ res.2 = 1) : ∃ res, f_L_law_773 xs L K z 0 68 x3 = some res ∧ res.2 = 1 := by
  obtain ⟨z1, z2, r, e1, e2, y', h'⟩ := s_film h (xs (Int32.toNatClampNeg (x3 + 1)))
  have e3 : f_X11_film z1 68 (xs (Int32.toNatClampNeg (x3 + 1))) = some (z2, r) := e2
  unfold f_L_law_773
  simp only [b1, b2, b3, b4, b5, b6, if_true, e1, Option.bind_some, e3, lgc_self]
  exact hK z2 y' h'
theorem llaw_796 (h : INV z y) (b1 : inb (x3 + 1) L = true) (b2 : inb (x3 + 2) L = true) (b3 : inb (x3 + 3) L = true) (b4 : inb (x3 + 4) L = true) (b5 : inb (x3 + 5) L = true) (b6 : inb (x3 + 6) L = true) (hK : ∀ z' y', INV z' y' → ∃ res, K z' 0 68 (x3 + 7) = some res ∧ res.2 = 1) : ∃ res, f_L_law_796 xs L K z 0 68 x3 = some res ∧ res.2 = 1 := by
  obtain ⟨z1, z2, r, e1, e2, y', h'⟩ := s_drawn h (xs (Int32.toNatClampNeg (x3 + 1))) (xs (Int32.toNatClampNeg (x3 + 2)))
  have e3 : f_X11_drawn z1 68 (xs (Int32.toNatClampNeg (x3 + 1))) (xs (Int32.toNatClampNeg (x3 + 2))) = some (z2, r) := e2
  unfold f_L_law_796
  simp only [b1, b2, b3, b4, b5, b6, if_true, e1, Option.bind_some, e3, lgc_self]
  exact hK z2 y' h'
theorem llaw_829 (h : INV z y) (b1 : inb (x3 + 1) L = true) (b2 : inb (x3 + 2) L = true) (b3 : inb (x3 + 3) L = true) (b4 : inb (x3 + 4) L = true) (b5 : inb (x3 + 5) L = true) (b6 : inb (x3 + 6) L = true) (hK : ∀ z' y', INV z' y' → ∃ res, K z' 0 68 (x3 + 7) = some res ∧ res.2 = 1) : ∃ res, f_L_law_829 xs L K z 0 68 x3 = some res ∧ res.2 = 1 := by
  obtain ⟨z1, z2, r, e1, e2, y', h'⟩ := s_chance h (xs (Int32.toNatClampNeg (x3 + 1))) (xs (Int32.toNatClampNeg (x3 + 2))) (xs (Int32.toNatClampNeg (x3 + 3))) (xs (Int32.toNatClampNeg (x3 + 4))) (xs (Int32.toNatClampNeg (x3 + 5)))
  have e3 : f_X11_chance z1 68 (xs (Int32.toNatClampNeg (x3 + 1))) (xs (Int32.toNatClampNeg (x3 + 2))) (xs (Int32.toNatClampNeg (x3 + 3))) (xs (Int32.toNatClampNeg (x3 + 4))) (xs (Int32.toNatClampNeg (x3 + 5))) = some (z2, r) := e2
  unfold f_L_law_829
  simp only [b1, b2, b3, b4, b5, b6, if_true, e1, Option.bind_some, e3, lgc_self]
  exact hK z2 y' h'
theorem llaw_892 (h : INV z y) (b1 : inb (x3 + 1) L = true) (b2 : inb (x3 + 2) L = true) (b3 : inb (x3 + 3) L = true) (b4 : inb (x3 + 4) L = true) (b5 : inb (x3 + 5) L = true) (b6 : inb (x3 + 6) L = true) (hK : ∀ z' y', INV z' y' → ∃ res, K z' 0 68 (x3 + 7) = some res ∧ res.2 = 1) : ∃ res, f_L_law_892 xs L K z 0 68 x3 = some res ∧ res.2 = 1 := by
  obtain ⟨z1, z2, r, e1, e2, y', h'⟩ := s_go h (xs (Int32.toNatClampNeg (x3 + 1)))
  have e3 : f_X11_go z1 68 (xs (Int32.toNatClampNeg (x3 + 1))) = some (z2, r) := e2
  unfold f_L_law_892
  simp only [b1, b2, b3, b4, b5, b6, if_true, e1, Option.bind_some, e3, lgc_self]
  exact hK z2 y' h'
theorem llaw_915 (h : INV z y) (b1 : inb (x3 + 1) L = true) (b2 : inb (x3 + 2) L = true) (b3 : inb (x3 + 3) L = true) (b4 : inb (x3 + 4) L = true) (b5 : inb (x3 + 5) L = true) (b6 : inb (x3 + 6) L = true) (hK : ∀ z' y', INV z' y' → ∃ res, K z' 0 68 (x3 + 7) = some res ∧ res.2 = 1) : ∃ res, f_L_law_915 xs L K z 0 68 x3 = some res ∧ res.2 = 1 := by
  obtain ⟨z1, z2, r, e1, e2, y', h'⟩ := s_bench h (xs (Int32.toNatClampNeg (x3 + 1)))
  have e3 : f_X11_bench z1 68 (xs (Int32.toNatClampNeg (x3 + 1))) = some (z2, r) := e2
  unfold f_L_law_915
  simp only [b1, b2, b3, b4, b5, b6, if_true, e1, Option.bind_some, e3, lgc_self]
  exact hK z2 y' h'
theorem llaw_938 (h : INV z y) (b1 : inb (x3 + 1) L = true) (b2 : inb (x3 + 2) L = true) (b3 : inb (x3 + 3) L = true) (b4 : inb (x3 + 4) L = true) (b5 : inb (x3 + 5) L = true) (b6 : inb (x3 + 6) L = true) (hK : ∀ z' y', INV z' y' → ∃ res, K z' 0 68 (x3 + 7) = some res ∧ res.2 = 1) : ∃ res, f_L_law_938 xs L K z 0 68 x3 = some res ∧ res.2 = 1 := by
  obtain ⟨z1, z2, r, e1, e2, y', h'⟩ := s_began h (xs (Int32.toNatClampNeg (x3 + 1)))
  have e3 : f_X11_began z1 68 (xs (Int32.toNatClampNeg (x3 + 1))) = some (z2, r) := e2
  unfold f_L_law_938
  simp only [b1, b2, b3, b4, b5, b6, if_true, e1, Option.bind_some, e3, lgc_self]
  exact hK z2 y' h'
theorem llaw_961 (h : INV z y) (b1 : inb (x3 + 1) L = true) (b2 : inb (x3 + 2) L = true) (b3 : inb (x3 + 3) L = true) (b4 : inb (x3 + 4) L = true) (b5 : inb (x3 + 5) L = true) (b6 : inb (x3 + 6) L = true) (hK : ∀ z' y', INV z' y' → ∃ res, K z' 0 68 (x3 + 7) = some res ∧ res.2 = 1) : ∃ res, f_L_law_961 xs L K z 0 68 x3 = some res ∧ res.2 = 1 := by
  obtain ⟨z1, z2, r, e1, e2, y', h'⟩ := s_image h
  have e3 : f_X11_image z1 68 = some (z2, r) := e2
  unfold f_L_law_961
  simp only [b1, b2, b3, b4, b5, b6, if_true, e1, Option.bind_some, e3, lgc_self]
  exact hK z2 y' h'
theorem llaw_974 (h : INV z y) (b1 : inb (x3 + 1) L = true) (b2 : inb (x3 + 2) L = true) (b3 : inb (x3 + 3) L = true) (b4 : inb (x3 + 4) L = true) (b5 : inb (x3 + 5) L = true) (b6 : inb (x3 + 6) L = true) (hK : ∀ z' y', INV z' y' → ∃ res, K z' 0 68 (x3 + 7) = some res ∧ res.2 = 1) : ∃ res, f_L_law_974 xs L K z 0 68 x3 = some res ∧ res.2 = 1 := by
  obtain ⟨z1, z2, r, e1, e2, y', h'⟩ := s_back h
  have e3 : f_X11_back z1 68 = some (z2, r) := e2
  unfold f_L_law_974
  simp only [b1, b2, b3, b4, b5, b6, if_true, e1, Option.bind_some, e3, lgc_self]
  exact hK z2 y' h'
theorem llaw_987 (h : INV z y) (b1 : inb (x3 + 1) L = true) (b2 : inb (x3 + 2) L = true) (b3 : inb (x3 + 3) L = true) (b4 : inb (x3 + 4) L = true) (b5 : inb (x3 + 5) L = true) (b6 : inb (x3 + 6) L = true) (hK : ∀ z' y', INV z' y' → ∃ res, K z' 0 68 (x3 + 7) = some res ∧ res.2 = 1) : ∃ res, f_L_law_987 xs L K z 0 68 x3 = some res ∧ res.2 = 1 := by
  obtain ⟨z1, z2, r, e1, e2, y', h'⟩ := s_count h (xs (Int32.toNatClampNeg (x3 + 1)))
  have e3 : f_X11_count z1 68 (xs (Int32.toNatClampNeg (x3 + 1))) = some (z2, r) := e2
  unfold f_L_law_987
  simp only [b1, b2, b3, b4, b5, b6, if_true, e1, Option.bind_some, e3, lgc_self]
  exact hK z2 y' h'
theorem llaw_1010 (h : INV z y) (b1 : inb (x3 + 1) L = true) (b2 : inb (x3 + 2) L = true) (b3 : inb (x3 + 3) L = true) (b4 : inb (x3 + 4) L = true) (b5 : inb (x3 + 5) L = true) (b6 : inb (x3 + 6) L = true) (hK : ∀ z' y', INV z' y' → ∃ res, K z' 0 68 (x3 + 7) = some res ∧ res.2 = 1) : ∃ res, f_L_law_1010 xs L K z 0 68 x3 = some res ∧ res.2 = 1 := by
  obtain ⟨z1, z2, r, e1, e2, y', h'⟩ := s_sheet h (xs (Int32.toNatClampNeg (x3 + 1))) (xs (Int32.toNatClampNeg (x3 + 2))) (xs (Int32.toNatClampNeg (x3 + 3)))
  have e3 : f_X11_sheet z1 68 (xs (Int32.toNatClampNeg (x3 + 1))) (xs (Int32.toNatClampNeg (x3 + 2))) (xs (Int32.toNatClampNeg (x3 + 3))) = some (z2, r) := e2
  unfold f_L_law_1010
  simp only [b1, b2, b3, b4, b5, b6, if_true, e1, Option.bind_some, e3, lgc_self]
  exact hK z2 y' h'
theorem llaw_1053 (h : INV z y) (b1 : inb (x3 + 1) L = true) (b2 : inb (x3 + 2) L = true) (b3 : inb (x3 + 3) L = true) (b4 : inb (x3 + 4) L = true) (b5 : inb (x3 + 5) L = true) (b6 : inb (x3 + 6) L = true) (hK : ∀ z' y', INV z' y' → ∃ res, K z' 0 68 (x3 + 7) = some res ∧ res.2 = 1) : ∃ res, f_L_law_1053 xs L K z 0 68 x3 = some res ∧ res.2 = 1 := by
  obtain ⟨z1, z2, r, e1, e2, y', h'⟩ := s_put h (xs (Int32.toNatClampNeg (x3 + 1))) (xs (Int32.toNatClampNeg (x3 + 2))) (((Int32.toInt64 (xs (Int32.toNatClampNeg (x3 + 3)))) <<< (Int32.toInt64 32 &&& 63)) ||| ((Int32.toInt64 (xs (Int32.toNatClampNeg (x3 + 4)))) &&& 4294967295))
  have e3 : f_X11_put z1 68 (xs (Int32.toNatClampNeg (x3 + 1))) (xs (Int32.toNatClampNeg (x3 + 2))) (((Int32.toInt64 (xs (Int32.toNatClampNeg (x3 + 3)))) <<< (Int32.toInt64 32 &&& 63)) ||| ((Int32.toInt64 (xs (Int32.toNatClampNeg (x3 + 4)))) &&& 4294967295)) = some (z2, r) := e2
  unfold f_L_law_1053
  simp only [b1, b2, b3, b4, b5, b6, if_true, e1, Option.bind_some, e3, lgc_self]
  exact hK z2 y' h'
theorem llaw_1126 (h : INV z y) (b1 : inb (x3 + 1) L = true) (b2 : inb (x3 + 2) L = true) (b3 : inb (x3 + 3) L = true) (b4 : inb (x3 + 4) L = true) (b5 : inb (x3 + 5) L = true) (b6 : inb (x3 + 6) L = true) (hK : ∀ z' y', INV z' y' → ∃ res, K z' 0 68 (x3 + 7) = some res ∧ res.2 = 1) : ∃ res, f_L_law_1126 xs L K z 0 68 x3 = some res ∧ res.2 = 1 := by
  obtain ⟨z1, z2, r, e1, e2, y', h'⟩ := s_item h (xs (Int32.toNatClampNeg (x3 + 1))) (xs (Int32.toNatClampNeg (x3 + 2)))
  have e3 : f_X11_item_ z1 68 (xs (Int32.toNatClampNeg (x3 + 1))) (xs (Int32.toNatClampNeg (x3 + 2))) = some (z2, r) := e2
  unfold f_L_law_1126
  simp only [b1, b2, b3, b4, b5, b6, if_true, e1, Option.bind_some, e3, lgc_self]
  exact hK z2 y' h'
theorem llaw_1160 (h : INV z y) (b1 : inb (x3 + 1) L = true) (b2 : inb (x3 + 2) L = true) (b3 : inb (x3 + 3) L = true) (b4 : inb (x3 + 4) L = true) (b5 : inb (x3 + 5) L = true) (b6 : inb (x3 + 6) L = true) (hK : ∀ z' y', INV z' y' → ∃ res, K z' 0 68 (x3 + 7) = some res ∧ res.2 = 1) : ∃ res, f_L_law_1160 xs L K z 0 68 x3 = some res ∧ res.2 = 1 := by
  obtain ⟨z1, z2, r, e1, e2, y', h'⟩ := s_copy h (xs (Int32.toNatClampNeg (x3 + 1))) (xs (Int32.toNatClampNeg (x3 + 2))) (xs (Int32.toNatClampNeg (x3 + 3))) (xs (Int32.toNatClampNeg (x3 + 4))) (xs (Int32.toNatClampNeg (x3 + 5)))
  have e3 : f_X11_copy z1 68 (xs (Int32.toNatClampNeg (x3 + 1))) (xs (Int32.toNatClampNeg (x3 + 2))) (xs (Int32.toNatClampNeg (x3 + 3))) (xs (Int32.toNatClampNeg (x3 + 4))) (xs (Int32.toNatClampNeg (x3 + 5))) = some (z2, r) := e2
  unfold f_L_law_1160
  simp only [b1, b2, b3, b4, b5, b6, if_true, e1, Option.bind_some, e3, lgc_self]
  exact hK z2 y' h'
theorem l_27 (h : INV z y) (b0 : inb x3 L = true) (b1 : inb (x3 + 1) L = true) (b2 : inb (x3 + 2) L = true) (b3 : inb (x3 + 3) L = true) (b4 : inb (x3 + 4) L = true) (b5 : inb (x3 + 5) L = true) (b6 : inb (x3 + 6) L = true) (hK : ∀ z' y', INV z' y' → ∃ res, K z' 0 68 (x3 + 7) = some res ∧ res.2 = 1) : ∃ res, f_L_law_27 xs L K z 0 68 x3 = some res ∧ res.2 = 1 := by
  unfold f_L_law_27
  rw [b0, if_pos rfl]
  generalize (xs (Int32.toNatClampNeg x3)) &&& 63 = w
  by_cases g0 : w = 0
  · rw [if_pos g0]
    exact llaw_180 h b1 b2 b3 b4 b5 b6 hK
  rw [if_neg g0]
  by_cases g1 : w = 1
  · rw [if_pos g1]
    exact llaw_255 h b1 b2 b3 b4 b5 b6 hK
  rw [if_neg g1]
  by_cases g2 : w = 2
  · rw [if_pos g2]
    exact llaw_268 h b1 b2 b3 b4 b5 b6 hK
  rw [if_neg g2]
  by_cases g3 : w = 3
  · rw [if_pos g3]
    exact llaw_321 h b1 b2 b3 b4 b5 b6 hK
  rw [if_neg g3]
  by_cases g4 : w = 4
  · rw [if_pos g4]
    exact llaw_364 h b1 b2 b3 b4 b5 b6 hK
  rw [if_neg g4]
  by_cases g5 : w = 5
  · rw [if_pos g5]
    exact llaw_397 h b1 b2 b3 b4 b5 b6 hK
  rw [if_neg g5]
  by_cases g6 : w = 6
  · rw [if_pos g6]
    exact llaw_420 h b1 b2 b3 b4 b5 b6 hK
  rw [if_neg g6]
  by_cases g7 : w = 7
  · rw [if_pos g7]
    exact llaw_453 h b1 b2 b3 b4 b5 b6 hK
  rw [if_neg g7]
  by_cases g8 : w = 8
  · rw [if_pos g8]
    exact llaw_486 h b1 b2 b3 b4 b5 b6 hK
  rw [if_neg g8]
  by_cases g9 : w = 9
  · rw [if_pos g9]
    exact llaw_509 h b1 b2 b3 b4 b5 b6 hK
  rw [if_neg g9]
  by_cases g10 : w = 10
  · rw [if_pos g10]
    exact llaw_532 h b1 b2 b3 b4 b5 b6 hK
  rw [if_neg g10]
  by_cases g11 : w = 11
  · rw [if_pos g11]
    exact llaw_565 h b1 b2 b3 b4 b5 b6 hK
  rw [if_neg g11]
  by_cases g12 : w = 12
  · rw [if_pos g12]
    exact llaw_588 h b1 b2 b3 b4 b5 b6 hK
  rw [if_neg g12]
  by_cases g13 : w = 13
  · rw [if_pos g13]
    exact llaw_611 h b1 b2 b3 b4 b5 b6 hK
  rw [if_neg g13]
  by_cases g14 : w = 14
  · rw [if_pos g14]
    exact llaw_634 h b1 b2 b3 b4 b5 b6 hK
  rw [if_neg g14]
  by_cases g15 : w = 15
  · rw [if_pos g15]
    exact llaw_647 h b1 b2 b3 b4 b5 b6 hK
  rw [if_neg g15]
  by_cases g16 : w = 16
  · rw [if_pos g16]
    exact llaw_670 h b1 b2 b3 b4 b5 b6 hK
  rw [if_neg g16]
  by_cases g17 : w = 17
  · rw [if_pos g17]
    exact llaw_693 h b1 b2 b3 b4 b5 b6 hK
  rw [if_neg g17]
  by_cases g18 : w = 18
  · rw [if_pos g18]
    exact llaw_716 h b1 b2 b3 b4 b5 b6 hK
  rw [if_neg g18]
  by_cases g19 : w = 19
  · rw [if_pos g19]
    exact llaw_739 h b1 b2 b3 b4 b5 b6 hK
  rw [if_neg g19]
  by_cases g20 : w = 20
  · rw [if_pos g20]
    exact llaw_773 h b1 b2 b3 b4 b5 b6 hK
  rw [if_neg g20]
  by_cases g21 : w = 21
  · rw [if_pos g21]
    exact llaw_796 h b1 b2 b3 b4 b5 b6 hK
  rw [if_neg g21]
  by_cases g22 : w = 22
  · rw [if_pos g22]
    exact llaw_829 h b1 b2 b3 b4 b5 b6 hK
  rw [if_neg g22]
  by_cases g23 : w = 23
  · rw [if_pos g23]
    exact llaw_892 h b1 b2 b3 b4 b5 b6 hK
  rw [if_neg g23]
  by_cases g24 : w = 24
  · rw [if_pos g24]
    exact llaw_915 h b1 b2 b3 b4 b5 b6 hK
  rw [if_neg g24]
  by_cases g25 : w = 25
  · rw [if_pos g25]
    exact llaw_938 h b1 b2 b3 b4 b5 b6 hK
  rw [if_neg g25]
  by_cases g26 : w = 26
  · rw [if_pos g26]
    exact llaw_961 h b1 b2 b3 b4 b5 b6 hK
  rw [if_neg g26]
  by_cases g27 : w = 27
  · rw [if_pos g27]
    exact llaw_974 h b1 b2 b3 b4 b5 b6 hK
  rw [if_neg g27]
  by_cases g28 : w = 28
  · rw [if_pos g28]
    exact llaw_987 h b1 b2 b3 b4 b5 b6 hK
  rw [if_neg g28]
  by_cases g29 : w = 29
  · rw [if_pos g29]
    exact llaw_1010 h b1 b2 b3 b4 b5 b6 hK
  rw [if_neg g29]
  by_cases g30 : w = 30
  · rw [if_pos g30]
    exact llaw_1053 h b1 b2 b3 b4 b5 b6 hK
  rw [if_neg g30]
  by_cases g31 : w = 31
  · rw [if_pos g31]
    exact llaw_1126 h b1 b2 b3 b4 b5 b6 hK
  rw [if_neg g31]
  by_cases g32 : w = 32
  · rw [if_pos g32]
    exact llaw_1160 h b1 b2 b3 b4 b5 b6 hK
  rw [if_neg g32]
  exact hK z y h
theorem oN_iv (n : Nat) : Int32.ofNat n = iv (n : Int) := by
  unfold iv
  rfl
theorem l_18 (hL : L ≤ 3584) : ∀ (d i F : Nat) (z : St) (y : Sy), INV z y → L ≤ i + 7 * d → i ≤ 3600 → d < F → ∃ res, f_L_law_18 xs L F z 0 68 (iv (i : Int)) = some res ∧ res.2 = 1
  | d, i, 0, z, y, _, _, _, hF => absurd hF (Nat.not_lt_zero _)
  | d, i, F + 1, z, y, h, h1, h2, hF => by
    have e7 : Int32.ofNat L - 7 = iv ((L : Int) - 7) := by
      rw [oN_iv, show (7 : Int32) = iv 7 by decide, iv_sub]
    rw [f_L_law_18, e7]
    by_cases g : i + 7 ≤ L
    · rw [if_neg (fun e => by have := (iv_lt ⟨by omega, by omega⟩ (sm_k (by omega))).mp e; omega)]
      obtain ⟨d', rfl⟩ : ∃ d', d = d' + 1 := ⟨d - 1, by omega⟩
      have bk : ∀ k : Nat, k < 7 → inb (iv (i : Int) + iv (k : Int)) L = true := fun k hk => by
        rw [iv_add, show ((i : Int) + (k : Int)) = ((i + k : Nat) : Int) by omega]
        exact inb_k (by omega) (by omega)
      refine l_27 h (by have := bk 0 (by decide); rw [iv_add] at this; simpa using this) (bk 1 (by decide)) (bk 2 (by decide)) (bk 3 (by decide)) (bk 4 (by decide)) (bk 5 (by decide)) (bk 6 (by decide)) (fun z' y' h' => ?_)
      have e : iv (i : Int) + 7 = iv ((i + 7 : Nat) : Int) := by
        rw [show (7 : Int32) = iv 7 by decide, iv_add]
        congr 1
      rw [e]
      exact l_18 hL d' (i + 7) F z' y' h' (by omega) (by omega) (by omega)
    · rw [if_pos ((iv_lt ⟨by omega, by omega⟩ (sm_k (by omega))).mpr (by omega))]
      exact ⟨_, rfl, rfl⟩
end LAWS
