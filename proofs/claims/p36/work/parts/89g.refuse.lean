/-! P36: set, taken; what is asked and refused -/
section REF
variable {z : St} {xs : Nat → Int32} {L n : Nat} {v : Nat → Nat → Int} {x : Tr}
theorem vS_id {j : Nat} : vS v 2 j (v 2 j) = v := by
  funext a b
  unfold vS
  split
  · rename_i e
    rw [e.1, e.2]
  · rfl
theorem l_749 (hL : L ≤ 260) (h8 : n ≤ 8) (h : IK z (YL n v tr0 b00)) {k : Nat} (hk : k < n) : ∃ z', f_L_law_749 xs L z 0 (iv (n : Int)) (stV n v tr0 0) (iv (k : Int)) = some (z', 1) := by
  have b := h.2.1 k hk
  obtain ⟨a, ha⟩ : ∃ a : Nat, v 0 k = (a : Int) := ⟨(v 0 k).toNat, by have := b.1; show v 0 k = _; have e : (YL n v tr0 b00).2.1 0 k = v 0 k := rfl; omega⟩
  have a6 : a < 6 := by
    have e : (YL n v tr0 b00).2.1 0 k = v 0 k := rfl
    have := b.1
    omega
  have tk : ∀ w : Nat, w < 6 → ∀ W : Int32, W = iv (w : Int) → f_X10_taken z 0 (iv (k : Int)) W = some (z, iv (if isU a w = true then tkO v k + clO v k else -13)) := fun w hw W hW => by
    have e := q_takenk h hk (w := (w : Int)) ⟨by omega, by omega⟩ rfl hW
    have e2 : (YL n v tr0 b00).2.1 0 k = (a : Int) := ha
    rw [e2, Int.toNat_natCast, Int.toNat_natCast] at e
    exact e
  have t0 := tk 0 (by decide) 0 n_0
  have u0 : isU a 0 = true := by
    unfold isU
    simp
  have ua : isU a a = true := by
    unfold isU
    simp
  rw [if_pos u0] at t0
  have d0 : f_X10_told z 0 (iv (k : Int)) 0 = some (z, iv (a : Int)) := by
    have e := q_toldk h hk (w := 0) (by decide) rfl n_0
    have e2 : itsV (YL n v tr0 b00).2.1 0 k = (a : Int) := ha
    rw [e2] at e
    exact e
  have d5 : f_X10_told z 0 (iv (k : Int)) 5 = some (z, iv (tkO v k)) := q_toldk h hk (w := 5) (by decide) rfl (by decide)
  have d6 : f_X10_told z 0 (iv (k : Int)) 6 = some (z, iv (clO v k)) := q_toldk h hk (w := 6) (by decide) rfl (by decide)
  have en : ∀ s : Int32, ∃ z', f_L_law_837 xs L z 0 (iv (n : Int)) (stV n v tr0 0) s s = some (z', 1) := fun s => by
    unfold f_L_law_837
    rw [if_pos rfl]
    exact l_842 hL h8 h (fun _ => rfl)
  unfold f_L_law_749
  rw [d0, Option.bind_some]
  dsimp only
  rw [t0, Option.bind_some]
  dsimp only
  rw [d5, Option.bind_some]
  dsimp only
  rw [d6, Option.bind_some]
  dsimp only
  rw [if_pos (iv_add _ _).symm]
  unfold f_L_law_784
  rw [tk a a6 _ rfl, Option.bind_some]
  dsimp only
  rw [t0, Option.bind_some]
  dsimp only
  rw [if_pos (by rw [if_pos ua])]
  unfold f_L_law_802
  have sa : sm (a : Int) := sm_k (by omega)
  by_cases a1 : a = 1
  · subst a1
    rw [if_pos (by decide)]
    unfold f_L_law_811 f_L_law_816
    rw [tk 2 (by decide) 2 n_2, Option.bind_some]
    dsimp only
    rw [if_neg (by decide), if_neg (by decide)]
    unfold f_L_law_835
    exact en _
  · rw [if_neg (fun e => a1 (by
      rw [n_1] at e
      have := (iv_eqk sa 1).mp e
      omega))]
    unfold f_L_law_815 f_L_law_816
    rw [tk 1 (by decide) 1 n_1, Option.bind_some]
    dsimp only
    by_cases a3 : a = 3
    · subst a3
      rw [if_pos (by decide), if_pos (by decide)]
      unfold f_L_law_825
      rw [t0, Option.bind_some]
      exact en _
    · have u1 : ¬ isU a 1 = true := by
        rcases (show a = 0 ∨ a = 2 ∨ a = 4 ∨ a = 5 by omega) with rfl | rfl | rfl | rfl <;> decide
      rw [if_neg (fun e => a3 (by
        rw [n_3] at e
        have := (iv_eqk sa 3).mp e
        omega)), if_neg u1]
      unfold f_L_law_835
      exact en _
theorem l_699 (hL : L ≤ 260) (h8 : n ≤ 8) (h : IK z (YL n v x b00)) : ∃ z', f_L_law_699 xs L z 0 (iv (n : Int)) (stV n v tr0 0) = some (z', 1) := by
  unfold f_L_law_699
  have sn : sm (n : Int) := sm_k (by omega)
  by_cases g : n = 0
  · rw [if_pos (by rw [g]; decide)]
    exact l_842 hL h8 h (fun e => by omega)
  · rw [if_neg (fun e => g (by
      rw [n_0] at e
      have := (iv_lek sn 0).mp e
      omega))]
    obtain ⟨a5, h5⟩ := at_of (xs := xs) hL (k := 5) (by decide)
    obtain ⟨j, j1, j2⟩ := some_of (a := a5) (N := (n : Int)) ⟨by omega, by omega⟩
    have e5 : ∀ z : St, f_L_at xs L z 5 = some (z, a5) := h5
    obtain ⟨k, rfl⟩ : ∃ k : Nat, j = k := ⟨j.toNat, by omega⟩
    have hk : k < n := by omega
    have b : 1 ≤ v 2 k ∧ v 2 k ≤ 20 := (h.2.1 k hk).2.2.1
    obtain ⟨z1, e1, h1⟩ := p_set h (k := k) (u := 2) (x := v 2 k) ⟨by omega, by omega⟩ hk (by decide) (by unfold loT hiT; simp; omega)
    have h1 : IK z1 (YM n v n (vS v 2 k (v 2 k)) tr0 b00) := h1
    rw [vS_id] at h1
    have h1 : IK z1 (YL n v tr0 b00) := h1
    have e1 : f_X10_set z 0 (iv (k : Int)) 2 (iv (v 2 k)) = some (z1, iv (v 2 k)) := by
      rw [n_2]
      exact e1
    have d2 : f_X10_told z 0 (iv (k : Int)) 2 = some (z, iv (v 2 k)) := q_toldk h hk (w := 2) (by decide) rfl n_2
    have d2' : f_X10_told z1 0 (iv (k : Int)) 2 = some (z1, iv (v 2 k)) := q_toldk h1 hk (w := 2) (by decide) rfl n_2
    obtain ⟨z2, e2⟩ := l_749 (xs := xs) hL h8 h1 hk
    refine ⟨z2, ?_⟩
    unfold f_L_law_703
    rw [e5, Option.bind_some]
    dsimp only
    rw [j2, Option.bind_some]
    dsimp only
    rw [d2, Option.bind_some]
    dsimp only
    rw [e1, Option.bind_some]
    dsimp only
    rw [d2', Option.bind_some]
    dsimp only
    rw [if_pos rfl]
    unfold f_L_law_738
    rw [l_state h1, Option.bind_some, if_pos (lc_eq _)]
    exact e2
theorem l_626 (hL : L ≤ 260) (h8 : n ≤ 8) (h : IK z (YL n v x b00)) : ∃ z', f_L_law_626 xs L z 0 (iv (n : Int)) (stV n v tr0 0) (stV n v x 0) = some (z', 1) := by
  obtain ⟨a4, h4⟩ := at_of (xs := xs) hL (k := 4) (by decide)
  have e4 : ∀ z : St, f_L_at xs L z 4 = some (z, a4) := h4
  obtain ⟨N, j1, j2⟩ := some_of (a := a4) (N := 31) (by decide)
  have j2 : ∀ z : St, f_L_some z a4 31 = some (z, iv N) := j2
  obtain ⟨z1, e1, h1⟩ := q_greedy h (a := -1) (b := 0) (k := -1) (w := 0) n_m1 n_0 (sm_d (-1)) (sm_d 0) (by decide) ⟨by decide, by show (-1 : Int) < n; omega⟩
  obtain ⟨z2, r2, e2, h2⟩ := p_breaking h1
  obtain ⟨z3, r3, e3, h3⟩ := p_least h2
  obtain ⟨z5, r5, e5, h5⟩ := p_many h3
  obtain ⟨z6, r6, e6, h6⟩ := p_drawn h5 (N := N) (sd := a4) (by omega)
  obtain ⟨r7, e7⟩ := p_strongest h6
  obtain ⟨z7, e8⟩ := l_699 (xs := xs) hL h8 h6
  refine ⟨z7, ?_⟩
  unfold f_L_law_626
  rw [e1, Option.bind_some]
  dsimp only
  rw [e2, Option.bind_some]
  dsimp only
  rw [e3, Option.bind_some]
  dsimp only
  rw [e5, Option.bind_some]
  dsimp only
  rw [e4, Option.bind_some]
  dsimp only
  rw [e4, Option.bind_some]
  dsimp only
  rw [j2, Option.bind_some]
  dsimp only
  rw [e6, Option.bind_some]
  dsimp only
  rw [e7, Option.bind_some]
  dsimp only
  rw [if_neg lc_ne]
  unfold f_L_law_687
  rw [l_state h6, Option.bind_some, if_pos (lc_eq _)]
  exact e8
theorem l_605 (hL : L ≤ 260) (h8 : n ≤ 8) (h : IK z (YL n v x b00)) : ∃ z', f_L_law_605 xs L z 0 (iv (n : Int)) (stV n v tr0 0) (stV n v x 0) = some (z', 1) := by
  unfold f_L_law_605
  by_cases g : n = 8
  · rw [if_pos (by rw [g]; decide)]
    unfold f_L_law_611
    rw [q_job4 h (by show ¬ n < 8; omega), Option.bind_some]
    dsimp only
    rw [if_pos i_m4]
    exact l_626 hL h8 h
  · rw [if_neg (fun e => g (by
      rw [n_8] at e
      have := (iv_eqk (sm_k (show n < 2147483648 by omega)) 8).mp e
      omega))]
    exact l_626 hL h8 h
theorem l_329 (hL : L ≤ 260) (h8 : n ≤ 8) (h : IK z (YL n v x b00)) : ∃ z', f_L_law_329 xs L z 0 (iv (n : Int)) (stV n v tr0 0) (stV n v x 0) = some (z', 1) := by
  have sn : sm (n : Int) := sm_k (by omega)
  have gn : ¬ (0 ≤ (n : Int) ∧ (n : Int) < ((YL n v x b00).1 : Int)) := fun e => by
    have e2 : (n : Int) < (n : Int) := e.2
    omega
  have gm : ¬ (0 ≤ (-1 : Int) ∧ (-1 : Int) < ((YL n v x b00).1 : Int)) := fun e => absurd e.1 (by decide)
  unfold f_L_law_329
  rw [q_go2 h n_0 (sm_d 0) (by decide), Option.bind_some]
  dsimp only
  rw [if_pos i_m2]
  unfold f_L_law_339
  rw [q_go2 h (w := 61) (by decide) (sm_d 61) (by decide), Option.bind_some]
  dsimp only
  rw [if_pos i_m2]
  unfold f_L_law_350
  rw [q_job2 h (a' := 6) (b' := 0) (c' := 1) (d' := 0) (by decide) (by decide) (by decide) (by decide) (sm_d _) (sm_d _) (sm_d _) (sm_d _) (by unfold inJ; decide), Option.bind_some]
  dsimp only
  rw [if_pos i_m2]
  unfold f_L_law_364
  rw [q_job2 h (a' := 0) (b' := 61) (c' := 1) (d' := 0) (by decide) (by decide) (by decide) (by decide) (sm_d _) (sm_d _) (sm_d _) (sm_d _) (by unfold inJ; decide), Option.bind_some]
  dsimp only
  rw [if_pos i_m2]
  unfold f_L_law_378
  rw [q_job2 h (a' := 0) (b' := 0) (c' := 21) (d' := 0) (by decide) (by decide) (by decide) (by decide) (sm_d _) (sm_d _) (sm_d _) (sm_d _) (by unfold inJ; decide), Option.bind_some]
  dsimp only
  rw [if_pos i_m2]
  unfold f_L_law_392
  rw [q_job2 h (a' := 0) (b' := 0) (c' := 0) (d' := 0) (by decide) (by decide) (by decide) (by decide) (sm_d _) (sm_d _) (sm_d _) (sm_d _) (by unfold inJ; decide), Option.bind_some]
  dsimp only
  rw [if_pos i_m2]
  unfold f_L_law_405
  rw [q_job2 h (a' := 0) (b' := 0) (c' := 1) (d' := -1) (by decide) (by decide) (by decide) (by decide) (sm_d _) (sm_d _) (sm_d _) (sm_d _) (by unfold inJ; decide), Option.bind_some]
  dsimp only
  rw [if_pos i_m2]
  unfold f_L_law_418
  rw [q_set2 h (j := (n : Int)) (w := 0) (x := 0) rfl n_0 n_0 sn (sm_d 0) (sm_d 0) gn, Option.bind_some]
  dsimp only
  rw [if_pos i_m2]
  unfold f_L_law_430
  rw [q_drop2 h (j := -1) n_m1 (sm_d (-1)) gm, Option.bind_some]
  dsimp only
  rw [if_pos i_m2]
  unfold f_L_law_440
  rw [q_drop2 h (j := (n : Int)) rfl sn gn, Option.bind_some]
  dsimp only
  rw [if_pos i_m2]
  unfold f_L_law_450
  rw [q_told2 h (j := (n : Int)) (w := 0) sn (sm_d 0) rfl n_0 gn, Option.bind_some]
  dsimp only
  rw [if_pos i_m2]
  unfold f_L_law_461
  rw [q_taken2 h (j := (n : Int)) (w := 0) sn (sm_d 0) rfl n_0 gn, Option.bind_some]
  dsimp only
  rw [if_pos i_m2]
  unfold f_L_law_472
  rw [q_must2 h (j := (n : Int)) rfl sn gn, Option.bind_some]
  dsimp only
  rw [if_pos i_m2]
  unfold f_L_law_482
  rw [q_room2 h (j := -1) n_m1 (sm_d (-1)) gm, Option.bind_some]
  dsimp only
  rw [if_pos i_m2]
  unfold f_L_law_492
  rw [q_gain2 h (j := (n : Int)) rfl sn gn, Option.bind_some]
  dsimp only
  rw [if_pos i_m2]
  unfold f_L_law_502
  rw [q_bench h (sm_d 4) n_4, Option.bind_some]
  dsimp only
  rw [if_pos (show iv (beV x 4) = -2 from i_m2)]
  unfold f_L_law_512
  rw [q_began h sn rfl, Option.bind_some]
  dsimp only
  rw [if_pos (show iv (bgV n x (n : Int)) = -2 by unfold bgV; rw [if_neg (fun e => by omega)]; exact i_m2)]
  unfold f_L_law_522
  rw [q_count h (sm_d 3) n_3, Option.bind_some]
  dsimp only
  rw [if_pos (show iv (coV (YL n v x b00) 3) = -2 from i_m2)]
  unfold f_L_law_532
  rw [q_feed2 (z := z) (m' := 0) (a' := 1) (b' := 1) (c' := 1) (d' := 1) (e' := 1) n_0 n_1 n_1 n_1 n_1 n_1 (sm_d _) (sm_d _) (sm_d _) (sm_d _) (sm_d _) (sm_d _) (by unfold inF; decide), Option.bind_some]
  dsimp only
  rw [if_pos i_m2]
  unfold f_L_law_547
  rw [q_feed2 (z := z) (m' := 6) (a' := 1) (b' := 1) (c' := 1) (d' := 1) (e' := 1) n_6 n_1 n_1 n_1 n_1 n_1 (sm_d _) (sm_d _) (sm_d _) (sm_d _) (sm_d _) (sm_d _) (by unfold inF; decide), Option.bind_some]
  dsimp only
  rw [if_pos i_m2]
  unfold f_L_law_563
  rw [q_feed2 (z := z) (m' := 1) (a' := 1) (b' := 1) (c' := 256) (d' := 1) (e' := 1) n_1 n_1 n_1 (by decide) n_1 n_1 (sm_d _) (sm_d _) (sm_d _) (sm_d _) (sm_d _) (sm_d _) (by unfold inF; decide), Option.bind_some]
  dsimp only
  rw [if_pos i_m2]
  unfold f_L_law_580
  rw [p_judge2, Option.bind_some]
  dsimp only
  rw [if_pos (lc_eq _)]
  unfold f_L_law_593
  rw [p_film2, Option.bind_some]
  dsimp only
  rw [if_pos i_m2]
  exact l_605 hL h8 h
end REF
