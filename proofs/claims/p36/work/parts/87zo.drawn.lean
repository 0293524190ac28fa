/-! DRAWN -/
section DRAWN
variable {z : St} {y : Sy}
theorem BD_J {n : Nat} {v : Nat → Nat → Int} (h : JV n v) {N : Int} (hN : 0 ≤ N ∧ N ≤ 30) {sd : Int32} {k : Nat} : ∀ j, j < n → (0 ≤ dc (cmO v) N sd k j ∧ dc (cmO v) N sd k j ≤ 160) ∧ (1 ≤ tkO v j ∧ tkO v j ≤ 25) ∧ (0 ≤ clO v j ∧ clO v j ≤ 130) := by
  intro j hj
  have b := BD_I h j hj
  have d := dc_b (c := cmO v) (sd := sd) hN.1 k j
  have c63 : cmO v j ≤ 63 := by
    obtain ⟨a, b, c, d⟩ := h j hj
    unfold cmO
    repeat' split
    all_goals omega
  exact ⟨⟨by omega, by omega⟩, b.2⟩
theorem s_drawn (h : INV z y) (sd b : Int32) : Both (f_X10_drawn z 0 sd b) (fun z => f_X11_drawn z 68 sd b) := by
  obtain ⟨N, sN, rfl⟩ := ex_iv b
  have h8 := h.1.1.2.1
  by_cases g : 0 ≤ N ∧ N ≤ 30
  · have hb := BD_J h.2.2.1 g (sd := sd) (k := y.1)
    obtain ⟨z1, z2, a1, a2, a3, a4⟩ := drc_of h.1.2.1 g (sd := sd)
    obtain ⟨z3, r1, r2, r3, r4, r5, r6, r7⟩ := run_c a3 (root_G h8 hb (root_D h8 hb)) (Nat.mul_le_mul_left 3 (tk_le h8 hb)) (root_f h8 hb).2.2
    have f1 : Fr sC z z3 := (a4.mono (Q := sC) (fun a e => by unfold sC; omega)).trans (r4.mono (Q := sC) (fun a e => by unfold fS at e; unfold sC; omega))
    obtain ⟨z4, m1, m2, m3⟩ := drs_of (XM_sC h f1).1 h.2.2.1 g (sd := sd)
    obtain ⟨z5, l1, l2, l3, l4⟩ := ln_of m2 hb
    refine Both_r h (z1 := z3) (z2 := z5) (r := iv (SR (dc (cmO y.2.1) N sd y.1) (tkO y.2.1) (clO y.2.1) y.1).1) ?_ f1 ?_ ((m3.mono (Q := fun a => sM a ∨ a = 68) (fun a e => Or.inl (by unfold sM; omega))).trans (l3.mono (fun a e => by unfold sM; omega))) (fun k hk => by rw [l4 k hk, (m3 68 (by decide)).1])
    · unfold f_X10_drawn f_X10_drawn_0 f_X10_drawn_4 f_X10_drawn_13
      rw [if_neg (fun e => by have := (iv_lt0 sN).mp e; omega), show (30 : Int32) = iv 30 by decide, if_pos ((iv_lek sN 30).mpr g.2), r0_5, r0_4, r0_10, a1, Option.bind_some, a2, Option.bind_some, r1, Option.bind_some, r2.1]
    · show f_X11_drawn z3 68 sd (iv N) = _
      unfold f_X11_drawn f_X11_drawn_0
      have ei : f_X11_in z3 (iv N) 0 30 = some (z3, ob (0 ≤ N ∧ N ≤ 30)) := by
        rw [n_0, show (30 : Int32) = iv 30 by decide]
        exact in_ob sN (sm_d 0) (sm_d 30)
      rw [ei, Option.bind_some]
      show (if ob (0 ≤ N ∧ N ≤ 30) = 0 then _ else _) = _
      rw [if_neg (fun e => ob_0.mp e g)]
      unfold f_X11_drawn_13
      show ((f_X11_draws z3 68 sd (iv N)).bind _) = _
      rw [m1, Option.bind_some, l1, Option.bind_some]
  · refine Both_s h (r := iv (-2)) ?_ ?_
    · unfold f_X10_drawn f_X10_drawn_0 f_X10_drawn_4 f_X10_drawn_10
      rw [n_m2, show (30 : Int32) = iv 30 by decide]
      by_cases g0 : N < 0
      · rw [if_pos ((iv_lt0 sN).mpr g0)]
      · rw [if_neg (fun e => g0 ((iv_lt0 sN).mp e)), if_neg (fun e => by have := (iv_lek sN 30).mp e; omega)]
    · show f_X11_drawn z 68 sd (iv N) = _
      unfold f_X11_drawn f_X11_drawn_0
      have ei : f_X11_in z (iv N) 0 30 = some (z, ob (0 ≤ N ∧ N ≤ 30)) := by
        rw [n_0, show (30 : Int32) = iv 30 by decide]
        exact in_ob sN (sm_d 0) (sm_d 30)
      rw [ei, Option.bind_some]
      show (if ob (0 ≤ N ∧ N ≤ 30) = 0 then _ else _) = _
      rw [if_pos (ob_0.mpr g)]
      unfold f_X11_drawn_10
      rw [n_m2]
end DRAWN
