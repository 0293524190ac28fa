/-! THE MODEL's branched -/
noncomputable def m9S (c : Nat → Int) (p : Nat → Bool) (k : Nat) (b : Int) : Int := if p k = true then min b (c k) else b
noncomputable def m9 (c : Nat → Int) (p : Nat → Bool) : Nat → Int
  | 0 => 999
  | k + 1 => m9S c p k (m9 c p k)
theorem m9_mn {n : Nat} {c : Nat → Int} {p : Nat → Bool} (h : ∀ j, j < n → 0 ≤ c j ∧ c j ≤ 900) : ∀ k, k ≤ n → m9 c p k = if mn c p k = -1 then 999 else mn c p k
  | 0, _ => rfl
  | k + 1, hk => by
    have ih := m9_mn h (p := p) k (by omega)
    have b := h k (by omega)
    have hm := mn_b (c := c) (p := p) (n := n) (M := 900) h (by decide) k (by omega)
    have e : mn c p (k + 1) = mnS c p k (mn c p k) := rfl
    rw [e]
    show m9S c p k (m9 c p k) = _
    rw [ih]
    unfold m9S mnS
    clear e ih
    generalize mn c p k = m at *
    generalize p k = w at *
    grind
section BRANCHED
variable {z : St} {n : Nat} {c t q : Nat → Int}
theorem bt_of (hL : MD z n c t q) (hB : BD n c t q) {s : Nat} (hs : s < 256) (h25 : z.1 68 25 = iv (s : Int)) : f_X11_behindTakes z 68 = some (z, iv (su t (Nat.testBit s) n)) := by
  have h8 := hL.2.1
  refine loop_up (n := n) (fun F k b => f_X11_behindTakes_4 F z 68 (iv b) (iv (k : Int))) (su t (Nat.testBit s)) (fun F => ?_) (fun F k hk => ?_) n 0 FU (by omega) (FU_8 (by omega))
  · show f_X11_behindTakes_4 _ _ _ _ _ = _
    rw [f_X11_behindTakes_4, hL.1, if_pos sz_t]
    rfl
  · obtain ⟨-, e1, e2, e3, b1, b2, b3, b4, b5, b6, i1, i2⟩ := MD_at hL hB hk
    have bs := bit_all1 s hs k (by omega)
    show f_X11_behindTakes_4 _ _ _ _ _ = f_X11_behindTakes_4 F z 68 (iv (if Nat.testBit s k = true then su t (Nat.testBit s) k + t k else su t (Nat.testBit s) k)) _
    rw [f_X11_behindTakes_4, hL.1, if_neg (sz_f hk (by omega))]
    unfold f_X11_behindTakes_12 f_X11_behindTakes_34 f_X11_behindTakes_25 f_X11_behindTakes_35
    simp only [r68_14, h25, bs, i1, i2, e2, n_0, iv_add, iv_s, if_true, Int.add_zero]
    generalize Nat.testBit s k = w
    grind
theorem bc_of (hL : MD z n c t q) (hB : BD n c t q) {s : Nat} (hs : s < 256) (h25 : z.1 68 25 = iv (s : Int)) : f_X11_behindComes z 68 = some (z, iv (m9 c (Nat.testBit s) n)) := by
  have h8 := hL.2.1
  have hm : ∀ k, k ≤ n → 0 ≤ m9 c (Nat.testBit s) k ∧ m9 c (Nat.testBit s) k ≤ 999 := by
    intro k
    induction k with
    | zero => exact fun _ => by show (0 : Int) ≤ 999 ∧ (999 : Int) ≤ 999; decide
    | succ k ih =>
      intro hk
      have := ih (by omega)
      have b := hB k (by omega)
      show 0 ≤ m9S c _ k _ ∧ m9S c _ k _ ≤ 999
      unfold m9S
      split <;> omega
  refine loop_up (n := n) (fun F k b => f_X11_behindComes_6 F z 68 (iv b) (iv (k : Int))) (m9 c (Nat.testBit s)) (fun F => ?_) (fun F k hk => ?_) n 0 FU (by omega) (FU_8 (by omega))
  · show f_X11_behindComes_6 _ _ _ _ _ = _
    rw [f_X11_behindComes_6, hL.1, if_pos sz_t]
    rfl
  · obtain ⟨-, e1, e2, e3, b1, b2, b3, b4, b5, b6, i1, i2⟩ := MD_at hL hB hk
    have bs := bit_all1 s hs k (by omega)
    have hk9 := hm k (by omega)
    show f_X11_behindComes_6 _ _ _ _ _ = f_X11_behindComes_6 F z 68 (iv (m9S c (Nat.testBit s) k (m9 c (Nat.testBit s) k))) _
    rw [f_X11_behindComes_6, hL.1, if_neg (sz_f hk (by omega))]
    generalize m9 c (Nat.testBit s) k = v at *
    unfold f_X11_behindComes_14 f_X11_behindComes_39 f_X11_behindComes_26 f_X11_behindComes_40 m9S
    simp only [r68_13, h25, bs, i1, i2, e1, iv_s, if_true, iv_min (show sm v from ⟨by omega, by omega⟩) (sm_b b1 b2)]
    generalize Nat.testBit s k = w
    grind
theorem br_0 (hL : MD z n c t q) (hB : BD n c t q) {s bar last : Nat} (hs : s < 256) (h25 : z.1 68 25 = iv (s : Int)) (hb : bar < n) (h24 : z.1 68 24 = iv (bar : Int)) (hl : last < n) (h22 : z.1 68 22 = iv (last : Int)) : f_X11_branched z 68 0 = some (z, iv (max (q bar) (su t (Nat.testBit s) n + q last))) := by
  have h8 := hL.2.1
  obtain ⟨-, -, -, e3, -, -, -, -, b5, b6, i1, i2⟩ := MD_at hL hB hb
  obtain ⟨-, -, -, g3, -, -, -, -, d5, d6, j1, j2⟩ := MD_at hL hB hl
  have tB := su_b (t := t) (p := Nat.testBit s) (n := n) (M := 25) (fun j hj => ⟨by have := hB j hj; omega, by have := hB j hj; omega⟩) (by decide) n (Nat.le_refl _)
  unfold f_X11_branched f_X11_branched_0 f_X11_branched_4
  rw [if_pos rfl, h24, i1, if_pos rfl, bt_of hL hB hs h25, Option.bind_some]
  simp only [h22, j1, j2, i2, r68_15, e3, g3, iv_add, if_true]
  unfold f_X11_branched_54
  rw [iv_max ⟨by omega, by omega⟩ ⟨by omega, by omega⟩]
theorem br_1 (hL : MD z n c t q) (hB : BD n c t q) {s bar : Nat} (hs : s < 256) (h25 : z.1 68 25 = iv (s : Int)) (hb : bar < n) (h24 : z.1 68 24 = iv (bar : Int)) (hne : mn c (Nat.testBit s) n ≠ -1) : f_X11_branched z 68 1 = some (z, iv (max (c bar) (mn c (Nat.testBit s) n + su t (Nat.testBit s) n))) := by
  have h8 := hL.2.1
  obtain ⟨-, e1, -, -, b1, b2, -, -, -, -, i1, i2⟩ := MD_at hL hB hb
  have tB := su_b (t := t) (p := Nat.testBit s) (n := n) (M := 25) (fun j hj => ⟨by have := hB j hj; omega, by have := hB j hj; omega⟩) (by decide) n (Nat.le_refl _)
  have cB := mn_b (c := c) (p := Nat.testBit s) (n := n) (M := 900) (fun j hj => (hB j hj).1) (by decide) n (Nat.le_refl _)
  have m9 := m9_mn (n := n) (c := c) (p := Nat.testBit s) (fun j hj => (hB j hj).1) n (Nat.le_refl _)
  rw [if_neg hne] at m9
  unfold f_X11_branched f_X11_branched_0 f_X11_branched_33
  rw [if_neg (by decide), h24, i1, if_pos rfl, bc_of hL hB hs h25, Option.bind_some]
  show ((f_X11_behindTakes z 68).bind _) = _
  rw [bt_of hL hB hs h25, Option.bind_some, m9]
  simp only [i2, r68_13, e1, iv_add]
  unfold f_X11_branched_54
  rw [iv_max ⟨by omega, by omega⟩ ⟨by omega, by omega⟩]
end BRANCHED
