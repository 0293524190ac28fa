/-! LEAST is the least finish of all orders -/
noncomputable def grL (c t q : Nat → Int) (n : Nat) : Nat → List Nat
  | 0 => []
  | k + 1 => grL c t q n k ++ [grJ c t q n (gr c t q n k)]
section LEAST
variable {n : Nat} {t : Nat → Int}
theorem grL_ok {c q : Nat → Int} (hB : BD n c t q) (hn : n ≤ 8) : ∀ k, k ≤ n → enT c t 0 (grL c t q n k) = (gr c t q n k).2.2.2.2.2.1 ∧ (∀ F, (gr c t q n k).2.2.2.2.2.2.1 ≤ F → inTm c t q F 0 (grL c t q n k)) ∧ (∀ j, j ∈ grL c t q n k ↔ Nat.testBit (gr c t q n k).2.1 j = true) ∧ (grL c t q n k).Nodup
  | 0, _ => ⟨rfl, fun F _ => trivial, fun j => by
      show j ∈ ([] : List Nat) ↔ Nat.testBit 0 j = true
      rw [Nat.zero_testBit]
      simp, List.nodup_nil⟩
  | k + 1, hk => by
    obtain ⟨h1, h2, h3, h4⟩ := grL_ok hB hn k (by omega)
    have hc := (gr_inv hB hn k (by omega)).2.1
    obtain ⟨g1, g2, g3, g4, g5⟩ := gr_next hB (y := gr c t q n k) (by omega)
    refine ⟨?_, fun F hF => ?_, fun j => ?_, ?_⟩
    · show enT c t 0 (grL c t q n k ++ [grJ c t q n (gr c t q n k)]) = max (gr c t q n k).2.2.2.2.2.1 (c (grJ c t q n (gr c t q n k))) + t (grJ c t q n (gr c t q n k))
      rw [enT_app, h1]
      rfl
    · have hF : max (gr c t q n k).2.2.2.2.2.2.1 (max (gr c t q n k).2.2.2.2.2.1 (c (grJ c t q n (gr c t q n k))) + t (grJ c t q n (gr c t q n k)) + q (grJ c t q n (gr c t q n k))) ≤ F := hF
      refine (inTm_app _ _ _).mpr ⟨h2 F (Int.le_trans (Int.le_max_left _ _) hF), ?_⟩
      rw [h1]
      exact ⟨Int.le_trans (Int.le_max_right _ _) hF, trivial⟩
    · show j ∈ grL c t q n k ++ [grJ c t q n (gr c t q n k)] ↔ Nat.testBit ((gr c t q n k).2.1 ||| (1 <<< grJ c t q n (gr c t q n k))) j = true
      rw [List.mem_append, h3 j, or_bit, Bool.or_eq_true, decide_eq_true_eq, List.mem_singleton]
    · show (grL c t q n k ++ [grJ c t q n (gr c t q n k)]).Nodup
      refine List.nodup_append.mpr ⟨h4, by simp, fun a ha b hb e => ?_⟩
      rw [List.mem_singleton.mp hb] at e
      have := (h3 a).mp ha
      rw [e, g3] at this
      exact absurd this (by decide)
theorem gr_ord {c q : Nat → Int} (hB : BD n c t q) (hn : n ≤ 8) : ord n (grL c t q n n) ∧ inTm c t q (gr c t q n n).2.2.2.2.2.2.1 0 (grL c t q n n) := by
  obtain ⟨h1, h2, h3, h4⟩ := grL_ok hB hn n (Nat.le_refl _)
  obtain ⟨w1, w2, w3⟩ := gr_inv hB hn n (Nat.le_refl _)
  refine ⟨⟨h4, fun j => ?_⟩, h2 _ (Int.le_refl _)⟩
  rw [h3 j]
  exact ⟨fun h => tb_lt w1.2.1 h, fun h => cb_all n w2 j h⟩
theorem sub_pos {d : Nat} {c q : Nat → Int} {s : Se} (w : see c t q n s) : sub t n d c q s = sv t n d c q s := by
  have w2 : (bi c t q n 16).2.2.2.1 < s.1 := w
  unfold sub
  rw [if_pos w2]
/-- no order ends sooner than BEST in the end -/
theorem sv_lo (hn : n ≤ 8) {F : Int} (h0 : 0 ≤ F) {l : List Nat} (hl : ord n l) : ∀ (d : Nat) (c q : Nat → Int) (s : Se), DT t n d c q s → (∀ j, j < n → (0 ≤ c j ∧ c j ≤ 500) ∧ (1 ≤ t j ∧ t j ≤ 25) ∧ (0 ≤ q j ∧ q j ≤ 500)) → (0 ≤ (sN c t q n s).1 ∧ (sN c t q n s).1 ≤ 500) → inTm c t q F 0 l → (sv t n d c q s).1 ≤ F
  | 0, _, _, _, hD, _, _, _ => hD.elim
  | d + 1, c, q, s, hD, hb, hs, g => by
    have hB := GT_BD hb
    have nf : (sN c t q n s).1 ≤ (gr c t q n n).2.2.2.2.2.2.1 := svN_f
    rw [sv_s]
    by_cases nb : bkB q n (gr c t q n n) < 0
    · rw [if_pos nb]
      exact Int.le_trans nf (nobar hB hn nb hl h0 g)
    · rw [if_neg nb]
      obtain ⟨dl, dr⟩ := DT_s hD (Int.not_lt.mp nb)
      have nb := Int.not_lt.mp nb
      have sq := svQR_b hB hn (M := 500) (by decide) (fun j hj => (hb j hj).2.2.2) (fun j hj => (hb j hj).1.2) nb
      have hBl : BD n c t (lQ c t q n) := BD_upq hB (nm6 sq.1)
      have hBr : BD n (rC c t q n) t q := BD_upc hB (nm6 sq.2)
      have sl := sub_le (t := t) (n := n) (d := d) (c := c) (q := lQ c t q n) (s := sN c t q n s) hs.1
      have sr := sub_le (t := t) (n := n) (d := d) (c := rC c t q n) (q := q) (s := sub t n d c (lQ c t q n) (sN c t q n s)) sl.1
      rcases Int.lt_or_le F (sN c t q n s).1 with w | w
      · rcases br_or hB hn nb hl g (Int.lt_of_lt_of_le w nf) with o | o
        · have se : see c t (lQ c t q n) n (sN c t q n s) := Int.lt_of_le_of_lt (ord_br hBl hn hl h0 o) w
          have m := svN_le (s := sN c t q n s) (gr_fin0 (c := c) (t := t) (q := lQ c t q n) (n := n) n) hs.1
          have ih := sv_lo hn h0 hl d c (lQ c t q n) (sN c t q n s) (dl se) (see_b hBl hn se hs.2) ⟨m.1, Int.le_trans m.2.1 hs.2⟩ o
          have e : sub t n d c (lQ c t q n) (sN c t q n s) = sv t n d c (lQ c t q n) (sN c t q n s) := sub_pos se
          rw [← e] at ih
          exact Int.le_trans sr.2 ih
        · rcases Int.lt_or_le F (sub t n d c (lQ c t q n) (sN c t q n s)).1 with w2 | w2
          · have se : see (rC c t q n) t q n (sub t n d c (lQ c t q n) (sN c t q n s)) := Int.lt_of_le_of_lt (ord_br hBr hn hl h0 o) w2
            have m := svN_le (s := sub t n d c (lQ c t q n) (sN c t q n s)) (gr_fin0 (c := rC c t q n) (t := t) (q := q) (n := n) n) sl.1
            have ih := sv_lo hn h0 hl d (rC c t q n) q _ (dr se) (see_b hBr hn se (Int.le_trans sl.2 hs.2)) ⟨m.1, Int.le_trans m.2.1 (Int.le_trans sl.2 hs.2)⟩ o
            have e : sub t n d (rC c t q n) q (sub t n d c (lQ c t q n) (sN c t q n s)) = sv t n d (rC c t q n) q (sub t n d c (lQ c t q n) (sN c t q n s)) := sub_pos se
            rw [← e] at ih
            exact ih
          · exact Int.le_trans sr.2 w2
      · exact Int.le_trans sr.2 (Int.le_trans sl.2 w)
/-- BEST is the finish of some order -/
def hit (n : Nat) (c0 t q0 : Nat → Int) (s : Se) : Prop := s.1 = -1 ∨ ∃ l, ord n l ∧ inTm c0 t q0 s.1 0 l
theorem svN_hit {c q c0 q0 : Nat → Int} {s : Se} (hB : BD n c t q) (hn : n ≤ 8) (hc : ∀ j, c0 j ≤ c j) (hq : ∀ j, q0 j ≤ q j) (h : hit n c0 t q0 s) : hit n c0 t q0 (sN c t q n s) := by
  unfold sN svN
  by_cases g : s.1 = -1 ∨ (gr c t q n n).2.2.2.2.2.2.1 < s.1
  · rw [if_pos g]
    obtain ⟨o1, o2⟩ := gr_ord hB hn
    exact Or.inr ⟨_, o1, inTm_mono _ 0 0 (Int.le_refl _) (fun j _ => hc j) (fun j _ => hq j) o2⟩
  · rw [if_neg g]
    exact h
theorem sv_hit (hn : n ≤ 8) {c0 q0 : Nat → Int} : ∀ (d : Nat) (c q : Nat → Int) (s : Se), DT t n d c q s → (∀ j, j < n → (0 ≤ c j ∧ c j ≤ 500) ∧ (1 ≤ t j ∧ t j ≤ 25) ∧ (0 ≤ q j ∧ q j ≤ 500)) → (0 ≤ (sN c t q n s).1 ∧ (sN c t q n s).1 ≤ 500) → (∀ j, c0 j ≤ c j) → (∀ j, q0 j ≤ q j) → hit n c0 t q0 s → hit n c0 t q0 (sv t n d c q s)
  | 0, _, _, _, hD, _, _, _, _, _ => hD.elim
  | d + 1, c, q, s, hD, hb, hs, hc, hq, h => by
    have hB := GT_BD hb
    have h1 := svN_hit hB hn hc hq h
    rw [sv_s]
    by_cases nb : bkB q n (gr c t q n n) < 0
    · rw [if_pos nb]
      exact h1
    · rw [if_neg nb]
      obtain ⟨dl, dr⟩ := DT_s hD (Int.not_lt.mp nb)
      have nb := Int.not_lt.mp nb
      have sq := svQR_b hB hn (M := 500) (by decide) (fun j hj => (hb j hj).2.2.2) (fun j hj => (hb j hj).1.2) nb
      have hBl : BD n c t (lQ c t q n) := BD_upq hB (nm6 sq.1)
      have hBr : BD n (rC c t q n) t q := BD_upc hB (nm6 sq.2)
      have sl := sub_le (t := t) (n := n) (d := d) (c := c) (q := lQ c t q n) (s := sN c t q n s) hs.1
      have ql : ∀ j, q0 j ≤ lQ c t q n j := fun j => Int.le_trans (hq j) (up_ge (Int.le_max_left _ _) j)
      have cr : ∀ j, c0 j ≤ rC c t q n j := fun j => Int.le_trans (hc j) (up_ge (Int.le_max_left _ _) j)
      have h2 : hit n c0 t q0 (sub t n d c (lQ c t q n) (sN c t q n s)) := by
        rw [sub]
        by_cases w : (bi c t (lQ c t q n) n 16).2.2.2.1 < (sN c t q n s).1
        · rw [if_pos w]
          have m := svN_le (s := sN c t q n s) (gr_fin0 (c := c) (t := t) (q := lQ c t q n) (n := n) n) hs.1
          exact sv_hit hn d c (lQ c t q n) (sN c t q n s) (dl w) (see_b hBl hn w hs.2) ⟨m.1, Int.le_trans m.2.1 hs.2⟩ hc ql h1
        · rw [if_neg w]
          exact h1
      rw [sub]
      by_cases w : (bi (rC c t q n) t q n 16).2.2.2.1 < (sub t n d c (lQ c t q n) (sN c t q n s)).1
      · rw [if_pos w]
        have m := svN_le (s := sub t n d c (lQ c t q n) (sN c t q n s)) (gr_fin0 (c := rC c t q n) (t := t) (q := q) (n := n) n) sl.1
        exact sv_hit hn d (rC c t q n) q _ (dr w) (see_b hBr hn w (Int.le_trans sl.2 hs.2)) ⟨m.1, Int.le_trans m.2.1 (Int.le_trans sl.2 hs.2)⟩ cr hq h2
      · rw [if_neg w]
        exact h2
theorem SR_ok {c q : Nat → Int} (hn : n ≤ 8) (hb : ∀ j, j < n → (0 ≤ c j ∧ c j ≤ 160) ∧ (1 ≤ t j ∧ t j ≤ 25) ∧ (0 ≤ q j ∧ q j ≤ 130)) : (0 ≤ (SR c t q n).1 ∧ (SR c t q n).1 ≤ 500) ∧ (∃ l, ord n l ∧ inTm c t q (SR c t q n).1 0 l) ∧ ∀ (F : Int) (l : List Nat), 0 ≤ F → ord n l → inTm c t q F 0 l → (SR c t q n).1 ≤ F := by
  obtain ⟨hB, f0, f5⟩ := root_f hn hb
  have n1 : (sN c t q n (-1, 0, 0)).1 = (gr c t q n n).2.2.2.2.2.2.1 := by
    unfold sN svN
    rw [if_pos (Or.inl rfl)]
  have hD := root_D hn hb
  have b5 : ∀ j, j < n → (0 ≤ c j ∧ c j ≤ 500) ∧ (1 ≤ t j ∧ t j ≤ 25) ∧ (0 ≤ q j ∧ q j ≤ 500) := fun j hj => by
    have := hb j hj
    omega
  have hs : 0 ≤ (sN c t q n (-1, 0, 0)).1 ∧ (sN c t q n (-1, 0, 0)).1 ≤ 500 := by
    rw [n1]
    exact ⟨f0, f5⟩
  have vb := sv_b (t := t) hn 400 c q (-1, 0, 0) (GT_of hn 400 c q (-1, 0, 0) b5 hs hD) hs
  refine ⟨vb, ?_, fun F l h0 hl g => sv_lo hn h0 hl 400 c q (-1, 0, 0) hD b5 hs g⟩
  rcases sv_hit hn 400 c q (-1, 0, 0) hD b5 hs (fun j => Int.le_refl _) (fun j => Int.le_refl _) (Or.inl rfl) with w | w
  · have : (sv t n 400 c q (-1, 0, 0)).1 = -1 := w
    have := vb.1
    omega
  · exact w
end LEAST
