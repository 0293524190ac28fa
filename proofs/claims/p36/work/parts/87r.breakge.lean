/-! BREAKING is no less than what each job needs by itself -/
def BQ (c t q : Nat → Int) (n : Nat) (x : Br) : Prop := ∀ j, j < n → (Nat.testBit x.2.1 j = true → c j + t j + q j ≤ x.2.2.2.1) ∧ (Nat.testBit x.2.1 j = false → x.1 j = t j ∨ c j + (t j - x.1 j) ≤ x.2.2.1)
section BREAKGE
variable {n : Nat} {c t q : Nat → Int} {x : Br}
theorem ng1 {cj tj qj lj H U f h : Int} (g : lj - (U - H) ≤ 0) (u : U ≤ H + lj) (hc : cj ≤ H) (hh : h ≤ H) (e : lj = tj ∨ cj + (tj - lj) ≤ h) : cj + tj + qj ≤ max f (U + qj) := by omega
theorem ng2 {cj tj lj H U h : Int} (hc : cj ≤ H) (hh : h ≤ H) (e : lj = tj ∨ cj + (tj - lj) ≤ h) : cj + (tj - (lj - (U - H))) ≤ U := by omega
theorem BQ_S (hB : BD n c t q) (hW : BW n t x) (hc : cb (Nat.testBit x.2.1) n < n) (h : BQ c t q n x) : BQ c t q n (brS c t q n x) := by
  obtain ⟨-, jn, jb, jc, -⟩ := br_next hB hW hc
  obtain ⟨u1, u2⟩ := br_u hB hW hc
  have hH : x.2.2.1 ≤ brH c n x := Int.le_max_right _ _
  have hU : x.2.2.1 ≤ brU c t q n x := Int.le_trans hH (Int.le_of_lt u1)
  have eJ := (h _ jn).2 jb
  unfold brS
  by_cases g : x.1 (brJ c t q n x) - (brU c t q n x - brH c n x) ≤ 0
  · rw [if_pos g]
    intro j hj
    refine ⟨fun hb => ?_, fun hb => ?_⟩
    · show c j + t j + q j ≤ max x.2.2.2.1 (brU c t q n x + q (brJ c t q n x))
      by_cases e : j = brJ c t q n x
      · rw [e]
        exact ng1 g u2 jc hH eJ
      · have hb' : Nat.testBit x.2.1 j = true := by
          have hb2 : Nat.testBit (x.2.1 ||| (1 <<< brJ c t q n x)) j = true := hb
          rw [or_bit, decide_eq_false e, Bool.or_false] at hb2
          exact hb2
        exact Int.le_trans ((h j hj).1 hb') (Int.le_max_left _ _)
    · have hb2 : Nat.testBit (x.2.1 ||| (1 <<< brJ c t q n x)) j = false := hb
      rw [or_bit, Bool.or_eq_false_iff] at hb2
      have e : j ≠ brJ c t q n x := of_decide_eq_false hb2.2
      show up x.1 (brJ c t q n x) _ j = t j ∨ c j + (t j - up x.1 (brJ c t q n x) _ j) ≤ brU c t q n x
      unfold up
      rw [if_neg e]
      rcases (h j hj).2 hb2.1 with w | w
      · exact Or.inl w
      · exact Or.inr (Int.le_trans w hU)
  · rw [if_neg g]
    intro j hj
    refine ⟨fun hb => (h j hj).1 hb, fun hb => ?_⟩
    show up x.1 (brJ c t q n x) _ j = t j ∨ c j + (t j - up x.1 (brJ c t q n x) _ j) ≤ brU c t q n x
    unfold up
    by_cases e : j = brJ c t q n x
    · rw [if_pos e, e]
      exact Or.inr (ng2 jc hH eJ)
    · rw [if_neg e]
      rcases (h j hj).2 hb with w | w
      · exact Or.inl w
      · exact Or.inr (Int.le_trans w hU)
theorem bi_BQ (hB : BD n c t q) (hn : n ≤ 8) : ∀ k : Nat, k ≤ 99 → BQ c t q n (bi c t q n k)
  | 0, _ => fun j hj => ⟨fun hb => by
      have : Nat.testBit 0 j = true := hb
      rw [Nat.zero_testBit] at this
      exact absurd this (by decide), fun _ => Or.inl (by show (if j < n then t j else 0) = t j; rw [if_pos hj])⟩
  | k + 1, hk => by
    have h1 := (bi_inv hB hn k (by omega)).1
    have h2 := bi_BQ hB hn k (by omega)
    unfold bi
    split
    · exact h2
    · rename_i w
      exact BQ_S hB h1 (not_all hn h1 w) h2
theorem bi_ge (hB : BD n c t q) (hn : n ≤ 8) {j : Nat} (hj : j < n) : c j + t j + q j ≤ (bi c t q n 16).2.2.2.1 := by
  refine (bi_BQ hB hn 16 (by decide) j hj).1 ?_
  rw [bi_end hB hn, Nat.testBit_two_pow_sub_one]
  exact decide_eq_true hj
end BREAKGE
