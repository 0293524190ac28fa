/-! CRITICAL: the places of the last, the first, the bar; as numbers -/
noncomputable def plS (q : Nat → Int) (y : Ly) (k : Nat) (b : Int) : Int := if y.2.2.2.2.1 (y.2.2.1 k) + q (y.2.2.1 k) = y.2.2.2.2.2.2.1 then (k : Int) else b
noncomputable def pl (q : Nat → Int) (y : Ly) : Nat → Int
  | 0 => -1
  | k + 1 => plS q y k (pl q y k)
noncomputable def fp (y : Ly) : Nat → Nat
  | 0 => 0
  | k + 1 => if y.2.2.2.1 (y.2.2.1 (k + 1)) = y.2.2.2.2.1 (y.2.2.1 k) then fp y k else k + 1
noncomputable def bp (q : Nat → Int) (y : Ly) (x : Int) (fr : Nat) : Nat → Int
  | 0 => -1
  | k + 1 => if k < fr then -1 else if q (y.2.2.1 k) < x then (k : Int) else bp q y x fr k
noncomputable def mkR (r : Nat → Nat) (lo : Nat) : Nat → Nat
  | 0 => 0
  | k + 1 => if lo ≤ k then mkR r lo k ||| (1 <<< r k) else mkR r lo k
theorem pl_b {q : Nat → Int} {y : Ly} : ∀ k : Nat, -1 ≤ pl q y k ∧ pl q y k < k
  | 0 => by
    show -1 ≤ (-1 : Int) ∧ (-1 : Int) < 0
    decide
  | k + 1 => by
    have := pl_b (q := q) (y := y) k
    show -1 ≤ plS q y k _ ∧ plS q y k _ < _
    unfold plS
    split <;> omega
theorem fp_le {y : Ly} : ∀ k, fp y k ≤ k
  | 0 => Nat.le_refl _
  | k + 1 => by
    have := fp_le (y := y) k
    unfold fp
    split <;> omega
theorem bp_b {q : Nat → Int} {y : Ly} {x : Int} {fr : Nat} : ∀ k : Nat, bp q y x fr k = -1 ∨ ((fr : Int) ≤ bp q y x fr k ∧ bp q y x fr k < k ∧ q (y.2.2.1 (bp q y x fr k).toNat) < x)
  | 0 => Or.inl rfl
  | k + 1 => by
    have := bp_b (q := q) (y := y) (x := x) (fr := fr) k
    unfold bp
    by_cases h1 : k < fr
    · rw [if_pos h1]
      exact Or.inl rfl
    · rw [if_neg h1]
      by_cases h2 : q (y.2.2.1 k) < x
      · rw [if_pos h2]
        refine Or.inr ⟨by omega, by omega, h2⟩
      · rw [if_neg h2]
        rcases this with w | ⟨w1, w2, w3⟩
        · exact Or.inl w
        · exact Or.inr ⟨w1, by omega, w3⟩
theorem su_cong {t : Nat → Int} {p p' : Nat → Bool} : ∀ n, (∀ i, i < n → p i = p' i) → su t p n = su t p' n
  | 0, _ => rfl
  | n + 1, h => by
    unfold su
    rw [su_cong n (fun i hi => h i (by omega)), h n (by omega)]
theorem su_up {t : Nat → Int} {p p' : Nat → Bool} {j : Nat} (hp : ∀ i, p' i = (p i || decide (i = j))) (hj : p j = false) : ∀ n, j < n → su t p' n = su t p n + t j
  | 0, h => absurd h (Nat.not_lt_zero _)
  | n + 1, h => by
    unfold su
    by_cases e : j = n
    · subst e
      rw [su_cong j (p := p') (p' := p) (fun i hi => by rw [hp i, decide_eq_false (by omega), Bool.or_false]), hp j, hj]
      simp
    · rw [su_up hp hj n (by omega), hp n, decide_eq_false (fun x => e x.symm), Bool.or_false]
      split <;> omega
theorem mn_cong {c : Nat → Int} {p p' : Nat → Bool} : ∀ n, (∀ i, i < n → p i = p' i) → mn c p n = mn c p' n
  | 0, _ => rfl
  | n + 1, h => by
    show mnS c p n _ = mnS c p' n _
    unfold mnS
    rw [mn_cong n (fun i hi => h i (by omega)), h n (by omega)]
theorem mn_up {c : Nat → Int} {p p' : Nat → Bool} {j : Nat} (hp : ∀ i, p' i = (p i || decide (i = j))) (hj : p j = false) : ∀ n, (∀ i, i < n → 0 ≤ c i) → j < n → mn c p' n = if mn c p n = -1 then c j else min (mn c p n) (c j)
  | 0, _, h => absurd h (Nat.not_lt_zero _)
  | n + 1, hc, h => by
    have e1 : mn c p' (n + 1) = mnS c p' n (mn c p' n) := rfl
    have e2 : mn c p (n + 1) = mnS c p n (mn c p n) := rfl
    have hn := hc n (Nat.lt_succ_self n)
    have hg := mn_ge (p := p) n (fun i hi => hc i (by omega))
    rw [e1, e2]
    unfold mnS
    by_cases e : j = n
    · subst e
      rw [mn_cong j (p := p') (p' := p) (fun i hi => by rw [hp i, decide_eq_false (by omega), Bool.or_false]), hp j, hj]
      clear e1 e2
      generalize mn c p j = m at *
      simp only [Bool.false_or, decide_true, true_and, Bool.false_eq_true, false_and, if_false]
      grind
    · have ih := mn_up hp hj n (fun i hi => hc i (by omega)) (by omega)
      have hj0 := hc j (by omega)
      rw [ih, hp n, decide_eq_false (fun x => e x.symm), Bool.or_false]
      clear e1 e2 ih
      generalize mn c p n = m at *
      cases p n
      · simp only [Bool.false_eq_true, false_and, if_false]
      · simp only [true_and]
        grind
theorem mkR_out {r : Nat → Nat} {lo : Nat} : ∀ k, k ≤ lo → mkR r lo k = 0
  | 0, _ => rfl
  | k + 1, h => by
    unfold mkR
    rw [if_neg (by omega)]
    exact mkR_out k (by omega)
theorem mkR_bit {r : Nat → Nat} {lo i : Nat} : ∀ k, Nat.testBit (mkR r lo k) i = true ↔ ∃ m, lo ≤ m ∧ m < k ∧ r m = i
  | 0 => by
    show Nat.testBit 0 i = true ↔ _
    rw [Nat.zero_testBit]
    constructor
    · intro h
      exact absurd h (by decide)
    · intro ⟨m, _, h, _⟩
      exact absurd h (Nat.not_lt_zero _)
  | k + 1 => by
    have ih := mkR_bit (r := r) (lo := lo) (i := i) k
    unfold mkR
    by_cases h : lo ≤ k
    · rw [if_pos h, or_bit, Bool.or_eq_true, ih, decide_eq_true_eq]
      constructor
      · rintro (⟨m, h1, h2, h3⟩ | h1)
        · exact ⟨m, h1, by omega, h3⟩
        · exact ⟨k, h, by omega, h1.symm⟩
      · rintro ⟨m, h1, h2, h3⟩
        by_cases e : m = k
        · subst e
          exact Or.inr h3.symm
        · exact Or.inl ⟨m, h1, by omega, h3⟩
    · rw [if_neg h, ih]
      constructor
      · rintro ⟨m, h1, h2, h3⟩
        exact ⟨m, h1, by omega, h3⟩
      · rintro ⟨m, h1, h2, h3⟩
        exact ⟨m, h1, by omega, h3⟩
theorem mkR_down {r : Nat → Nat} {lo : Nat} : ∀ hi, lo < hi → mkR r lo hi = mkR r (lo + 1) hi ||| (1 <<< r lo)
  | 0, h => absurd h (Nat.not_lt_zero _)
  | k + 1, h => by
    unfold mkR
    rw [if_pos (by omega)]
    by_cases e : lo = k
    · subst e
      rw [if_neg (by omega), mkR_out lo (Nat.le_refl _), mkR_out lo (by omega)]
    · rw [if_pos (by omega), mkR_down k (by omega), Nat.or_assoc, Nat.or_assoc, Nat.or_comm (1 <<< r lo)]
theorem mkR_lt {r : Nat → Nat} {lo n : Nat} (hn : n < 9) : ∀ k, (∀ i, i < k → r i < n) → mkR r lo k < 2 ^ n
  | 0, _ => Nat.two_pow_pos n
  | k + 1, h => by
    have ih := mkR_lt hn (lo := lo) k (fun i hi => h i (by omega))
    unfold mkR
    split
    · exact or_lt n hn _ ih _ (h k (Nat.lt_succ_self k))
    · exact ih
/-! what GREEDY's row is like: each once, and the finish is some one's -/
def GI (n : Nat) (t q : Nat → Int) (y : Ly) : Prop := (∀ i, i < y.1 → Nat.testBit y.2.1 (y.2.2.1 i) = true) ∧ (∀ i j, i < y.1 → j < y.1 → y.2.2.1 i = y.2.2.1 j → i = j) ∧ ((y.1 = 0 ∧ y.2.2.2.2.2.2.1 = 0) ∨ ∃ i, i < y.1 ∧ y.2.2.2.2.1 (y.2.2.1 i) + q (y.2.2.1 i) = y.2.2.2.2.2.2.1) ∧ (∀ i, i < y.1 → 0 ≤ y.2.2.2.1 (y.2.2.1 i) ∧ y.2.2.2.2.1 (y.2.2.1 i) = y.2.2.2.1 (y.2.2.1 i) + t (y.2.2.1 i) ∧ y.2.2.2.2.1 (y.2.2.1 i) ≤ y.2.2.2.2.2.1 ∧ y.2.2.2.2.1 (y.2.2.1 i) + q (y.2.2.1 i) ≤ y.2.2.2.2.2.2.1)
theorem GI_ap {c t q : Nat → Int} {n : Nat} {y : Ly} (hB : BD n c t q) (hW : WY n y) (h : GI n t q y) {j : Nat} (hj : j < n) (hb : Nat.testBit y.2.1 j = false) : GI n t q (ap c t q y j) := by
  obtain ⟨h1, h2, h3, h4⟩ := h
  obtain ⟨w1, w2, w3, w4, w5, w6⟩ := hW
  have b := hB j hj
  have ne : ∀ i, i < y.1 → y.2.2.1 i ≠ j := fun i hi e => by
    have := h1 i hi
    rw [e, hb] at this
    exact absurd this (by decide)
  unfold GI ap up
  refine ⟨fun i hi => ?_, fun i k hi hk e => ?_, Or.inr ?_, fun i hi => ?_⟩
  · have hi : i < y.1 + 1 := hi
    show Nat.testBit (y.2.1 ||| 1 <<< j) (if i = y.1 then j else y.2.2.1 i) = true
    rw [or_bit]
    by_cases e : i = y.1
    · rw [if_pos e]
      simp
    · rw [if_neg e, h1 i (by omega)]
      rfl
  · have hi : i < y.1 + 1 := hi
    have hk : k < y.1 + 1 := hk
    have e : (if i = y.1 then j else y.2.2.1 i) = (if k = y.1 then j else y.2.2.1 k) := e
    by_cases e1 : i = y.1
    · by_cases e2 : k = y.1
      · omega
      · rw [if_pos e1, if_neg e2] at e
        exact absurd e.symm (ne k (by omega))
    · by_cases e2 : k = y.1
      · rw [if_neg e1, if_pos e2] at e
        exact absurd e (ne i (by omega))
      · rw [if_neg e1, if_neg e2] at e
        exact h2 i k (by omega) (by omega) e
  · by_cases g : y.2.2.2.2.2.2.1 ≤ max y.2.2.2.2.2.1 (c j) + t j + q j
    · refine ⟨y.1, Nat.lt_succ_self _, ?_⟩
      simp only [if_true]
      omega
    · rcases h3 with h3 | ⟨i, i1, i2⟩
      · exfalso
        have f0 := h3.2
        omega
      · refine ⟨i, Nat.lt_succ_of_lt i1, ?_⟩
        have e : i ≠ y.1 := by omega
        simp only [e, if_false, ne i i1]
        omega
  · have hi : i < y.1 + 1 := hi
    by_cases e : i = y.1
    · simp only [e, if_true]
      refine ⟨?_, trivial, ?_, ?_⟩ <;> omega
    · have a := h4 i (by omega)
      simp only [e, if_false, ne i (by omega)]
      omega
