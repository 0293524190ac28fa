/-! GREEDY: who begins, as a number; the class's row -/
noncomputable def cb (p : Nat → Bool) : Nat → Nat
  | 0 => 0
  | n + 1 => cb p n + (if p n = true then 1 else 0)
theorem cb_le (p : Nat → Bool) : ∀ n, cb p n ≤ n
  | 0 => Nat.le_refl _
  | n + 1 => by
    have := cb_le p n
    unfold cb
    split <;> omega
theorem cb_ex {p : Nat → Bool} : ∀ n, cb p n < n → ∃ j, j < n ∧ p j = false
  | 0, h => absurd h (Nat.not_lt_zero _)
  | n + 1, h => by
    unfold cb at h
    cases hp : p n
    · exact ⟨n, Nat.lt_succ_self n, hp⟩
    · rw [if_pos hp] at h
      obtain ⟨j, h1, h2⟩ := cb_ex (p := p) n (by omega)
      exact ⟨j, by omega, h2⟩
theorem cb_cong {p p' : Nat → Bool} : ∀ n, (∀ i, i < n → p i = p' i) → cb p n = cb p' n
  | 0, _ => rfl
  | n + 1, h => by
    unfold cb
    rw [cb_cong n (fun i hi => h i (by omega)), h n (by omega)]
theorem cb_up {p p' : Nat → Bool} {j : Nat} (hp : ∀ i, p' i = (p i || decide (i = j))) (hj : p j = false) : ∀ n, j < n → cb p' n = cb p n + 1
  | 0, h => absurd h (Nat.not_lt_zero _)
  | n + 1, h => by
    unfold cb
    by_cases e : j = n
    · subst e
      rw [cb_cong j (p := p') (p' := p) (fun i hi => by rw [hp i, decide_eq_false (by omega), Bool.or_false]), hp j, hj]
      simp
    · rw [cb_up hp hj n (by omega), hp n, decide_eq_false (fun x => e x.symm), Bool.or_false]
      omega
theorem nb_ok {c t q : Nat → Int} {s : Nat} {h : Int} : ∀ k : Nat, 0 ≤ nb c t q s h k → Nat.testBit s (nb c t q s h k).toNat = false ∧ c (nb c t q s h k).toNat ≤ h ∧ (nb c t q s h k).toNat < k
  | 0, w => absurd w (by show ¬ (0 : Int) ≤ -1; decide)
  | k + 1, w => by
    have ih := nb_ok (c := c) (t := t) (q := q) (s := s) (h := h) k
    have e : nb c t q s h (k + 1) = nbS c t q s h k (nb c t q s h k) := rfl
    rw [e] at w ⊢
    unfold nbS at w ⊢
    split
    · rename_i g
      rw [show ((k : Int)).toNat = k from rfl]
      exact ⟨g.1, g.2.1, Nat.lt_succ_self k⟩
    · rename_i g
      rw [if_neg g] at w
      have := ih w
      exact ⟨this.1, this.2.1, by omega⟩
theorem nb_pos {c t q : Nat → Int} {s : Nat} {h : Int} {j : Nat} (h1 : Nat.testBit s j = false) (h2 : c j ≤ h) : ∀ k : Nat, j < k → 0 ≤ nb c t q s h k
  | 0, w => absurd w (Nat.not_lt_zero _)
  | k + 1, w => by
    have e : nb c t q s h (k + 1) = nbS c t q s h k (nb c t q s h k) := rfl
    rw [e]
    unfold nbS
    by_cases e2 : j = k
    · subst e2
      by_cases g : nb c t q s h j < 0
      · rw [if_pos ⟨h1, h2, Or.inl g⟩]
        omega
      · split <;> omega
    · have := nb_pos h1 h2 (t := t) (q := q) k (by omega)
      split <;> omega
theorem mn_ge {c : Nat → Int} {p : Nat → Bool} : ∀ k : Nat, (∀ i, i < k → 0 ≤ c i) → -1 ≤ mn c p k
  | 0, _ => Int.le_refl _
  | k + 1, hc => by
    have e : mn c p (k + 1) = mnS c p k (mn c p k) := rfl
    rw [e]
    unfold mnS
    have hk := hc k (Nat.lt_succ_self k)
    have := mn_ge (p := p) k (fun i hi => hc i (by omega))
    split <;> omega
theorem mn_le {c : Nat → Int} {p : Nat → Bool} {j : Nat} (hp : p j = true) : ∀ k : Nat, (∀ i, i < k → 0 ≤ c i) → j < k → 0 ≤ mn c p k ∧ mn c p k ≤ c j
  | 0, _, w => absurd w (Nat.not_lt_zero _)
  | k + 1, hc, w => by
    have e : mn c p (k + 1) = mnS c p k (mn c p k) := rfl
    rw [e]
    unfold mnS
    have hk := hc k (Nat.lt_succ_self k)
    by_cases e2 : j = k
    · subst e2
      by_cases g : mn c p j = -1 ∨ c j < mn c p j
      · rw [if_pos ⟨hp, g⟩]
        exact ⟨hk, Int.le_refl _⟩
      · rw [if_neg (fun x => g x.2)]
        have := mn_ge (c := c) (p := p) j (fun i hi => hc i (by omega))
        omega
    · have := mn_le hp k (fun i hi => hc i (by omega)) (by omega)
      split <;> omega
theorem mn_ok {c : Nat → Int} {p : Nat → Bool} : ∀ k : Nat, 0 ≤ mn c p k → ∃ j, j < k ∧ p j = true ∧ mn c p k = c j
  | 0, w => absurd w (by show ¬ (0 : Int) ≤ -1; decide)
  | k + 1, w => by
    have e : mn c p (k + 1) = mnS c p k (mn c p k) := rfl
    rw [e] at w ⊢
    unfold mnS at w ⊢
    split
    · rename_i g
      exact ⟨k, Nat.lt_succ_self k, g.1, rfl⟩
    · rename_i g
      rw [if_neg g] at w
      obtain ⟨j, h1, h2, h3⟩ := mn_ok k w
      exact ⟨j, by omega, h2, h3⟩
noncomputable def grH (c : Nat → Int) (n : Nat) (y : Ly) : Int := max (mn c (fun j => !Nat.testBit y.2.1 j) n) y.2.2.2.2.2.1
noncomputable def grJ (c t q : Nat → Int) (n : Nat) (y : Ly) : Nat := (nb c t q y.2.1 (grH c n y) n).toNat
noncomputable def gr (c t q : Nat → Int) (n : Nat) : Nat → Ly
  | 0 => ly0
  | k + 1 => ap c t q (gr c t q n k) (grJ c t q n (gr c t q n k))
theorem gr_next {c t q : Nat → Int} {n : Nat} (hB : BD n c t q) {y : Ly} (hc : cb (Nat.testBit y.2.1) n < n) : 0 ≤ nb c t q y.2.1 (grH c n y) n ∧ grJ c t q n y < n ∧ Nat.testBit y.2.1 (grJ c t q n y) = false ∧ c (grJ c t q n y) ≤ grH c n y ∧ 0 ≤ mn c (fun j => !Nat.testBit y.2.1 j) n := by
  obtain ⟨j, h1, h2⟩ := cb_ex n hc
  have hp : (fun j => !Nat.testBit y.2.1 j) j = true := by
    show (!Nat.testBit y.2.1 j) = true
    rw [h2]
    rfl
  have m1 := mn_le (c := c) (p := fun j => !Nat.testBit y.2.1 j) hp n (fun i hi => (hB i hi).1.1) h1
  obtain ⟨i, i1, i2, i3⟩ := mn_ok n m1.1
  have i4 : Nat.testBit y.2.1 i = false := by simpa using i2
  have p0 : 0 ≤ nb c t q y.2.1 (grH c n y) n := nb_pos i4 (by unfold grH; omega) n i1
  have p1 := nb_ok n p0
  exact ⟨p0, p1.2.2, p1.1, p1.2.1, m1.1⟩
theorem gr_inv {c t q : Nat → Int} {n : Nat} (hB : BD n c t q) (hn : n ≤ 8) : ∀ k, k ≤ n → WY n (gr c t q n k) ∧ cb (Nat.testBit (gr c t q n k).2.1) n = k ∧ (gr c t q n k).1 = k
  | 0, _ => ⟨WY_0, by
    show cb (Nat.testBit 0) n = 0
    rw [cb_cong n (p' := fun _ => false) (fun i _ => Nat.zero_testBit i)]
    have : ∀ m, cb (fun _ => false) m = 0 := fun m => by
      induction m with
      | zero => rfl
      | succ m ih => unfold cb; rw [ih]; rfl
    exact this n, rfl⟩
  | k + 1, hk => by
    obtain ⟨h1, h2, h3⟩ := gr_inv hB hn k (by omega)
    have g := gr_next hB (y := gr c t q n k) (by omega)
    refine ⟨WY_ap hB hn h1 (by omega) g.2.1, ?_, congrArg (· + 1) h3⟩
    show cb (Nat.testBit ((gr c t q n k).2.1 ||| (1 <<< grJ c t q n (gr c t q n k)))) n = k + 1
    rw [cb_up (p := Nat.testBit (gr c t q n k).2.1) (p' := Nat.testBit ((gr c t q n k).2.1 ||| (1 <<< grJ c t q n (gr c t q n k)))) (j := grJ c t q n (gr c t q n k)) (fun i => or_bit) g.2.2.1 n g.2.1, h2]
section LAID2
variable {z : St} {o u n : Nat} {c t q : Nat → Int} {y : Ly}
theorem apZ_fr (ho : kd o = 3) {y' : Ly} {s j : Nat} : Fr (own o) z (apZ z o y' s j) := by
  have o0 : own o o := Or.inl rfl
  have o1 : own o (rf o 0) := Or.inr (Or.inl rfl)
  have o2 : own o (rf o 1) := Or.inr (Or.inr (Or.inl rfl))
  have o3 : own o (rf o 2) := Or.inr (Or.inr (Or.inr rfl))
  exact (((((((Fr.refl.zI o0).zI o0).zI o0).zI o2).zI o3).zI o0).zI o1).zI o0
theorem apZ_LY (ho : kd o = 3) (hY : LY z o n y) {j : Nat} : LY (apZ z o (ap c t q y j) y.1 j) o n (ap c t q y j) := by
  obtain ⟨⟨g3, g4, g5, g6, g7⟩, hr, hb⟩ := hY
  obtain ⟨⟨d0, d1, d2⟩, d3, d4, d5⟩ := own3_ne o (kd_lt ho (by decide)) ho
  unfold LY apZ
  simp only [rI, true_and, false_and, and_true, and_false, if_false, d0, d1, d2, d3, d4, d5, Ne.symm d0, Ne.symm d1, Ne.symm d2, Ne.symm d3, Ne.symm d4, Ne.symm d5, reduceIte, Nat.reduceEqDiff]
  refine ⟨rfl, fun k hk => ?_, fun i hi hm => ?_⟩
  · have hk : k < y.1 + 1 := hk
    show _ = iv ((up y.2.2.1 y.1 j k : Nat) : Int)
    unfold up
    by_cases e : k = y.1
    · rw [if_pos e, if_pos e]
    · rw [if_neg e, if_neg e]
      exact hr k (by omega)
  · have hm : Nat.testBit (y.2.1 ||| (1 <<< j)) i = true := hm
    show _ = iv (up y.2.2.2.1 j _ i) ∧ _ = iv (up y.2.2.2.2.1 j _ i)
    unfold ap up
    by_cases e : i = j
    · subst e
      simp only [if_true, and_self]
    · rw [or_bit, decide_eq_false e, Bool.or_false] at hm
      simp only [e, if_false]
      exact hb i hi hm
noncomputable def lgZ (c t q : Nat → Int) (z : St) (o n : Nat) : Nat → St
  | 0 => zI (zI (zI (zI (zI z o 3 0) o 4 0) o 5 0) o 6 0) o 7 0
  | k + 1 => apZ (lgZ c t q z o n k) o (gr c t q n (k + 1)) k (grJ c t q n (gr c t q n k))
theorem lgZ_fr (ho : kd o = 3) : ∀ k, Fr (own o) z (lgZ c t q z o n k)
  | 0 => by
    have o0 : own o o := Or.inl rfl
    exact ((((Fr.refl.zI o0).zI o0).zI o0).zI o0).zI o0
  | k + 1 => (lgZ_fr ho k).trans (apZ_fr ho)
theorem lgZ_LD (ho : kd o = 3) (hu : kd u = 4) (hL : LD z u n c t q) (k : Nat) : LD (lgZ c t q z o n k) u n c t q :=
  LD_fr hL (fun a ha => (lgZ_fr ho k a (own_dis ho hu ha)).1)
theorem lgZ_LY (ho : kd o = 3) (hB : BD n c t q) (hn : n ≤ 8) : ∀ k, k ≤ n → LY (lgZ c t q z o n k) o n (gr c t q n k)
  | 0, _ => by
    unfold LY lgZ
    simp only [rI, true_and, and_true, and_false, if_false, reduceIte, Nat.reduceEqDiff]
    exact ⟨⟨n_0, n_0, n_0, n_0, n_0⟩, fun k hk => absurd hk (Nat.not_lt_zero _), fun j _ hm => absurd hm (by show ¬ Nat.testBit 0 j = true; rw [Nat.zero_testBit]; decide)⟩
  | k + 1, hk => by
    have h := apZ_LY ho (lgZ_LY ho hB hn k (by omega)) (c := c) (t := t) (q := q) (j := grJ c t q n (gr c t q n k))
    rw [(gr_inv hB hn k (by omega)).2.2] at h
    exact h
theorem lg_of (ho : kd o = 3) (hu : kd u = 4) (hL : LD z u n c t q) (hB : BD n c t q) : f_X3_layGreedy z o u = some (lgZ c t q z o n n) := by
  have h8 := hL.2.1
  unfold f_X3_layGreedy f_X3_layGreedy_0 f_X3_clear f_X3_clear_0
  rw [Option.bind_some]
  refine loop_up (n := n) (fun F k b => f_X3_layGreedy_6 F b o u (iv (k : Int))) (lgZ c t q z o n) (fun F => ?_) (fun F k hk => ?_) n 0 FU (by omega) (FU_8 (by omega))
  · show f_X3_layGreedy_6 _ _ _ _ _ = _
    rw [f_X3_layGreedy_6, (lgZ_LD ho hu hL n).1, if_pos sz_t]
    rfl
  · show f_X3_layGreedy_6 _ _ _ _ _ = f_X3_layGreedy_6 F (apZ (lgZ c t q z o n k) o (gr c t q n (k + 1)) k (grJ c t q n (gr c t q n k))) _ _ _
    have hD := lgZ_LD (c := c) (t := t) (q := q) ho hu hL k
    obtain ⟨i1, i2, i3⟩ := gr_inv hB h8 k (by omega)
    have hY := lgZ_LY (z := z) ho hB h8 k (by omega)
    obtain ⟨w1, w2, w3, w4, w5, w6⟩ := i1
    have g := gr_next hB (y := gr c t q n k) (by omega)
    rw [f_X3_layGreedy_6, hD.1, if_neg (sz_f hk (by omega))]
    unfold f_X3_layGreedy_14
    have hm := mn_b (c := c) (p := fun j => !Nat.testBit (gr c t q n k).2.1 j) (n := n) (M := 900) (fun j hj => (hB j hj).1) (by decide) n (Nat.le_refl _)
    have e1 := hs_of hD hB (lt_256 h8 w2) (h := (gr c t q n k).2.2.2.2.2.1) ⟨by omega, by omega⟩
    have sH : sm (grH c n (gr c t q n k)) := by
      unfold grH
      exact ⟨by omega, by omega⟩
    have e2 := nb_of hD hB (lt_256 h8 w2) (h := grH c n (gr c t q n k)) sH
    rw [hY.1.2.1, hY.1.2.2.1, e1, Option.bind_some]
    show ((f_X4_nextToBegin _ u _ (iv (grH c n (gr c t q n k)))).bind _) = _
    rw [e2, Option.bind_some]
    have e3 : nb c t q (gr c t q n k).2.1 (grH c n (gr c t q n k)) n = ((grJ c t q n (gr c t q n k) : Nat) : Int) := by
      have := g.1
      unfold grJ
      omega
    show ((f_X3_append _ o u (iv (nb c t q (gr c t q n k).2.1 (grH c n (gr c t q n k)) n))).bind _) = _
    rw [e3, ap_e ho hu hD hB hY (gr_inv hB h8 k (by omega)).1 (by omega) g.2.1, Option.bind_some, iv_s, i3]
    rfl
end LAID2
