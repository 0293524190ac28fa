/-! IN TRUTH: an hour of the class and of the model -/
abbrev Tr : Type := Int × Int × Int × Nat × Nat × Int × (Nat → Int)
noncomputable def trB (c t q : Nat → Int) (n : Nat) (x : Tr) : Tr :=
  if x.2.1 < 0 ∧ 0 ≤ nb c t q x.2.2.2.1 x.1 n then (x.1, nb c t q x.2.2.2.1 x.1 n, t (nb c t q x.2.2.2.1 x.1 n).toNat, x.2.2.2.1 ||| (1 <<< (nb c t q x.2.2.2.1 x.1 n).toNat), x.2.2.2.2.1, x.2.2.2.2.2.1, up x.2.2.2.2.2.2 (nb c t q x.2.2.2.1 x.1 n).toNat x.1) else x
noncomputable def trP (x : Tr) : Tr :=
  if x.2.1 < 0 then (x.1 + 1, x.2.1, x.2.2.1, x.2.2.2.1, x.2.2.2.2.1, x.2.2.2.2.2.1 + 1, x.2.2.2.2.2.2)
  else if x.2.2.1 - 1 ≤ 0 then (x.1 + 1, -1, x.2.2.1 - 1, x.2.2.2.1, x.2.2.2.2.1 ||| (1 <<< x.2.1.toNat), x.2.2.2.2.2.1, x.2.2.2.2.2.2)
  else (x.1 + 1, x.2.1, x.2.2.1 - 1, x.2.2.2.1, x.2.2.2.2.1, x.2.2.2.2.2.1, x.2.2.2.2.2.2)
def TW (n : Nat) (x : Tr) : Prop := (0 ≤ x.1 ∧ x.1 ≤ 2000) ∧ (-1 ≤ x.2.1 ∧ x.2.1 < n) ∧ (0 ≤ x.2.1 → 1 ≤ x.2.2.1 ∧ x.2.2.1 ≤ 25) ∧ x.2.2.2.1 < 2 ^ n ∧ x.2.2.2.2.1 < 2 ^ n ∧ (0 ≤ x.2.2.2.2.2.1 ∧ x.2.2.2.2.2.1 ≤ x.1)
def CB (z : St) (x : Tr) : Prop := z.1 57 1 = iv x.1 ∧ z.1 57 2 = iv x.2.1 ∧ z.1 57 3 = iv x.2.2.1 ∧ z.1 57 4 = iv (x.2.2.2.1 : Int) ∧ z.1 57 5 = iv (x.2.2.2.2.1 : Int) ∧ z.1 57 6 = iv x.2.2.2.2.2.1 ∧ ∀ j, j < 8 → Nat.testBit x.2.2.2.1 j = true → z.1 58 j = iv (x.2.2.2.2.2.2 j)
def MB (z : St) (x : Tr) : Prop := z.1 68 45 = iv x.1 ∧ z.1 68 46 = iv x.2.1 ∧ z.1 68 47 = iv x.2.2.1 ∧ z.1 68 48 = iv (x.2.2.2.2.1 : Int) ∧ z.1 68 49 = iv (x.2.2.2.1 : Int) ∧ z.1 68 50 = iv x.2.2.2.2.2.1 ∧ ∀ j, j < 8 → z.1 94 j = iv (if Nat.testBit x.2.2.2.1 j = true then x.2.2.2.2.2.2 j else -1)
theorem TW_B {c t q : Nat → Int} {n : Nat} (hB : BD n c t q) (hn : n ≤ 8) {x : Tr} (h : TW n x) : TW n (trB c t q n x) := by
  obtain ⟨h1, h2, h3, h4, h5, h6⟩ := h
  unfold trB
  split
  · rename_i g
    have p := nb_ok n g.2
    have l := nb_lt (c := c) (t := t) (q := q) (s := x.2.2.2.1) (h := x.1) n
    have b := hB _ p.2.2
    exact ⟨h1, ⟨by show -1 ≤ nb c t q _ _ n; omega, l.2⟩, fun _ => b.2.1, or_lt n (by omega) _ h4 _ p.2.2, h5, h6⟩
  · exact ⟨h1, h2, h3, h4, h5, h6⟩
theorem TW_P {n : Nat} (hn : n ≤ 8) {x : Tr} (h : TW n x) (h9 : x.1 ≤ 1999) : TW n (trP x) := by
  obtain ⟨h1, h2, h3, h4, h5, h6⟩ := h
  unfold trP
  split
  · exact ⟨⟨by show 0 ≤ x.1 + 1; omega, by show x.1 + 1 ≤ 2000; omega⟩, h2, h3, h4, h5, ⟨by show 0 ≤ x.2.2.2.2.2.1 + 1; omega, by show x.2.2.2.2.2.1 + 1 ≤ x.1 + 1; omega⟩⟩
  · rename_i g
    split
    · exact ⟨⟨by show 0 ≤ x.1 + 1; omega, by show x.1 + 1 ≤ 2000; omega⟩, ⟨Int.le_refl _, by show (-1 : Int) < n; omega⟩, fun a => absurd a (by show ¬ (0 : Int) ≤ -1; decide), h4, or_lt n (by omega) _ h5 _ (by omega), ⟨h6.1, by show x.2.2.2.2.2.1 ≤ x.1 + 1; omega⟩⟩
    · rename_i g2
      have := h3 (by omega)
      exact ⟨⟨by show 0 ≤ x.1 + 1; omega, by show x.1 + 1 ≤ 2000; omega⟩, h2, fun _ => ⟨by show 1 ≤ x.2.2.1 - 1; omega, by show x.2.2.1 - 1 ≤ 25; omega⟩, h4, h5, ⟨h6.1, by show x.2.2.2.2.2.1 ≤ x.1 + 1; omega⟩⟩
section TRUTH
variable {z : St} {n : Nat} {c t q : Nat → Int} {x : Tr}
theorem ph_25 (hn : n ≤ 8) (hW : TW n x) (hC : CB z x) : ∃ z', f_X9_passHour_25 z 57 = some z' ∧ CB z' (trP x) ∧ Fr (fun a => a = 57) z z' := by
  obtain ⟨h1, h2, h3, h4, h5, h6⟩ := hW
  obtain ⟨c1, c2, c3, c4, c5, c6, c7⟩ := hC
  have sa : sm x.2.1 := ⟨by omega, by omega⟩
  have f57 : ∀ (y : St) k v, Fr (fun a => a = 57) z y → Fr (fun a => a = 57) z (zI y 57 k v) := fun y k v h => h.zI rfl
  have p1 : ∀ y : Int, iv y + 1 = iv (y + 1) := fun y => by rw [n_1, iv_add]
  have q1 : ∀ y : Int, iv y - 1 = iv (y - 1) := fun y => by rw [n_1, iv_sub]
  unfold f_X9_passHour_25 f_X9_passHour_54 f_X9_passHour_71 f_X9_passHour_91 f_X9_passHour_43
  simp only [rI, c1, c2, c3, c4, c5, c6, iv_eqm1 sa, reduceIte, Nat.reduceEqDiff, and_self, and_true, true_and, false_and, and_false, p1, q1]
  unfold trP
  by_cases g : x.2.1 = -1
  · rw [if_pos g, if_pos (by omega)]
    refine ⟨_, rfl, ?_, f57 _ _ _ (f57 _ _ _ Fr.refl)⟩
    unfold CB
    simp only [rI, c1, c2, c3, c4, c5, c6, reduceIte, Nat.reduceEqDiff, and_self, and_true, true_and, false_and, and_false]
    exact c7
  · rw [if_neg g, if_neg (show ¬ x.2.1 < 0 by omega)]
    have l := h3 (by omega)
    have il : (0 < iv (x.2.2.1 - 1)) ↔ 0 < x.2.2.1 - 1 := by
      rw [n_0]
      exact iv_lt (by constructor <;> decide) ⟨by omega, by omega⟩
    simp only [il]
    by_cases w : 0 < x.2.2.1 - 1
    · rw [if_pos w, if_neg (show ¬ x.2.2.1 - 1 ≤ 0 by omega)]
      refine ⟨_, rfl, ?_, f57 _ _ _ (f57 _ _ _ Fr.refl)⟩
      unfold CB
      simp only [rI, c1, c2, c3, c4, c5, c6, reduceIte, Nat.reduceEqDiff, and_self, and_true, true_and, false_and, and_false]
      exact c7
    · rw [if_neg w, if_pos (show x.2.2.1 - 1 ≤ 0 by omega)]
      have ea : x.2.1 = ((x.2.1.toNat : Nat) : Int) := by omega
      have bo := bit_or x.2.2.2.2.1 (lt_256 hn h5) x.2.1.toNat (by omega)
      rw [← ea] at bo
      rw [bo]
      refine ⟨_, rfl, ?_, f57 _ _ _ (f57 _ _ _ (f57 _ _ _ (f57 _ _ _ Fr.refl)))⟩
      unfold CB
      simp only [rI, c1, c2, c3, c4, c5, c6, reduceIte, Nat.reduceEqDiff, and_self, and_true, true_and, false_and, and_false]
      exact ⟨n_m1, c7⟩
end TRUTH
