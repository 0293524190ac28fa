/-! LAID: an order as it is laid; the class's side of GREEDY -/
abbrev Ly : Type := Nat × Nat × (Nat → Nat) × (Nat → Int) × (Nat → Int) × Int × Int × Int
def up {α : Type} (f : Nat → α) (k : Nat) (v : α) : Nat → α := fun j => if j = k then v else f j
noncomputable def ap (c t q : Nat → Int) (y : Ly) (j : Nat) : Ly :=
  (y.1 + 1, y.2.1 ||| (1 <<< j), up y.2.2.1 y.1 j, up y.2.2.2.1 j (max y.2.2.2.2.2.1 (c j)), up y.2.2.2.2.1 j (max y.2.2.2.2.2.1 (c j) + t j), max y.2.2.2.2.2.1 (c j) + t j, max y.2.2.2.2.2.2.1 (max y.2.2.2.2.2.1 (c j) + t j + q j), y.2.2.2.2.2.2.2 + (max y.2.2.2.2.2.1 (c j) - y.2.2.2.2.2.1))
def ly0 : Ly := (0, 0, fun _ => 0, fun _ => 0, fun _ => 0, 0, 0, 0)
def LY (z : St) (o n : Nat) (y : Ly) : Prop := (z.1 o 3 = iv (y.1 : Int) ∧ z.1 o 4 = iv (y.2.1 : Int) ∧ z.1 o 5 = iv y.2.2.2.2.2.1 ∧ z.1 o 6 = iv y.2.2.2.2.2.2.1 ∧ z.1 o 7 = iv y.2.2.2.2.2.2.2) ∧ (∀ k, k < y.1 → z.1 (rf o 0) k = iv (y.2.2.1 k : Int)) ∧ ∀ j, j < n → Nat.testBit y.2.1 j = true → z.1 (rf o 1) j = iv (y.2.2.2.1 j) ∧ z.1 (rf o 2) j = iv (y.2.2.2.2.1 j)
def WY (n : Nat) (y : Ly) : Prop := y.1 ≤ n ∧ y.2.1 < 2 ^ n ∧ (0 ≤ y.2.2.2.2.2.1 ∧ y.2.2.2.2.2.1 ≤ 2000 + 25 * (y.1 : Int)) ∧ (0 ≤ y.2.2.2.2.2.2.1 ∧ y.2.2.2.2.2.2.1 ≤ 4000 + 25 * (y.1 : Int)) ∧ (0 ≤ y.2.2.2.2.2.2.2 ∧ y.2.2.2.2.2.2.2 ≤ y.2.2.2.2.2.1) ∧ (∀ k, k < y.1 → y.2.2.1 k < n)
def own (o a : Nat) : Prop := a = o ∨ a = rf o 0 ∨ a = rf o 1 ∨ a = rf o 2
def Fr (P : Nat → Prop) (z z' : St) : Prop := ∀ a, ¬ P a → z'.1 a = z.1 a ∧ z'.2 a = z.2 a
theorem Fr.refl {P : Nat → Prop} {z : St} : Fr P z z := fun _ _ => ⟨rfl, rfl⟩
theorem Fr.trans {P : Nat → Prop} {z z' z'' : St} (h1 : Fr P z z') (h2 : Fr P z' z'') : Fr P z z'' := fun a ha => ⟨(h2 a ha).1.trans (h1 a ha).1, (h2 a ha).2.trans (h1 a ha).2⟩
theorem Fr.mono {P Q : Nat → Prop} {z z' : St} (h : Fr P z z') (hpq : ∀ a, P a → Q a) : Fr Q z z' := fun a ha => h a (fun q => ha (hpq a q))
theorem Fr.zI {P : Nat → Prop} {z z' : St} (h : Fr P z z') {o k : Nat} {v : Int32} (ho : P o) : Fr P z (zI z' o k v) := fun a ha => by
  have e : a ≠ o := fun q => ha (q ▸ ho)
  exact ⟨(zI_n e).trans (h a ha).1, (h a ha).2⟩
theorem rI {z : St} {a k b j : Nat} {v : Int32} : (zI z a k v).1 b j = if b = a ∧ j = k then v else z.1 b j := by
  by_cases e : b = a
  · subst e
    rw [zI_o]
    unfold upd
    by_cases w : j = k
    · rw [if_pos w, if_pos ⟨rfl, w⟩]
    · rw [if_neg w, if_neg (fun q => w q.2)]
  · rw [zI_n e, if_neg (fun q => e q.1)]
theorem LD_fr {z z' : St} {o n : Nat} {c t q : Nat → Int} (hL : LD z o n c t q) (h : ∀ a, own o a → z'.1 a = z.1 a) : LD z' o n c t q := by
  refine ⟨?_, hL.2.1, fun j hj => ?_⟩
  · rw [h o (Or.inl rfl)]
    exact hL.1
  · rw [h _ (Or.inr (Or.inl rfl)), h _ (Or.inr (Or.inr (Or.inl rfl))), h _ (Or.inr (Or.inr (Or.inr rfl)))]
    exact hL.2.2 j hj
theorem LY_fr {z z' : St} {o n : Nat} {y : Ly} (hL : LY z o n y) (h : ∀ a, own o a → z'.1 a = z.1 a) : LY z' o n y := by
  unfold LY
  rw [h o (Or.inl rfl), h _ (Or.inr (Or.inl rfl)), h _ (Or.inr (Or.inr (Or.inl rfl))), h _ (Or.inr (Or.inr (Or.inr rfl)))]
  exact hL
theorem own_n : ∀ o, o < KN → (kd o = 3 ∨ kd o = 4) → rf o 0 = o + 1 ∧ rf o 1 = o + 2 ∧ rf o 2 = o + 3 := by decide +kernel
theorem own3_ne (o : Nat) (_ : o < KN) (h : kd o = 3) : (o ≠ rf o 0 ∧ o ≠ rf o 1 ∧ o ≠ rf o 2) ∧ (rf o 0 ≠ rf o 1 ∧ rf o 0 ≠ rf o 2 ∧ rf o 1 ≠ rf o 2) := by
  have := own_n o (kd_lt h (by decide)) (Or.inl h)
  omega
theorem kd3_in : ∀ o, o < KN → kd o = 3 → o = 29 ∨ o = 33 ∨ o = 41 := by decide +kernel
theorem kd4_in : ∀ o, o < KN → kd o = 4 → o = 21 ∨ o = 25 := by decide +kernel
theorem own_rng {o a : Nat} (ho : kd o = 3 ∨ kd o = 4) (h : own o a) : o ≤ a ∧ a ≤ o + 3 := by
  have := own_n o (by rcases ho with h | h <;> exact kd_lt h (by decide)) ho
  unfold own at h
  omega
theorem own_dis {o u a : Nat} (ho : kd o = 3) (hu : kd u = 4) (h : own u a) : ¬ own o a := by
  intro h2
  have r1 := own_rng (Or.inr hu) h
  have r2 := own_rng (Or.inl ho) h2
  have r3 := kd3_in o (kd_lt ho (by decide)) ho
  have r4 := kd4_in u (kd_lt hu (by decide)) hu
  omega
theorem or_lt : ∀ n : Nat, n < 9 → ∀ s : Nat, s < 2 ^ n → ∀ j : Nat, j < n → s ||| (1 <<< j) < 2 ^ n := by decide +kernel
theorem or_bit {s i j : Nat} : Nat.testBit (s ||| (1 <<< j)) i = (Nat.testBit s i || decide (i = j)) := by
  rw [Nat.testBit_or, Nat.one_shiftLeft, Nat.testBit_two_pow]
  congr 1
  exact decide_eq_decide.mpr eq_comm
theorem lt_256 {n s : Nat} (hn : n ≤ 8) (h : s < 2 ^ n) : s < 256 := Nat.lt_of_lt_of_le h (Nat.pow_le_pow_right (by decide) hn : 2 ^ n ≤ 2 ^ 8)
section LAID
variable {z : St} {o u n : Nat} {c t q : Nat → Int} {y : Ly}
theorem WY_ap (hB : BD n c t q) (hn : n ≤ 8) (hW : WY n y) (hs : y.1 < n) {j : Nat} (hj : j < n) : WY n (ap c t q y j) := by
  obtain ⟨w1, w2, w3, w4, w5, w6⟩ := hW
  have b := hB j hj
  refine ⟨hs, or_lt n (by omega) _ w2 j hj, ?_, ?_, ?_, ?_⟩
  · show 0 ≤ max y.2.2.2.2.2.1 (c j) + t j ∧ max y.2.2.2.2.2.1 (c j) + t j ≤ 2000 + 25 * ((y.1 + 1 : Nat) : Int)
    omega
  · show 0 ≤ max y.2.2.2.2.2.2.1 (max y.2.2.2.2.2.1 (c j) + t j + q j) ∧ max y.2.2.2.2.2.2.1 (max y.2.2.2.2.2.1 (c j) + t j + q j) ≤ 4000 + 25 * ((y.1 + 1 : Nat) : Int)
    omega
  · show 0 ≤ y.2.2.2.2.2.2.2 + (max y.2.2.2.2.2.1 (c j) - y.2.2.2.2.2.1) ∧ y.2.2.2.2.2.2.2 + (max y.2.2.2.2.2.1 (c j) - y.2.2.2.2.2.1) ≤ max y.2.2.2.2.2.1 (c j) + t j
    omega
  · intro k hk
    show up y.2.2.1 y.1 j k < n
    unfold up
    split
    · exact hj
    · exact w6 k (by have : k < y.1 + 1 := hk; omega)
theorem WY_0 : WY n ly0 := by
  refine ⟨Nat.zero_le _, Nat.two_pow_pos n, ⟨Int.le_refl _, by decide⟩, ⟨Int.le_refl _, by decide⟩, ⟨Int.le_refl _, Int.le_refl _⟩, fun k hk => absurd hk (Nat.not_lt_zero _)⟩
noncomputable def apZ (z : St) (o : Nat) (y' : Ly) (s j : Nat) : St := zI (zI (zI (zI (zI (zI (zI (zI z o 7 (iv y'.2.2.2.2.2.2.2)) o 5 (iv y'.2.2.2.2.2.1)) o 6 (iv y'.2.2.2.2.2.2.1)) (rf o 1) j (iv (y'.2.2.2.1 j))) (rf o 2) j (iv (y'.2.2.2.2.1 j))) o 4 (iv (y'.2.1 : Int))) (rf o 0) s (iv (j : Int))) o 3 (iv ((s + 1 : Nat) : Int))
theorem ap_e (ho : kd o = 3) (hu : kd u = 4) (hL : LD z u n c t q) (hB : BD n c t q) (hY : LY z o n y) (hW : WY n y) (hs : y.1 < n) {j : Nat} (hj : j < n) : f_X3_append z o u (iv (j : Int)) = some (apZ z o (ap c t q y j) y.1 j) := by
  obtain ⟨h8, e1, e2, e3, b1, b2, b3, b4, b5, b6, i1, i2⟩ := LD_at hL hB hj
  obtain ⟨w1, w2, w3, w4, w5, w6⟩ := hW
  obtain ⟨⟨g3, g4, g5, g6, g7⟩, -, -⟩ := hY
  obtain ⟨⟨d0, d1, d2⟩, d3, d4, d5⟩ := own3_ne o (kd_lt ho (by decide)) ho
  have sj : sm (j : Int) := sm_k (by omega)
  have dis : ∀ (x : St) (k : Nat) (v : Int32), LD x u n c t q → LD (zI x o k v) u n c t q := fun x k v h => LD_fr h (fun a ha => zI_n (fun e => own_dis ho hu ha (Or.inl e)))
  have is : inb (iv (y.1 : Int)) 8 = true := inb_k (by omega) (by omega)
  have ks : (iv (y.1 : Int)).toNatClampNeg = y.1 := iv_natN (by omega)
  have bo := bit_or y.2.1 (lt_256 h8 w2) j (by omega)
  unfold f_X3_append f_X3_append_0 f_X3_append_8 f_X3_append_20 f_X3_append_29 f_X3_append_39 f_X3_append_38
  rw [holds_of hL sj]
  have c1 : ob (0 ≤ (j : Int) ∧ (j : Int) < (n : Int)) = 1 := if_pos ⟨by omega, by omega⟩
  have c2 : ¬ ((1 : Int32) = 0) := by decide
  rw [Option.bind_some]
  simp only [c1, c2, if_false, g3, iv_8le (sm_k (show y.1 < 2147483648 by omega)), iv_8le sj, iv_lt8 sj]
  rw [if_neg (by omega), if_neg (by omega), if_pos (by omega), comes_of hL sj, Option.bind_some, rd_in hj]
  simp only [g5, g7]
  rw [iv_max ⟨by omega, by omega⟩ ⟨by omega, by omega⟩, iv_sub, iv_add, takes_of (dis z _ _ hL) sj, Option.bind_some, rd_in hj]
  simp only [iv_add]
  rw [cools_of (dis _ _ _ (dis z _ _ hL)) sj, Option.bind_some, rd_in hj]
  simp only [i1, i2, if_true, rI, g3, g4, g6, true_and, false_and, and_true, and_false, if_false, d0, d1, d2, d3, d4, d5, Ne.symm d0, Ne.symm d1, Ne.symm d2, iv_add, bo, is, ks, reduceIte, Nat.reduceEqDiff, iv_s]
  rw [iv_max ⟨by omega, by omega⟩ ⟨by omega, by omega⟩]
  unfold apZ ap up
  simp only [if_true]
end LAID
