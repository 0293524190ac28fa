/-! IN TRUTH: the model's hour is the class's -/
section MTRUTH
variable {z : St} {n : Nat} {c t q : Nat → Int} {x : Tr}
theorem mh_61 (hn : n ≤ 8) (hW : TW n x) (hC : MB z x) : ∃ z', f_X11_hour_61 z 68 = some z' ∧ MB z' (trP x) ∧ Fr (fun a => a = 68) z z' ∧ ∀ k, (k < 45 ∨ 50 < k) → z'.1 68 k = z.1 68 k := by
  obtain ⟨h1, h2, h3, h4, h5, h6⟩ := hW
  obtain ⟨c1, c2, c3, c4, c5, c6, c7⟩ := hC
  have sa : sm x.2.1 := ⟨by omega, by omega⟩
  have f68 : ∀ (y : St) k v, Fr (fun a => a = 68) z y → Fr (fun a => a = 68) z (zI y 68 k v) := fun y k v h => h.zI rfl
  have p1 : ∀ y : Int, iv y + 1 = iv (y + 1) := fun y => by rw [n_1, iv_add]
  have q1 : ∀ y : Int, iv y - 1 = iv (y - 1) := fun y => by rw [n_1, iv_sub]
  unfold f_X11_hour_61 f_X11_hour_68 f_X11_hour_81 f_X11_hour_98 f_X11_hour_118
  simp only [rI, c1, c2, c3, c4, c5, c6, iv_ge0 sa, reduceIte, Nat.reduceEqDiff, and_self, and_true, true_and, false_and, and_false, p1, q1]
  unfold trP
  by_cases g : x.2.1 < 0
  · rw [if_neg (show ¬ 0 ≤ x.2.1 by omega), if_pos g]
    refine ⟨_, rfl, ?_, f68 _ _ _ (f68 _ _ _ Fr.refl), fun k hk => ?_⟩
    · unfold MB
      simp only [rI, c1, c2, c3, c4, c5, c6, reduceIte, Nat.reduceEqDiff, and_self, and_true, true_and, false_and, and_false]
      exact c7
    · simp only [rI, true_and]
      rw [if_neg (by omega), if_neg (by omega)]
  · rw [if_pos (show 0 ≤ x.2.1 by omega), if_neg g]
    have l := h3 (by omega)
    have il : (iv (x.2.2.1 - 1) = 0) ↔ x.2.2.1 - 1 = 0 := by
      rw [n_0]
      exact iv_eq ⟨by omega, by omega⟩ (by constructor <;> decide)
    simp only [il]
    by_cases w : x.2.2.1 - 1 = 0
    · rw [if_pos w, if_pos (show x.2.2.1 - 1 ≤ 0 by omega)]
      have ea : x.2.1 = ((x.2.1.toNat : Nat) : Int) := by omega
      have bo := bit_or x.2.2.2.2.1 (lt_256 hn h5) x.2.1.toNat (by omega)
      rw [← ea] at bo
      rw [bo]
      refine ⟨_, rfl, ?_, f68 _ _ _ (f68 _ _ _ (f68 _ _ _ (f68 _ _ _ Fr.refl))), fun k hk => ?_⟩
      · unfold MB
        simp only [rI, c1, c2, c3, c4, c5, c6, reduceIte, Nat.reduceEqDiff, and_self, and_true, true_and, false_and, and_false]
        exact ⟨n_m1, c7⟩
      · simp only [rI, true_and]
        rw [if_neg (by omega), if_neg (by omega), if_neg (by omega), if_neg (by omega)]
    · rw [if_neg w, if_neg (show ¬ x.2.2.1 - 1 ≤ 0 by omega)]
      refine ⟨_, rfl, ?_, f68 _ _ _ (f68 _ _ _ Fr.refl), fun k hk => ?_⟩
      · unfold MB
        simp only [rI, c1, c2, c3, c4, c5, c6, reduceIte, Nat.reduceEqDiff, and_self, and_true, true_and, false_and, and_false]
        exact c7
      · simp only [rI, true_and]
        rw [if_neg (by omega), if_neg (by omega)]
theorem mhr_of (hL : MD z n c t q) (hB : BD n c t q) (hW : TW n x) (hC : MB z x) : ∃ z', f_X11_hour z 68 = some z' ∧ MB z' (trP (trB c t q n x)) ∧ Fr (fun a => a = 68 ∨ a = 94) z z' ∧ ∀ k, (k < 45 ∨ 50 < k) → z'.1 68 k = z.1 68 k := by
  have h8 := hL.2.1
  have hW2 := TW_B hB h8 hW
  have hW0 := hW
  obtain ⟨h1, h2, h3, h4, h5, h6⟩ := hW
  have sa : sm x.2.1 := ⟨by omega, by omega⟩
  unfold f_X11_hour f_X11_hour_0
  rw [hC.2.1]
  simp only [iv_ge0 sa]
  by_cases g : x.2.1 < 0
  · rw [if_neg (show ¬ 0 ≤ x.2.1 by omega)]
    unfold f_X11_hour_7
    have sn : sm x.1 := ⟨by omega, by omega⟩
    have l := nb_lt (c := c) (t := t) (q := q) (s := x.2.2.2.1) (h := x.1) n
    have sb : sm (nb c t q x.2.2.2.1 x.1 n) := ⟨by omega, by omega⟩
    rw [hC.1, hC.2.2.2.2.1, ch_of hL hB (lt_256 h8 h4) sn, Option.bind_some]
    show ∃ z', (if iv (nb c t q x.2.2.2.1 x.1 n) < 0 then f_X11_hour_61 z 68 else f_X11_hour_24 z 68 (iv (nb c t q x.2.2.2.1 x.1 n))) = _ ∧ _
    by_cases w : nb c t q x.2.2.2.1 x.1 n < 0
    · rw [if_pos ((iv_lt0 sb).mpr w)]
      have eB : trB c t q n x = x := if_neg (fun e => by omega)
      rw [eB]
      obtain ⟨z', s1, s2, s3, s4⟩ := mh_61 h8 hW0 hC
      exact ⟨z', s1, s2, s3.mono (fun a e => Or.inl e), s4⟩
    · have p := nb_ok n (show 0 ≤ nb c t q x.2.2.2.1 x.1 n by omega)
      rw [if_neg (fun e => w ((iv_lt0 sb).mp e))]
      have eB : trB c t q n x = (x.1, nb c t q x.2.2.2.1 x.1 n, t (nb c t q x.2.2.2.1 x.1 n).toNat, x.2.2.2.1 ||| (1 <<< (nb c t q x.2.2.2.1 x.1 n).toNat), x.2.2.2.2.1, x.2.2.2.2.2.1, up x.2.2.2.2.2.2 (nb c t q x.2.2.2.1 x.1 n).toNat x.1) := if_pos ⟨by omega, by omega⟩
      obtain ⟨j, hj⟩ : ∃ j : Nat, nb c t q x.2.2.2.1 x.1 n = (j : Int) := ⟨_, (Int.toNat_of_nonneg (by omega)).symm⟩
      rw [hj] at p eB sb ⊢
      rw [Int.toNat_natCast] at p eB
      have i1 : inb (iv (j : Int)) 8 = true := inb_k (by omega) (by decide)
      have i2 : (iv (j : Int)).toNatClampNeg = j := iv_natN (by omega)
      have bo := bit_or x.2.2.2.1 (lt_256 h8 h4) j (by omega)
      have et := (hL.2.2 j p.2.2).2.1
      obtain ⟨c1, c2, c3, c4, c5, c6, c7⟩ := hC
      unfold f_X11_hour_24
      simp only [r68_14, r68_51, i1, i2, rI, c1, c5, et, bo, reduceIte, Nat.reduceEqDiff, and_self, and_true, true_and, false_and, and_false, if_true, if_false]
      have fr : Fr (fun a => a = 68 ∨ a = 94) z (zI (zI (zI (zI z 68 46 (iv (j : Int))) 68 47 (iv (t j))) 68 49 (iv ((x.2.2.2.1 ||| 1 <<< j : Nat) : Int))) 94 j (iv x.1)) := (((Fr.refl.zI (Or.inl rfl)).zI (Or.inl rfl)).zI (Or.inl rfl)).zI (Or.inr rfl)
      have hC2 : MB (zI (zI (zI (zI z 68 46 (iv (j : Int))) 68 47 (iv (t j))) 68 49 (iv ((x.2.2.2.1 ||| 1 <<< j : Nat) : Int))) 94 j (iv x.1)) (trB c t q n x) := by
        rw [eB]
        unfold MB
        simp only [rI, c1, c2, c3, c4, c5, c6, reduceIte, Nat.reduceEqDiff, and_self, and_true, true_and, false_and, and_false]
        intro i hi
        rw [or_bit]
        unfold up
        by_cases e : i = j
        · rw [if_pos e, if_pos e, decide_eq_true e, Bool.or_true, if_pos rfl]
        · rw [if_neg e, if_neg e, decide_eq_false e, Bool.or_false]
          exact c7 i hi
      obtain ⟨z', s1, s2, s3, s4⟩ := mh_61 h8 hW2 hC2
      refine ⟨z', s1, s2, fr.trans (s3.mono (fun a e => Or.inl e)), fun k hk => ?_⟩
      rw [s4 k hk]
      simp only [rI, true_and, Nat.reduceEqDiff, false_and, if_false]
      rw [if_neg (by omega), if_neg (by omega), if_neg (by omega)]
  · rw [if_pos (show 0 ≤ x.2.1 by omega)]
    have eB : trB c t q n x = x := if_neg (fun e => by omega)
    rw [eB]
    obtain ⟨z', s1, s2, s3, s4⟩ := mh_61 h8 hW0 hC
    exact ⟨z', s1, s2, s3.mono (fun a e => Or.inl e), s4⟩
end MTRUTH
