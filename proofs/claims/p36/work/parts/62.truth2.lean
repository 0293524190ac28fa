/-! IN TRUTH: who begins; the whole hour -/
section TRUTH2
variable {z : St} {n : Nat} {c t q : Nat → Int} {x : Tr}
theorem LD_57 {z' : St} (hL : LD z 21 n c t q) (h : Fr (fun a => a = 57 ∨ a = 58) z z') : LD z' 21 n c t q := LD_fr hL (fun a ha => (h a (fun e => by have := own_rng (o := 21) (Or.inr (by decide)) ha; omega)).1)
theorem ph_of (hL : LD z 21 n c t q) (hB : BD n c t q) (hW : TW n x) (hC : CB z x) : ∃ z', f_X9_passHour z 57 21 = some z' ∧ CB z' (trP (trB c t q n x)) ∧ Fr (fun a => a = 57 ∨ a = 58) z z' := by
  have h8 := hL.2.1
  have hW2 := TW_B hB h8 hW
  have hW0 := hW
  obtain ⟨h1, h2, h3, h4, h5, h6⟩ := hW
  have sa : sm x.2.1 := ⟨by omega, by omega⟩
  unfold f_X9_passHour f_X9_passHour_0
  rw [hC.2.1]
  simp only [iv_eqm1 sa]
  by_cases g : x.2.1 = -1
  · rw [if_pos g]
    unfold f_X9_passHour_8
    have sn : sm x.1 := ⟨by omega, by omega⟩
    have l := nb_lt (c := c) (t := t) (q := q) (s := x.2.2.2.1) (h := x.1) n
    have sb : sm (nb c t q x.2.2.2.1 x.1 n) := ⟨by omega, by omega⟩
    rw [hC.1, hC.2.2.2.1, nb_of hL hB (lt_256 h8 h4) sn, Option.bind_some]
    show ∃ z', ((f_X9_begin z 57 21 (iv (nb c t q x.2.2.2.1 x.1 n))).bind _) = _ ∧ _
    unfold f_X9_begin f_X9_begin_0
    by_cases w : nb c t q x.2.2.2.1 x.1 n < 0
    · rw [if_pos ((iv_lt0 sb).mpr w)]
      unfold f_X9_begin_13
      rw [Option.bind_some]
      have eB : trB c t q n x = x := if_neg (fun e => by omega)
      rw [eB]
      obtain ⟨z', s1, s2, s3⟩ := ph_25 h8 hW0 hC
      exact ⟨z', s1, s2, s3.mono (fun a e => Or.inl e)⟩
    · have p := nb_ok n (show 0 ≤ nb c t q x.2.2.2.1 x.1 n by omega)
      rw [if_neg (fun e => w ((iv_lt0 sb).mp e))]
      unfold f_X9_begin_4
      rw [if_pos ((iv_lt8 sb).mpr (by omega))]
      have eB : trB c t q n x = (x.1, nb c t q x.2.2.2.1 x.1 n, t (nb c t q x.2.2.2.1 x.1 n).toNat, x.2.2.2.1 ||| (1 <<< (nb c t q x.2.2.2.1 x.1 n).toNat), x.2.2.2.2.1, x.2.2.2.2.2.1, up x.2.2.2.2.2.2 (nb c t q x.2.2.2.1 x.1 n).toNat x.1) := if_pos ⟨by omega, by omega⟩
      obtain ⟨j, hj⟩ : ∃ j : Nat, nb c t q x.2.2.2.1 x.1 n = (j : Int) := ⟨_, (Int.toNat_of_nonneg (by omega)).symm⟩
      rw [hj] at p eB sb ⊢
      rw [Int.toNat_natCast] at p eB
      have i1 : inb (iv (j : Int)) 8 = true := inb_k (by omega) (by decide)
      have i2 : (iv (j : Int)).toNatClampNeg = j := iv_natN (by omega)
      have bo := bit_or x.2.2.2.1 (lt_256 h8 h4) j (by omega)
      have hL' : LD (zI z 57 2 (iv (j : Int))) 21 n c t q := LD_57 hL (Fr.refl.zI (Or.inl rfl))
      have r58 : rf 57 0 = 58 := by decide
      obtain ⟨c1, c2, c3, c4, c5, c6, c7⟩ := hC
      unfold f_X9_begin_14
      rw [takes_of hL' sb, Option.bind_some, rd_in p.2.2, if_pos i1]
      simp only [rI, i2, r58, c1, c4, bo, reduceIte, Nat.reduceEqDiff, and_self, and_true, true_and, false_and, and_false, Option.bind_some]
      have fr : Fr (fun a => a = 57 ∨ a = 58) z (zI (zI (zI (zI z 57 2 (iv (j : Int))) 57 3 (iv (t j))) 57 4 (iv ((x.2.2.2.1 ||| 1 <<< j : Nat) : Int))) 58 j (iv x.1)) := (((Fr.refl.zI (Or.inl rfl)).zI (Or.inl rfl)).zI (Or.inl rfl)).zI (Or.inr rfl)
      have hC2 : CB (zI (zI (zI (zI z 57 2 (iv (j : Int))) 57 3 (iv (t j))) 57 4 (iv ((x.2.2.2.1 ||| 1 <<< j : Nat) : Int))) 58 j (iv x.1)) (trB c t q n x) := by
        rw [eB]
        unfold CB
        simp only [rI, c1, c2, c3, c4, c5, c6, reduceIte, Nat.reduceEqDiff, and_self, and_true, true_and, false_and, and_false]
        intro i hi hb
        rw [or_bit] at hb
        unfold up
        by_cases e : i = j
        · rw [if_pos e, if_pos e]
        · rw [if_neg e, if_neg e]
          rw [decide_eq_false e, Bool.or_false] at hb
          exact c7 i hi hb
      obtain ⟨z', s1, s2, s3⟩ := ph_25 h8 hW2 hC2
      exact ⟨z', s1, s2, fr.trans (s3.mono (fun a e => Or.inl e))⟩
  · rw [if_neg g]
    have eB : trB c t q n x = x := if_neg (fun e => by omega)
    rw [eB]
    obtain ⟨z', s1, s2, s3⟩ := ph_25 h8 hW0 hC
    exact ⟨z', s1, s2, s3.mono (fun a e => Or.inl e)⟩
end TRUTH2
