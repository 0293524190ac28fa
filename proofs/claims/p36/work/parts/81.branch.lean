/-! BRANCH -/
section BRANCH2
variable {z z1 z2 : St} {y : Sy} {n o u b : Nat} {c t q : Nat → Int} {v : Nat → Nat → Int}
theorem svB_lt (hB : BD n c t q) (hn : n ≤ 8) (hb : 0 ≤ bkB q n (gr c t q n n)) : svB c t q n < n ∧ svL c t q n < n ∧ (pl q (gr c t q n n) n).toNat < n ∧ (bkB q n (gr c t q n n)).toNat < (pl q (gr c t q n n) n).toNat + 1 := by
  obtain ⟨w1, w2, w3⟩ := gr_inv hB hn n (Nat.le_refl _)
  have p := pl_b (q := q) (y := gr c t q n n) n
  have bb := bp_b (q := q) (y := gr c t q n n) (x := q ((gr c t q n n).2.2.1 (pl q (gr c t q n n) n).toNat)) (fr := fp (gr c t q n n) (pl q (gr c t q n n) n).toNat) ((pl q (gr c t q n n) n).toNat + 1)
  have e : bkB q n (gr c t q n n) = bp q (gr c t q n n) (q ((gr c t q n n).2.2.1 (pl q (gr c t q n n) n).toNat)) (fp (gr c t q n n) (pl q (gr c t q n n) n).toNat) ((pl q (gr c t q n n) n).toNat + 1) := rfl
  rw [← e] at bb
  have hn0 : 0 < n := by
    rcases Nat.eq_zero_or_pos n with e0 | e0
    · subst e0
      have e1 : bkB q 0 (gr c t q 0 0) = -1 := by
        unfold bkB
        show bp q ly0 _ _ 1 = -1
        unfold bp
        show (if (0 : Nat) < 0 then (-1 : Int) else if q 0 < q 0 then _ else bp q ly0 _ _ 0) = -1
        rw [if_neg (by omega), if_neg (by omega)]
        rfl
      omega
    · exact e0
  have pn : (pl q (gr c t q n n) n).toNat < n := by omega
  have bn : (bkB q n (gr c t q n n)).toNat < (pl q (gr c t q n n) n).toNat + 1 := by omega
  exact ⟨w1.2.2.2.2.2 _ (by omega), w1.2.2.2.2.2 _ (by omega), pn, bn⟩
theorem svQR_b (hB : BD n c t q) (hn : n ≤ 8) {M : Int} (hM : 0 ≤ M) (hq : ∀ j, j < n → q j ≤ M) (hc : ∀ j, j < n → c j ≤ M) (hb : 0 ≤ bkB q n (gr c t q n n)) : (0 ≤ svQ c t q n ∧ svQ c t q n ≤ M + 200) ∧ (0 ≤ svR c t q n ∧ svR c t q n ≤ M + 200) := by
  obtain ⟨b1, b2, b3, b4⟩ := svB_lt hB hn hb
  have s1 := su_b (t := t) (p := Nat.testBit (mkR (gr c t q n n).2.2.1 ((bkB q n (gr c t q n n)).toNat + 1) ((pl q (gr c t q n n) n).toNat + 1))) (n := n) (M := 25) (fun j hj => ⟨by have := hB j hj; omega, (hB j hj).2.1.2⟩) (by decide) n (Nat.le_refl _)
  have s2 := mn_b (c := c) (p := Nat.testBit (mkR (gr c t q n n).2.2.1 ((bkB q n (gr c t q n n)).toNat + 1) ((pl q (gr c t q n n) n).toNat + 1))) (n := n) (M := M) (fun j hj => ⟨(hB j hj).1.1, hc j hj⟩) hM n (Nat.le_refl _)
  have q1 := hq _ b1
  have q2 := hq _ b2
  have q3 := hB _ b1
  have q4 := hB _ b2
  have c1 := hc _ b1
  unfold svQ svR bkT bkC
  unfold svL at q2 q4
  constructor <;> constructor <;> omega
theorem cc_of (hu : kd u = 4) (hL : LD z u n c t q) {j : Nat} (hj : j < n) {x : Int} : f_X4_changeCools z u (iv (j : Int)) (iv x) = some (zI z (rf u 2) j (iv x), iv (q j)) ∧ LD (zI z (rf u 2) j (iv x)) u n c t (up q j x) ∧ Fr (own u) z (zI z (rf u 2) j (iv x)) := by
  have h8 := hL.2.1
  obtain ⟨a1, a2, a3⟩ := own_n u (kd_lt hu (by decide)) (Or.inr hu)
  refine ⟨?_, ⟨?_, h8, fun k hk => ?_⟩, Fr.refl.zI (Or.inr (Or.inr (Or.inr rfl)))⟩
  · unfold f_X4_changeCools f_X4_changeCools_0 f_X4_changeCools_14 f_X4_changeCools_21
    rw [cools_of hL (sm_k (by omega)), Option.bind_some, holds_of hL (sm_k (by omega)), Option.bind_some, rd_in hj]
    simp only [ob_0]
    rw [if_neg (by omega), inb_k (show j < 8 by omega) (by decide), if_pos rfl, tn (by omega)]
  · rw [zI_n (by omega)]
    exact hL.1
  · obtain ⟨e1, e2, e3⟩ := hL.2.2 k hk
    refine ⟨?_, ?_, ?_⟩
    · rw [zI_n (by omega), e1]
    · rw [zI_n (by omega), e2]
    · rw [rI]
      unfold up
      by_cases e : k = j
      · rw [if_pos ⟨rfl, e⟩, if_pos e]
      · rw [if_neg (fun w => e w.2), if_neg e, e3]
theorem cm_of (hu : kd u = 4) (hL : LD z u n c t q) {j : Nat} (hj : j < n) {x : Int} : f_X4_changeComes z u (iv (j : Int)) (iv x) = some (zI z (rf u 0) j (iv x), iv (c j)) ∧ LD (zI z (rf u 0) j (iv x)) u n (up c j x) t q ∧ Fr (own u) z (zI z (rf u 0) j (iv x)) := by
  have h8 := hL.2.1
  obtain ⟨a1, a2, a3⟩ := own_n u (kd_lt hu (by decide)) (Or.inr hu)
  refine ⟨?_, ⟨?_, h8, fun k hk => ?_⟩, Fr.refl.zI (Or.inr (Or.inl rfl))⟩
  · unfold f_X4_changeComes f_X4_changeComes_0 f_X4_changeComes_14 f_X4_changeComes_21
    rw [comes_of hL (sm_k (by omega)), Option.bind_some, holds_of hL (sm_k (by omega)), Option.bind_some, rd_in hj]
    simp only [ob_0]
    rw [if_neg (by omega), inb_k (show j < 8 by omega) (by decide), if_pos rfl, tn (by omega)]
  · rw [zI_n (by omega)]
    exact hL.1
  · obtain ⟨e1, e2, e3⟩ := hL.2.2 k hk
    refine ⟨?_, ?_, ?_⟩
    · rw [rI]
      unfold up
      by_cases e : k = j
      · rw [if_pos ⟨rfl, e⟩, if_pos e]
      · rw [if_neg (fun w => e w.2), if_neg e, e1]
    · rw [zI_n (by omega), e2]
    · rw [zI_n (by omega), e3]
theorem BD_upq (hB : BD n c t q) {j : Nat} {x : Int} (hx : 0 ≤ x ∧ x ≤ 900) : BD n c t (up q j x) := fun k hk => by
  have b := hB k hk
  unfold up
  by_cases e : k = j
  · simp only [e, if_true] at b ⊢
    exact ⟨b.1, b.2.1, hx⟩
  · simp only [e, if_false]
    exact b
theorem BD_upc (hB : BD n c t q) {j : Nat} {x : Int} (hx : 0 ≤ x ∧ x ≤ 900) : BD n (up c j x) t q := fun k hk => by
  have b := hB k hk
  unfold up
  by_cases e : k = j
  · simp only [e, if_true] at b ⊢
    exact ⟨hx, b.2⟩
  · simp only [e, if_false]
    exact b
theorem MD_upq (hL : MD z n c t q) {j : Nat} {x : Int} : MD (zI z 77 j (iv x)) n c t (up q j x) := by
  refine ⟨?_, hL.2.1, fun k hk => ?_⟩
  · rw [zI_n (by decide)]
    exact hL.1
  · obtain ⟨e1, e2, e3⟩ := hL.2.2 k hk
    refine ⟨?_, ?_, ?_⟩
    · rw [zI_n (by decide), e1]
    · rw [zI_n (by decide), e2]
    · rw [rI]
      unfold up
      by_cases e : k = j
      · rw [if_pos ⟨rfl, e⟩, if_pos e]
      · rw [if_neg (fun w => e w.2), if_neg e, e3]
theorem MD_upc (hL : MD z n c t q) {j : Nat} {x : Int} : MD (zI z 75 j (iv x)) n (up c j x) t q := by
  refine ⟨?_, hL.2.1, fun k hk => ?_⟩
  · rw [zI_n (by decide)]
    exact hL.1
  · obtain ⟨e1, e2, e3⟩ := hL.2.2 k hk
    refine ⟨?_, ?_, ?_⟩
    · rw [rI]
      unfold up
      by_cases e : k = j
      · rw [if_pos ⟨rfl, e⟩, if_pos e]
      · rw [if_neg (fun w => e w.2), if_neg e, e1]
    · rw [zI_n (by decide), e2]
    · rw [zI_n (by decide), e3]
/-- the model's branched gives the class's numbers -/
theorem brd_of (hL : MD z n c t q) (hB : BD n c t q) (hM : ML z c t q n) (hb : 0 ≤ bkB q n (gr c t q n n)) : f_X11_branched z 68 0 = some (z, iv (svQ c t q n)) ∧ f_X11_branched z 68 1 = some (z, iv (svR c t q n)) := by
  have h8 := hL.2.1
  obtain ⟨w1, w2, w3⟩ := gr_inv hB h8 n (Nat.le_refl _)
  obtain ⟨b1, b2, b3, b4⟩ := svB_lt hB h8 hb
  obtain ⟨m22, m23, m24, m25, m26⟩ := hM
  have nb : ¬ bkB q n (gr c t q n n) < 0 := by omega
  have e24 : svV c t q n = (svB c t q n : Int) := by
    unfold svV
    rw [if_neg nb]
  rw [e24] at m24
  have e25 : svM c t q n = mkR (gr c t q n n).2.2.1 ((bkB q n (gr c t q n n)).toNat + 1) ((pl q (gr c t q n n) n).toNat + 1) := by
    unfold svM
    rw [if_neg nb]
  rw [e25] at m25
  have ml : mkR (gr c t q n n).2.2.1 ((bkB q n (gr c t q n n)).toNat + 1) ((pl q (gr c t q n n) n).toNat + 1) < 2 ^ n := mkR_lt (by omega) _ (fun i hi => w1.2.2.2.2.2 i (by omega))
  have m256 := lt_256 h8 ml
  have pb := p2_lt h8
  have x0 := br_0 hL hB m256 m25 b1 m24 b2 m22
  have bl : (bkB q n (gr c t q n n)).toNat < (pl q (gr c t q n n) n).toNat := by
    have bb := bp_b (q := q) (y := gr c t q n n) (x := q ((gr c t q n n).2.2.1 (pl q (gr c t q n n) n).toNat)) (fr := fp (gr c t q n n) (pl q (gr c t q n n) n).toNat) ((pl q (gr c t q n n) n).toNat + 1)
    have e : bkB q n (gr c t q n n) = bp q (gr c t q n n) (q ((gr c t q n n).2.2.1 (pl q (gr c t q n n) n).toNat)) (fp (gr c t q n n) (pl q (gr c t q n n) n).toNat) ((pl q (gr c t q n n) n).toNat + 1) := rfl
    rw [← e] at bb
    rcases bb with bb | bb
    · omega
    · rcases Nat.lt_or_ge (bkB q n (gr c t q n n)).toNat (pl q (gr c t q n n) n).toNat with w | w
      · exact w
      · have e2 : (bkB q n (gr c t q n n)).toNat = (pl q (gr c t q n n) n).toNat := by omega
        rw [e2] at bb
        omega
  have hne : mn c (Nat.testBit (mkR (gr c t q n n).2.2.1 ((bkB q n (gr c t q n n)).toNat + 1) ((pl q (gr c t q n n) n).toNat + 1))) n ≠ -1 := by
    have hbit : Nat.testBit (mkR (gr c t q n n).2.2.1 ((bkB q n (gr c t q n n)).toNat + 1) ((pl q (gr c t q n n) n).toNat + 1)) (svL c t q n) = true := (mkR_bit _).mpr ⟨(pl q (gr c t q n n) n).toNat, by omega, by omega, rfl⟩
    have := mn_le (c := c) hbit n (fun i hi => (hB i hi).1.1) b2
    omega
  have x1 := br_1 hL hB m256 m25 b1 m24 hne
  refine ⟨?_, ?_⟩
  · rw [x0]
    rfl
  · rw [x1]
    rfl
end BRANCH2
