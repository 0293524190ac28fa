/-! STRONGEST -/
noncomputable def bdS (c t q : Nat → Int) (n s : Nat) : Int := mn c (Nat.testBit s) n + su t (Nat.testBit s) n + mn q (Nat.testBit s) n
noncomputable def stF (c t q : Nat → Int) (n : Nat) : Nat → Nat × Int
  | 0 => (1, bdS c t q n 1)
  | k + 1 => if (stF c t q n k).2 < bdS c t q n (k + 2) ∨ (bdS c t q n (k + 2) = (stF c t q n k).2 ∧ pop (k + 2) < pop (stF c t q n k).1) then (k + 2, bdS c t q n (k + 2)) else stF c t q n k
theorem stF_s {c t q : Nat → Int} {n k : Nat} : stF c t q n (k + 1) = if (stF c t q n k).2 < bdS c t q n (k + 2) ∨ (bdS c t q n (k + 2) = (stF c t q n k).2 ∧ pop (k + 2) < pop (stF c t q n k).1) then (k + 2, bdS c t q n (k + 2)) else stF c t q n k := rfl
theorem p2_ge {n : Nat} (h : 0 < n) : 2 ≤ 2 ^ n := (Nat.pow_le_pow_right (show 0 < 2 by decide) h : 2 ^ 1 ≤ 2 ^ n)
section STRONG
variable {z z1 z2 : St} {y : Sy} {n o : Nat} {c t q : Nat → Int} {v : Nat → Nat → Int}
theorem bdS_b (hB : BD n c t q) (hn : n ≤ 8) {s : Nat} : sm (bdS c t q n s) := by
  have s1 := su_b (t := t) (p := Nat.testBit s) (n := n) (M := 25) (fun j hj => ⟨by have := hB j hj; omega, (hB j hj).2.1.2⟩) (by decide) n (Nat.le_refl _)
  have s2 := mn_b (c := c) (p := Nat.testBit s) (n := n) (M := 900) (fun j hj => (hB j hj).1) (by decide) n (Nat.le_refl _)
  have s3 := mn_b (c := q) (p := Nat.testBit s) (n := n) (M := 900) (fun j hj => (hB j hj).2.2) (by decide) n (Nat.le_refl _)
  unfold bdS
  exact ⟨by omega, by omega⟩
theorem stF_w {k : Nat} : (stF c t q n k).1 ≤ k + 1 ∧ 1 ≤ (stF c t q n k).1 ∧ (stF c t q n k).2 = bdS c t q n (stF c t q n k).1 := by
  induction k with
  | zero => exact ⟨Nat.le_refl _, Nat.le_refl _, rfl⟩
  | succ k ih =>
    unfold stF
    split
    · exact ⟨Nat.le_refl _, by show 1 ≤ k + 2; omega, rfl⟩
    · exact ⟨by omega, ih.2.1, ih.2.2⟩
theorem pop_sm {s : Nat} : sm (pop s : Int) := by
  unfold pop
  exact ⟨by omega, by omega⟩
theorem ss_of (hL : LD z o n c t q) (hB : BD n c t q) (hn : 0 < n) : f_X4_strongestSet z o = some (z, iv ((stF c t q n (2 ^ n - 2)).1 : Int)) := by
  have h8 := hL.2.1
  have p8 := p2_lt h8
  have p2 := p2_ge hn
  unfold f_X4_strongestSet f_X4_strongestSet_0
  have b1 : f_X4_boundOf z o 1 = some (z, iv (bdS c t q n 1)) := bo_of hL hB (s := 1) (by decide)
  rw [b1, Option.bind_some]
  refine loop_up (n := 2 ^ n - 2) (fun F k b => f_X4_strongestSet_10 F z o (iv (b.1 : Int)) (iv b.2) (iv ((2 + k : Nat) : Int))) (stF c t q n) (fun F => ?_) (fun F k hk => ?_) (2 ^ n - 2) 0 FU (by omega) (FU_8 (by omega))
  · show f_X4_strongestSet_10 _ _ _ _ _ _ = _
    rw [f_X4_strongestSet_10, ev_of hL, Option.bind_some, if_pos ((iv_lt (sm_k (by omega)) (sm_k (by omega))).mpr (by omega))]
    rfl
  · obtain ⟨w1, w2, w3⟩ := stF_w (c := c) (t := t) (q := q) (n := n) (k := k)
    show f_X4_strongestSet_10 _ _ _ _ _ _ = f_X4_strongestSet_10 F z o (iv ((stF c t q n (k + 1)).1 : Int)) (iv (stF c t q n (k + 1)).2) _
    have bb : f_X4_boundOf z o (iv ((2 + k : Nat) : Int)) = some (z, iv (bdS c t q n (k + 2))) := by
      rw [Nat.add_comm 2 k]
      exact bo_of hL hB (by omega)
    have c1 := bcn_of (z := z) (s := 2 + k) (by omega)
    have c2 := bcn_of (z := z) (s := (stF c t q n k).1) (by omega)
    rw [f_X4_strongestSet_10, ev_of hL, Option.bind_some, if_neg (fun e => by have := (iv_lt (sm_k (by omega)) (sm_k (by omega))).mp e; omega)]
    unfold f_X4_strongestSet_18 f_X4_strongestSet_31 f_X4_strongestSet_37 f_X4_strongestSet_48 f_X4_strongestSet_53
    rw [stF_s, bb, Option.bind_some, c1, Option.bind_some, c2, Option.bind_some]
    have i1 := iv_lt (x := (stF c t q n k).2) (y := bdS c t q n (k + 2)) (by rw [w3]; exact bdS_b hB h8) (bdS_b hB h8)
    have i2 := iv_eq (x := bdS c t q n (k + 2)) (y := (stF c t q n k).2) (bdS_b hB h8) (by rw [w3]; exact bdS_b hB h8)
    have i3 := iv_le (x := (pop (stF c t q n k).1 : Int)) (y := (pop (2 + k) : Int)) pop_sm pop_sm
    have i4 : iv ((2 + k : Nat) : Int) + 1 = iv ((2 + (k + 1) : Nat) : Int) := iv_s _
    simp only [i1, i2, i3, i4]
    rw [Nat.add_comm 2 k]
    by_cases g1 : (stF c t q n k).2 < bdS c t q n (k + 2)
    · rw [if_pos g1, if_pos (Or.inl g1)]
    · rw [if_neg g1]
      by_cases g2 : bdS c t q n (k + 2) = (stF c t q n k).2
      · rw [if_pos g2]
        by_cases g3 : pop (k + 2) < pop (stF c t q n k).1
        · rw [if_neg (by omega), if_pos (Or.inr ⟨g2, g3⟩)]
        · rw [if_pos (by omega), if_neg (fun e => by rcases e with e | e; exact g1 e; exact g3 e.2)]
      · rw [if_neg g2, if_neg (fun e => by rcases e with e | e; exact g1 e; exact g2 e.1)]
theorem sh_all : ∀ n : Nat, n < 9 → ((1 : Int32) <<< ((iv (n : Int)) &&& 31)) = iv ((2 ^ n : Nat) : Int) := by decide +kernel
theorem mst_of (hL : MD z n c t q) (hB : BD n c t q) (hn : 0 < n) {w : Int32} : f_X11_strongest_37 FU z 68 w (iv ((1 : Nat) : Int)) (iv (bdS c t q n 1)) (iv ((2 : Nat) : Int)) = some (z, if w = 0 then iv ((stF c t q n (2 ^ n - 2)).1 : Int) else iv (stF c t q n (2 ^ n - 2)).2) := by
  have h8 := hL.2.1
  have p8 := p2_lt h8
  have p2 := p2_ge hn
  refine loop_up (n := 2 ^ n - 2) (fun F k b => f_X11_strongest_37 F z 68 w (iv (b.1 : Int)) (iv b.2) (iv ((2 + k : Nat) : Int))) (stF c t q n) (fun F => ?_) (fun F k hk => ?_) (2 ^ n - 2) 0 FU (by omega) (FU_8 (by omega))
  · show f_X11_strongest_37 _ _ _ _ _ _ _ = _
    rw [f_X11_strongest_37, hL.1, sh_all n (by omega), if_pos ((iv_le (sm_k (by omega)) (sm_k (by omega))).mpr (by omega))]
    unfold f_X11_strongest_92 f_X11_strongest_96 f_X11_strongest_100 f_X11_strongest_101
    split <;> rfl
  · obtain ⟨w1, w2, w3⟩ := stF_w (c := c) (t := t) (q := q) (n := n) (k := k)
    show f_X11_strongest_37 _ _ _ _ _ _ _ = f_X11_strongest_37 F z 68 w (iv ((stF c t q n (k + 1)).1 : Int)) (iv (stF c t q n (k + 1)).2) _
    have bb : f_X11_boundOf z 68 (iv ((2 + k : Nat) : Int)) = some (z, iv (bdS c t q n (k + 2))) := by
      have be := bo_eq hB (n := n) (s := 2 + k) (by omega) (by omega)
      rw [mbo_of hL hB (by omega), be.1, be.2, Nat.add_comm 2 k]
      rfl
    have c1 := mny_of (z := z) (s := 2 + k) (by omega)
    have c2 := mny_of (z := z) (s := (stF c t q n k).1) (by omega)
    rw [f_X11_strongest_37, hL.1, sh_all n (by omega), if_neg (fun e => by have := (iv_le (sm_k (by omega)) (sm_k (by omega))).mp e; omega)]
    unfold f_X11_strongest_48 f_X11_strongest_62 f_X11_strongest_68 f_X11_strongest_80 f_X11_strongest_86
    rw [stF_s, bb, Option.bind_some, c1, Option.bind_some, c2, Option.bind_some]
    have i1 := iv_lt (x := (stF c t q n k).2) (y := bdS c t q n (k + 2)) (by rw [w3]; exact bdS_b hB h8) (bdS_b hB h8)
    have i2 := iv_eq (x := bdS c t q n (k + 2)) (y := (stF c t q n k).2) (bdS_b hB h8) (by rw [w3]; exact bdS_b hB h8)
    have i3 := iv_le (x := (pop (stF c t q n k).1 : Int)) (y := (pop (2 + k) : Int)) pop_sm pop_sm
    have i4 : iv ((2 + k : Nat) : Int) + 1 = iv ((2 + (k + 1) : Nat) : Int) := iv_s _
    simp only [i1, i2, i3, i4]
    rw [Nat.add_comm 2 k]
    by_cases g1 : (stF c t q n k).2 < bdS c t q n (k + 2)
    · rw [if_pos g1, if_pos (Or.inl g1)]
    · rw [if_neg g1]
      by_cases g2 : bdS c t q n (k + 2) = (stF c t q n k).2
      · rw [if_pos g2]
        by_cases g3 : pop (k + 2) < pop (stF c t q n k).1
        · rw [if_neg (by omega), if_pos (Or.inr ⟨g2, g3⟩)]
        · rw [if_pos (by omega), if_neg (fun e => by rcases e with e | e; exact g1 e; exact g3 e.2)]
      · rw [if_neg g2, if_neg (fun e => by rcases e with e | e; exact g1 e; exact g2 e.1)]
theorem s_strongest (h : INV z y) (a : Int32) : Both (f_X10_strongest z 0 a) (fun z => f_X11_strongest z 68 a) := by
  obtain ⟨w, sw, rfl⟩ := ex_iv a
  have hB := BD_O h.2.2.1
  have h8 := h.1.1.2.1
  have p8 := p2_lt h8
  by_cases g1 : 0 ≤ w ∧ w ≤ 1
  · have nz : (iv (y.1 : Int) = 0) ↔ y.1 = 0 := by
      rw [n_0, iv_eqk (sm_k (by omega)) 0]
      omega
    by_cases g2 : y.1 = 0
    · refine Both_s h (r := iv (-3)) ?_ ?_
      · unfold f_X10_strongest f_X10_strongest_0 f_X10_strongest_4 f_X10_strongest_12 f_X10_strongest_22
        rw [r0_0, h.1.1.1, if_pos (nz.mpr g2), if_neg (fun e => by have := (iv_lt0 sw).mp e; omega), n_1, if_pos ((iv_lek sw 1).mpr g1.2), n_m3]
      · show f_X11_strongest z 68 _ = _
        unfold f_X11_strongest f_X11_strongest_0 f_X11_strongest_12 f_X11_strongest_19
        rw [n_1, n_0, in_ob sw (sm_d 0) (sm_d 1), Option.bind_some]
        show (if ob (0 ≤ w ∧ w ≤ 1) = iv 0 then _ else if z.1 68 5 = iv 0 then _ else _) = _
        rw [← n_0, if_neg (fun e => ob_0.mp e g1), h.2.1.1.1, if_pos (nz.mpr g2), n_m3]
    · have n0 : 0 < y.1 := by omega
      obtain ⟨t1, t2, t3⟩ := th_of h.2.1.1 h.2.2.1
      have sw1 := stF_w (c := cmO y.2.1) (t := tkO y.2.1) (q := clO y.2.1) (n := y.1) (k := 2 ^ y.1 - 2)
      have p2 := p2_ge n0
      refine Both_r h (z1 := z) (z2 := thZ y.2.1 z y.1) (r := if w = 0 then iv ((stF (cmO y.2.1) (tkO y.2.1) (clO y.2.1) y.1 (2 ^ y.1 - 2)).1 : Int) else iv (stF (cmO y.2.1) (tkO y.2.1) (clO y.2.1) y.1 (2 ^ y.1 - 2)).2) ?_ Fr.refl ?_ (sM_75 t3) (k68_75 t3)
      · unfold f_X10_strongest f_X10_strongest_0 f_X10_strongest_4 f_X10_strongest_12 f_X10_strongest_25 f_X10_strongest_37 f_X10_strongest_41 f_X10_strongest_49
        rw [r0_0, h.1.1.1, if_neg (fun e => g2 (nz.mp e)), if_neg (fun e => by have := (iv_lt0 sw).mp e; omega), n_1, if_pos ((iv_lek sw 1).mpr g1.2), r0_4, ss_of h.1.2.1 hB n0, Option.bind_some]
        have bb : f_X4_boundOf z 21 (iv ((stF (cmO y.2.1) (tkO y.2.1) (clO y.2.1) y.1 (2 ^ y.1 - 2)).1 : Int)) = some (z, iv (bdS (cmO y.2.1) (tkO y.2.1) (clO y.2.1) y.1 (stF (cmO y.2.1) (tkO y.2.1) (clO y.2.1) y.1 (2 ^ y.1 - 2)).1)) := bo_of h.1.2.1 hB (by omega)
        show (if iv w = 0 then _ else ((f_X4_boundOf z 21 (iv ((stF (cmO y.2.1) (tkO y.2.1) (clO y.2.1) y.1 (2 ^ y.1 - 2)).1 : Int))).bind _)) = _
        rw [bb, Option.bind_some, ← sw1.2.2, n_0]
        simp only [iv_eqk sw 0]
        split <;> rfl
      · show f_X11_strongest z 68 _ = _
        unfold f_X11_strongest f_X11_strongest_0 f_X11_strongest_12 f_X11_strongest_22
        have b1 : f_X11_boundOf (thZ y.2.1 z y.1) 68 1 = some (thZ y.2.1 z y.1, iv (bdS (cmO y.2.1) (tkO y.2.1) (clO y.2.1) y.1 1)) := by
          have be := bo_eq hB (n := y.1) (s := 1) (by decide) (by omega)
          have e := mbo_of t2 hB (s := 1) (by decide)
          rw [be.1, be.2] at e
          exact e
        show ((f_X11_in z (iv w) (iv 0) (iv 1)).bind _) = _
        rw [in_ob sw (sm_d 0) (sm_d 1), Option.bind_some]
        show (if ob (0 ≤ w ∧ w ≤ 1) = 0 then _ else if z.1 68 5 = 0 then _ else _) = _
        rw [if_neg (fun e => ob_0.mp e g1), h.2.1.1.1, if_neg (fun e => g2 (nz.mp e)), t1, Option.bind_some, b1, Option.bind_some]
        have e := mst_of t2 hB n0 (w := iv w)
        have e0 : (iv w = 0) ↔ w = 0 := by
          rw [n_0]
          exact iv_eqk sw 0
        simp only [e0] at e
        exact e
  · refine Both_s h (r := iv (-2)) ?_ ?_
    · unfold f_X10_strongest f_X10_strongest_0 f_X10_strongest_4 f_X10_strongest_9
      rw [n_m2, n_1]
      by_cases w0 : w < 0
      · rw [if_pos ((iv_lt0 sw).mpr w0)]
      · rw [if_neg (fun e => w0 ((iv_lt0 sw).mp e)), if_neg (fun e => by have := (iv_lek sw 1).mp e; omega)]
    · show f_X11_strongest z 68 _ = _
      unfold f_X11_strongest f_X11_strongest_0 f_X11_strongest_9
      show ((f_X11_in z (iv w) (iv 0) (iv 1)).bind _) = _
      rw [in_ob sw (sm_d 0) (sm_d 1), Option.bind_some]
      show (if ob (0 ≤ w ∧ w ≤ 1) = 0 then _ else _) = _
      rw [if_pos (ob_0.mpr g1), n_m2]
end STRONG
