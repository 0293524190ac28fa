/-! SMALL CALLS: told, taken, bench, began, count -/
def Both {α : Type} (f : Option (St × α)) (g : St → Option (St × α)) : Prop := ∃ z1 z2 r, f = some (z1, r) ∧ g z1 = some (z2, r) ∧ ∃ y', INV z2 y'
theorem ex_iv (x : Int32) : ∃ X, sm X ∧ x = iv X := ⟨x.toInt, sm_of x, (iv_of x).symm⟩
theorem r0_0 : rf 0 0 = 1 := by decide
theorem r0_1 : rf 0 1 = 7 := by decide
theorem r0_2 : rf 0 2 = 13 := by decide
theorem r0_3 : rf 0 3 = 19 := by decide
theorem r0_4 : rf 0 4 = 21 := by decide
theorem r0_5 : rf 0 5 = 25 := by decide
theorem r0_6 : rf 0 6 = 29 := by decide
theorem r0_7 : rf 0 7 = 33 := by decide
theorem r0_8 : rf 0 8 = 37 := by decide
theorem r0_9 : rf 0 9 = 38 := by decide
theorem r0_10 : rf 0 10 = 40 := by decide
theorem r0_11 : rf 0 11 = 52 := by decide
theorem r0_12 : rf 0 12 = 57 := by decide
theorem r0_13 : rf 0 13 = 59 := by decide
theorem sm_d (k : Int) (h : -2147483648 ≤ k ∧ k < 2147483648 := by decide) : sm k := h
theorem iv_eqk {x : Int} (hx : sm x) (k : Int) (h : -2147483648 ≤ k ∧ k < 2147483648 := by decide) : (iv x = iv k) ↔ x = k := iv_eq hx h
theorem iv_lek {x : Int} (hx : sm x) (k : Int) (h : -2147483648 ≤ k ∧ k < 2147483648 := by decide) : (iv x ≤ iv k) ↔ x ≤ k := iv_le hx h
theorem iv_ltk {x : Int} (hx : sm x) (k : Int) (h : -2147483648 ≤ k ∧ k < 2147483648 := by decide) : (iv x < iv k) ↔ x < k := iv_lt hx h
theorem iv_kle {x : Int} (hx : sm x) (k : Int) (h : -2147483648 ≤ k ∧ k < 2147483648 := by decide) : (iv k ≤ iv x) ↔ k ≤ x := iv_le h hx
theorem iv_klt {x : Int} (hx : sm x) (k : Int) (h : -2147483648 ≤ k ∧ k < 2147483648 := by decide) : (iv k < iv x) ↔ k < x := iv_lt h hx
theorem zb_ob {P : Prop} [Decidable P] : zb (ob P) = true := by
  unfold ob
  split <;> decide
theorem n_m2 : ((-2) : Int32) = iv (-2) := by decide
theorem n_m3 : ((-3) : Int32) = iv (-3) := by decide
theorem n_m4 : ((-4) : Int32) = iv (-4) := by decide
theorem n_m13 : ((-13) : Int32) = iv (-13) := by decide
theorem in_ob {z : St} {x a b : Int} (hx : sm x) (ha : sm a) (hb : sm b) : f_X11_in z (iv x) (iv a) (iv b) = some (z, ob (a ≤ x ∧ x ≤ b)) := in_of hx ha hb
section SMALL
variable {z : St} {n : Nat} {v : Nat → Nat → Int} {y : Sy}
theorem ho_of {o : Nat} (hJ : z.1 o 1 = iv (n : Int)) (h8 : n ≤ 8) {j : Int} (sj : sm j) : f_X2_holds z o (iv j) = some (z, ob (0 ≤ j ∧ j < n)) := by
  have sn : sm (n : Int) := sm_k (by omega)
  unfold f_X2_holds f_X2_holds_0 f_X2_holds_4 f_X2_holds_12 f_X2_holds_18 f_X2_holds_22 f_X2_holds_23 ob
  rw [hJ]
  simp only [iv_lt0 sj, iv_8le sj, iv_le sn sj, zb_0, zb_1, if_true]
  grind
theorem ij_of (hJ : MJ z n v) {j : Int} (sj : sm j) : f_X11_isJob z 68 (iv j) = some (z, ob (0 ≤ j ∧ j < n)) := by
  have h8 := hJ.2.1
  unfold f_X11_isJob f_X11_isJob_0
  rw [hJ.1, n_1, iv_sub, n_0, in_ob sj (sm_d 0) ⟨by omega, by omega⟩, Option.bind_some]
  show (if zb (ob (0 ≤ j ∧ j ≤ (n : Int) - 1)) = true then _ else _) = _
  rw [if_pos zb_ob]
  have e : (0 ≤ j ∧ j ≤ (n : Int) - 1) ↔ (0 ≤ j ∧ j < n) := by omega
  simp only [e]
def itsV (v : Nat → Nat → Int) (w : Int) (j : Nat) : Int := if w = 4 then cmO v j else if w = 5 then tkO v j else if w = 6 then clO v j else v w.toNat j
theorem told_c (hJ : JD z 1 n v) (hV : JV n v) {j w : Int} (sj : sm j) (sw : sm w) : f_X10_told z 0 (iv j) (iv w) = some (z, iv (if (0 ≤ j ∧ j < n) ∧ 0 ≤ w ∧ w ≤ 6 then itsV v w j.toNat else -2)) := by
  unfold f_X10_told f_X10_told_0 f_X10_told_11 f_X10_told_15 f_X10_told_24 f_X10_told_79 f_X10_told_70 f_X10_told_61 f_X10_told_52 f_X10_told_21
  rw [r0_0, ho_of hJ.1 hJ.2.1 sj, Option.bind_some]
  by_cases hj : 0 ≤ j ∧ j < n
  · obtain ⟨k, rfl⟩ : ∃ k : Nat, j = k := ⟨j.toNat, by omega⟩
    have hk : k < n := by omega
    simp only [ob_0, hj, not_true_eq_false, if_false, true_and, and_self, iv_lt0 sw]
    rw [show (6 : Int32) = iv 6 by decide, n_4, show (5 : Int32) = iv 5 by decide]
    simp only [iv_lek sw 6, iv_eqk sw 4, iv_eqk sw 5, iv_eqk sw 6, cmO_of hJ hV hk, tkO_of hJ hV hk, clO_of hJ hV hk, Option.bind_some, Int.toNat_natCast]
    by_cases hw : 0 ≤ w ∧ w ≤ 6
    · rw [if_neg (by omega), if_pos hw.2, if_pos hw]
      unfold itsV
      by_cases w4 : w = 4
      · rw [if_pos w4, if_pos w4]
      · by_cases w5 : w = 5
        · rw [if_neg w4, if_pos w5, if_neg w4, if_pos w5]
        · by_cases w6 : w = 6
          · rw [if_neg w4, if_neg w5, if_pos w6, if_neg w4, if_neg w5, if_pos w6]
          · rw [if_neg w4, if_neg w5, if_neg w6, if_neg w4, if_neg w5, if_neg w6]
            obtain ⟨u, rfl⟩ : ∃ u : Nat, w = u := ⟨w.toNat, by omega⟩
            rw [va_of hJ (by omega) hk]
            rfl
    · rw [if_neg hw]
      by_cases w0 : w < 0
      · rw [if_pos w0, n_m2]
      · rw [if_neg w0, if_neg (by omega), n_m2]
  · simp only [ob_0, hj, not_false_eq_true, if_true, false_and, if_false, n_m2]
theorem its_m (hJ : MJ z n v) (hV : JV n v) {k : Nat} (hk : k < n) {w : Int} (sw : sm w) (hw : 0 ≤ w ∧ w ≤ 6) : f_X11_its z 68 (iv (k : Int)) (iv w) = some (z, iv (itsV v w k)) := by
  obtain ⟨e1, e2, e3, e4, i1, i2⟩ := MJ_at hJ hk
  unfold f_X11_its f_X11_its_0 f_X11_its_80 f_X11_its_74 f_X11_its_68 f_X11_its_61 f_X11_its_54 f_X11_its_47 f_X11_its_40 itsV
  rw [n_0, n_1, n_2, n_3, n_4, show (5 : Int32) = iv 5 by decide]
  simp only [r68_1, r68_2, r68_3, r68_4, iv_eqk sw 0, iv_eqk sw 1, iv_eqk sw 2, iv_eqk sw 3, iv_eqk sw 4, iv_eqk sw 5, i1, i2, if_true, mcm_of hJ hV hk, mtk_of hJ hV hk, mcl_of hJ hV hk, Option.bind_some, e1, e2, e3, e4]
  rcases (show w = 0 ∨ w = 1 ∨ w = 2 ∨ w = 3 ∨ w = 4 ∨ w = 5 ∨ w = 6 by omega) with rfl | rfl | rfl | rfl | rfl | rfl | rfl <;> simp
theorem told_m (hJ : MJ z n v) (hV : JV n v) {j w : Int} (sj : sm j) (sw : sm w) : f_X11_told z 68 (iv j) (iv w) = some (z, iv (if (0 ≤ j ∧ j < n) ∧ 0 ≤ w ∧ w ≤ 6 then itsV v w j.toNat else -2)) := by
  unfold f_X11_told f_X11_told_0 f_X11_told_8 f_X11_told_18 f_X11_told_27 f_X11_told_29
  rw [ij_of hJ sj, Option.bind_some]
  by_cases hj : 0 ≤ j ∧ j < n
  · obtain ⟨k, rfl⟩ : ∃ k : Nat, j = k := ⟨j.toNat, by omega⟩
    have hk : k < n := by omega
    simp only [ob_0, hj, not_true_eq_false, if_false, true_and, and_self]
    rw [show (6 : Int32) = iv 6 by decide, n_0, in_ob sw (sm_d 0) (sm_d 6), Option.bind_some, ← n_0]
    by_cases hw : 0 ≤ w ∧ w ≤ 6
    · simp only [ob_0, hw, not_true_eq_false, if_false, and_self, if_true]
      rw [its_m hJ hV hk sw hw, Option.bind_some]
      rfl
    · simp only [ob_0, hw, not_false_eq_true, if_true, if_false, n_m2]
  · simp only [ob_0, hj, not_false_eq_true, if_true, false_and, if_false, n_m2]
theorem Both_s {α : Type} (h : INV z y) {f : Option (St × α)} {g : St → Option (St × α)} {r : α} (hf : f = some (z, r)) (hg : g z = some (z, r)) : Both f g := ⟨z, z, r, hf, hg, y, h⟩
theorem s_told (h : INV z y) (a b : Int32) : Both (f_X10_told z 0 a b) (fun z => f_X11_told z 68 a b) := by
  obtain ⟨j, sj, rfl⟩ := ex_iv a
  obtain ⟨w, sw, rfl⟩ := ex_iv b
  exact Both_s h (told_c h.1.1 h.2.2.1 sj sw) (told_m h.2.1.1 h.2.2.1 sj sw)
theorem taken_c (hJ : JD z 1 n v) (hV : JV n v) {j w : Int} (sj : sm j) (sw : sm w) : f_X10_taken z 0 (iv j) (iv w) = some (z, iv (if (0 ≤ j ∧ j < n) ∧ 0 ≤ w ∧ w ≤ 5 then (if isU (v 0 j.toNat).toNat w.toNat = true then tkO v j.toNat + clO v j.toNat else -13) else -2)) := by
  unfold f_X10_taken f_X10_taken_0 f_X10_taken_11 f_X10_taken_22 f_X10_taken_37 f_X10_taken_34 f_X10_taken_19
  rw [r0_0, ho_of hJ.1 hJ.2.1 sj, Option.bind_some]
  by_cases hj : 0 ≤ j ∧ j < n
  · obtain ⟨k, rfl⟩ : ∃ k : Nat, j = k := ⟨j.toNat, by omega⟩
    have hk : k < n := by omega
    simp only [ob_0, hj, not_true_eq_false, if_false, true_and, and_self]
    have e : f_X2_mayBe z 0 (iv w) = some (z, ob ((0 ≤ (0 : Int) ∧ (0 : Int) < 4) ∧ loT 0 ≤ w ∧ w ≤ hiT 0)) := cmb_of (z := z) (w := 0) (sm_d 0) sw
    rw [e, Option.bind_some]
    have e2 : ((0 ≤ (0 : Int) ∧ (0 : Int) < 4) ∧ loT 0 ≤ w ∧ w ≤ hiT 0) ↔ (0 ≤ w ∧ w ≤ 5) := by
      unfold loT hiT
      simp
    simp only [e2, ob_0]
    by_cases hw : 0 ≤ w ∧ w ≤ 5
    · obtain ⟨u, rfl⟩ : ∃ u : Nat, w = u := ⟨w.toNat, by omega⟩
      simp only [hw, not_true_eq_false, if_false, and_self, if_true]
      rw [ik_of hJ hV hk (show u < 6 by omega), Option.bind_some]
      simp only [ob_0, Int.toNat_natCast]
      by_cases g : isU (v 0 k).toNat u = true
      · simp only [g, not_true_eq_false, if_false, if_true, tkO_of hJ hV hk, clO_of hJ hV hk, Option.bind_some, iv_add]
      · simp only [g, not_false_eq_true, if_true, n_m13, if_false, Bool.false_eq_true]
    · simp only [hw, not_false_eq_true, if_true, if_false, n_m2]
  · simp only [ob_0, hj, not_false_eq_true, if_true, false_and, if_false, n_m2]
theorem taken_m (hJ : MJ z n v) (hV : JV n v) {j w : Int} (sj : sm j) (sw : sm w) : f_X11_taken z 68 (iv j) (iv w) = some (z, iv (if (0 ≤ j ∧ j < n) ∧ 0 ≤ w ∧ w ≤ 5 then (if isU (v 0 j.toNat).toNat w.toNat = true then tkO v j.toNat + clO v j.toNat else -13) else -2)) := by
  unfold f_X11_taken f_X11_taken_0 f_X11_taken_8 f_X11_taken_20 f_X11_taken_33 f_X11_taken_47 f_X11_taken_49 f_X11_taken_17
  rw [ij_of hJ sj, Option.bind_some]
  by_cases hj : 0 ≤ j ∧ j < n
  · obtain ⟨k, rfl⟩ : ∃ k : Nat, j = k := ⟨j.toNat, by omega⟩
    have hk : k < n := by omega
    obtain ⟨e1, e2, e3, e4, i1, i2⟩ := MJ_at hJ hk
    have b := (hV k hk).1
    simp only [ob_0, hj, not_true_eq_false, if_false, true_and, and_self]
    rw [show (5 : Int32) = iv 5 by decide, n_0, in_ob sw (sm_d 0) (sm_d 5), Option.bind_some, ← n_0]
    by_cases hw : 0 ≤ w ∧ w ≤ 5
    · obtain ⟨u, rfl⟩ : ∃ u : Nat, w = u := ⟨w.toNat, by omega⟩
      have ek : iv (v 0 k) = iv (((v 0 k).toNat : Nat) : Int) := by rw [show (((v 0 k).toNat : Nat) : Int) = v 0 k by omega]
      simp only [ob_0, hw, not_true_eq_false, if_false, and_self, if_true, r68_1, i1, i2, e1]
      rw [ek, iu_of (by omega) (show u < 6 by omega), Option.bind_some]
      simp only [ob_0, Int.toNat_natCast]
      by_cases g : isU (v 0 k).toNat u = true
      · simp only [g, not_true_eq_false, if_false, if_true, mtk_of hJ hV hk, mcl_of hJ hV hk, Option.bind_some, iv_add]
      · simp only [g, not_false_eq_true, if_true, n_m13, if_false, Bool.false_eq_true]
    · simp only [ob_0, hw, not_false_eq_true, if_true, if_false, n_m2]
  · simp only [ob_0, hj, not_false_eq_true, if_true, false_and, if_false, n_m2]
theorem s_taken (h : INV z y) (a b : Int32) : Both (f_X10_taken z 0 a b) (fun z => f_X11_taken z 68 a b) := by
  obtain ⟨j, sj, rfl⟩ := ex_iv a
  obtain ⟨w, sw, rfl⟩ := ex_iv b
  exact Both_s h (taken_c h.1.1 h.2.2.1 sj sw) (taken_m h.2.1.1 h.2.2.1 sj sw)
theorem s_bench (h : INV z y) (a : Int32) : Both (f_X10_bench z 0 a) (fun z => f_X11_bench z 68 a) := by
  obtain ⟨c1, c2, -, -, c5, c6, -⟩ := h.1.2.2.2.2.1
  obtain ⟨m1, m2, -, m5, -, m6, -⟩ := h.2.1.2.2.2.1
  refine Both_s (r := if a = 0 then iv y.2.2.2.2.1.1 else if a = 1 then iv y.2.2.2.2.1.2.1 else if a = 2 then iv (y.2.2.2.2.1.2.2.2.2.1 : Int) else if a = 3 then iv y.2.2.2.2.1.2.2.2.2.2.1 else iv (-2)) h ?_ ?_
  · unfold f_X10_bench f_X10_bench_0 f_X10_bench_64 f_X10_bench_56 f_X10_bench_48 f_X10_bench_40 f_X10_bench_32
    rw [r0_12, c1, c2, c5, c6, n_m2]
    grind
  · show f_X11_bench z 68 a = _
    unfold f_X11_bench f_X11_bench_0 f_X11_bench_52 f_X11_bench_47 f_X11_bench_42 f_X11_bench_37 f_X11_bench_32
    rw [m1, m2, m5, m6, n_m2]
    grind
theorem s_began (h : INV z y) (a : Int32) : Both (f_X10_began z 0 a) (fun z => f_X11_began z 68 a) := by
  obtain ⟨j, sj, rfl⟩ := ex_iv a
  obtain ⟨-, -, -, c4, -, -, c7⟩ := h.1.2.2.2.2.1
  obtain ⟨-, -, -, -, m4, -, m7⟩ := h.2.1.2.2.2.1
  have h8 := h.1.1.2.1
  have tw := h.2.2.2.2.2.1.1.2.2.2.1
  refine Both_s (r := iv (if 0 ≤ j ∧ j < y.1 then (if Nat.testBit y.2.2.2.2.1.2.2.2.1 j.toNat = true then y.2.2.2.2.1.2.2.2.2.2.2 j.toNat else -1) else -2)) h ?_ ?_
  · unfold f_X10_began f_X10_began_0 f_X10_began_14 f_X10_began_11
    rw [r0_0, ho_of h.1.1.1 h8 sj, Option.bind_some]
    by_cases hj : 0 ≤ j ∧ j < y.1
    · obtain ⟨k, rfl⟩ : ∃ k : Nat, j = k := ⟨j.toNat, by omega⟩
      have hk : k < 8 := by omega
      have i1 : inb (iv (k : Int)) 8 = true := inb_k hk (by decide)
      have i2 : (iv (k : Int)).toNatClampNeg = k := iv_natN (by omega)
      have bs := bit_all y.2.2.2.2.1.2.2.2.1 (lt_256 h8 tw) k hk
      simp only [ob_0, hj, not_true_eq_false, if_false, and_self, if_true, r0_12]
      unfold f_X9_hourOf f_X9_hourOf_0 f_X9_hourOf_4 f_X9_hourOf_13 f_X9_hourOf_24 f_X9_hourOf_33 f_X9_hourOf_34
      rw [c4]
      simp only [iv_lt0 sj, iv_8le sj, bs, i1, i2, show rf 57 0 = 58 by decide, Int.toNat_natCast]
      rw [if_neg (by omega), if_neg (by omega)]
      cases hb : Nat.testBit y.2.2.2.2.1.2.2.2.1 k with
      | false => simp [n_m1]
      | true => simp [c7 k hk hb]
    · simp only [ob_0, hj, not_false_eq_true, if_true, if_false, n_m2]
  · show f_X11_began z 68 (iv j) = _
    unfold f_X11_began f_X11_began_0 f_X11_began_8 f_X11_began_17 f_X11_began_19
    rw [ij_of h.2.1.1 sj, Option.bind_some]
    by_cases hj : 0 ≤ j ∧ j < y.1
    · obtain ⟨k, rfl⟩ : ∃ k : Nat, j = k := ⟨j.toNat, by omega⟩
      have hk : k < 8 := by omega
      have i1 : inb (iv (k : Int)) 8 = true := inb_k hk (by decide)
      have i2 : (iv (k : Int)).toNatClampNeg = k := iv_natN (by omega)
      simp only [ob_0, hj, not_true_eq_false, if_false, and_self, if_true, r68_51, i1, i2, m7 k hk, Int.toNat_natCast]
    · simp only [ob_0, hj, not_false_eq_true, if_true, if_false, n_m2]
end SMALL
