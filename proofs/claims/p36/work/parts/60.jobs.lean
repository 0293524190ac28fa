/-! JOBS: what may be told; one more -/
def loT (w : Int) : Int := if w = 2 then 1 else 0
def hiT (w : Int) : Int := if w = 0 then 5 else if w = 2 then 20 else 60
def inT (w x : Int) : Prop := loT w ≤ x ∧ x ≤ hiT w
section JOBS
variable {z : St} {o n : Nat} {v : Nat → Nat → Int}
theorem in_of {x a b : Int} (hx : sm x) (ha : sm a) (hb : sm b) : f_X11_in z (iv x) (iv a) (iv b) = some (z, if a ≤ x ∧ x ≤ b then 1 else 0) := by
  unfold f_X11_in f_X11_in_0 f_X11_in_5 f_X11_in_10 f_X11_in_14 f_X11_in_15
  simp only [iv_lt hx ha, iv_lt hb hx, zb_0, zb_1, if_true]
  grind
theorem mmb_of {w x : Int} (hw : 0 ≤ w ∧ w < 4) (hx : sm x) : f_X11_mayBe z (iv w) (iv x) = some (z, if loT w ≤ x ∧ x ≤ hiT w then 1 else 0) := by
  have sw : sm w := ⟨by omega, by omega⟩
  have e0 : (iv w = 0) ↔ w = 0 := by
    rw [n_0]
    exact iv_eq sw (by constructor <;> decide)
  have e2 : (iv w = 2) ↔ w = 2 := by
    rw [n_2]
    exact iv_eq sw (by constructor <;> decide)
  have i1 := in_of (z := z) hx (a := 0) (b := 5) (by constructor <;> decide) (by constructor <;> decide)
  have i2 := in_of (z := z) hx (a := 1) (b := 20) (by constructor <;> decide) (by constructor <;> decide)
  have i3 := in_of (z := z) hx (a := 0) (b := 60) (by constructor <;> decide) (by constructor <;> decide)
  have j1 : f_X11_in z (iv x) 0 5 = some (z, if 0 ≤ x ∧ x ≤ 5 then 1 else 0) := i1
  have j2 : f_X11_in z (iv x) 1 20 = some (z, if 1 ≤ x ∧ x ≤ 20 then 1 else 0) := i2
  have j3 : f_X11_in z (iv x) 0 60 = some (z, if 0 ≤ x ∧ x ≤ 60 then 1 else 0) := i3
  have zbb : ∀ (P : Prop) [Decidable P], zb (if P then 1 else 0) = true := fun P _ => by split <;> decide
  unfold f_X11_mayBe f_X11_mayBe_0 f_X11_mayBe_13 f_X11_mayBe_28 f_X11_mayBe_18 f_X11_mayBe_4 f_X11_mayBe_35 loT hiT
  simp only [e0, e2, j1, j2, j3, Option.bind_some, zbb, if_true]
  by_cases w0 : w = 0
  · subst w0
    rfl
  · by_cases w2 : w = 2
    · subst w2
      rfl
    · rw [if_neg w0, if_neg w2, if_neg w2, if_neg w0, if_neg w2]
theorem tb_lo : ∀ k : Nat, k < 4 → tb1 k = iv (loT (k : Int)) ∧ tb2 k = iv (hiT (k : Int)) := by decide
theorem cmb_of {w x : Int} (hw : sm w) (hx : sm x) : f_X2_mayBe z (iv w) (iv x) = some (z, if (0 ≤ w ∧ w < 4) ∧ loT w ≤ x ∧ x ≤ hiT w then 1 else 0) := by
  have h4 : (4 ≤ iv w) ↔ 4 ≤ w := by
    rw [n_4]
    exact iv_le (by constructor <;> decide) hw
  unfold f_X2_mayBe f_X2_mayBe_0 f_X2_mayBe_4 f_X2_mayBe_12 f_X2_mayBe_20 f_X2_mayBe_29 f_X2_mayBe_38 f_X2_mayBe_42 f_X2_mayBe_43
  simp only [iv_lt0 hw, h4, iv_inb hw, iv_nat hw, zb_0, zb_1, if_true]
  by_cases g : 0 ≤ w ∧ w < 4
  · obtain ⟨t1, t2⟩ := tb_lo w.toNat (by omega)
    have ew : ((w.toNat : Nat) : Int) = w := by omega
    rw [ew] at t1 t2
    have sl : sm (loT w) := by
      unfold loT
      split <;> (constructor <;> decide)
    have sh : sm (hiT w) := by
      unfold hiT
      split
      · constructor <;> decide
      · split <;> (constructor <;> decide)
    simp only [t1, t2, iv_lt hx sl, iv_lt sh hx]
    grind
  · grind
def vA (v : Nat → Nat → Int) (n : Nat) (x : Nat → Int) : Nat → Nat → Int := fun w j => if j = n then x w else v w j
theorem ch_set (ho : kd o = 2) (hJ : z.1 o 1 = iv (n : Int)) (hn : n ≤ 8) {w : Nat} (hw : w < 4) {j : Nat} (hj : j < n) {y : Int32} : f_X2_change z o (iv (w : Int)) (iv (j : Int)) y = some (zI z (rf (rf o 0) w) j y) := by
  have sw : sm (w : Int) := sm_k (by omega)
  have sj : sm (j : Int) := sm_k (by omega)
  have sn : sm (n : Int) := sm_k (by omega)
  have i1 : inb (iv (w : Int)) 4 = true := inb_k hw (by decide)
  have i2 : inb (iv (j : Int)) 8 = true := inb_k (by omega) (by decide)
  have k1 : (iv (w : Int)).toNatClampNeg = w := iv_natN (by omega)
  have k2 : (iv (j : Int)).toNatClampNeg = j := iv_natN (by omega)
  have h4 : (4 ≤ iv (w : Int)) ↔ 4 ≤ (w : Int) := by
    rw [n_4]
    exact iv_le (by constructor <;> decide) sw
  unfold f_X2_change f_X2_change_0 f_X2_change_4 f_X2_change_13 f_X2_change_21 f_X2_change_30 f_X2_holds f_X2_holds_0 f_X2_holds_4 f_X2_holds_12 f_X2_holds_18 f_X2_holds_22 f_X2_holds_23
  rw [hJ]
  simp only [iv_lt0 sw, iv_lt0 sj, iv_8le sj, iv_le sn sj, h4, i1, i2, k1, k2, zb_1, zb_0]
  rw [if_neg (by omega), if_neg (by omega), if_neg (by omega), if_neg (by omega), if_neg (by omega), if_pos trivial, Option.bind_some]
  show (if (1 : Int32) = 0 then _ else if True then if True then some (zI z (rf (rf o 0) w) j y) else none else none) = _
  rw [if_neg (by decide), if_pos trivial, if_pos trivial]
noncomputable def adZ (z : St) (o n : Nat) (x : Nat → Int) : St := zI (zI (zI (zI (zI z o 1 (iv ((n + 1 : Nat) : Int))) (rf (rf o 0) 0) n (iv (x 0))) (rf (rf o 0) 1) n (iv (x 1))) (rf (rf o 0) 2) n (iv (x 2))) (rf (rf o 0) 3) n (iv (x 3))
theorem ad_of (ho : kd o = 2) (hJ : JD z o n v) (hn : n < 8) {x : Nat → Int} : f_X2_add z o (iv (x 0)) (iv (x 1)) (iv (x 2)) (iv (x 3)) = some (adZ z o n x) ∧ JD (adZ z o n x) o (n + 1) (vA v n x) := by
  obtain ⟨a1, a2, a3, a4, a5, a6⟩ := kd2_n o (kd_lt ho (by decide)) ho
  have d0 : o ≠ rf (rf o 0) 0 := by omega
  have d1 : o ≠ rf (rf o 0) 1 := by omega
  have d2 : o ≠ rf (rf o 0) 2 := by omega
  have d3 : o ≠ rf (rf o 0) 3 := by omega
  constructor
  · have s1 : ¬ 8 < iv (n : Int) + 1 := fun h => by
      rw [iv_s, n_8] at h
      have := (iv_lt (by constructor <;> decide) (sm_k (by omega))).mp h
      omega
    unfold f_X2_add f_X2_add_0 f_X2_hasRoom f_X2_hasRoom_0 f_X2_hasRoom_11 f_X2_hasRoom_15 f_X2_hasRoom_16
    rw [hJ.1, if_neg s1]
    simp only [zb_1, if_true, Option.bind_some]
    rw [if_neg (by decide)]
    unfold f_X2_add_9 adZ
    rw [hJ.1, iv_s]
    have c0 := ch_set (z := zI z o 1 (iv ((n + 1 : Nat) : Int))) (n := n + 1) ho (by rw [rI, if_pos ⟨rfl, rfl⟩]) (by omega) (w := 0) (by decide) (j := n) (by omega) (y := iv (x 0))
    have c0' : f_X2_change (zI z o 1 (iv ((n + 1 : Nat) : Int))) o 0 (iv (n : Int)) (iv (x 0)) = some (zI (zI z o 1 (iv ((n + 1 : Nat) : Int))) (rf (rf o 0) 0) n (iv (x 0))) := c0
    rw [c0', Option.bind_some]
    generalize hZ0 : zI (zI z o 1 (iv ((n + 1 : Nat) : Int))) (rf (rf o 0) 0) n (iv (x 0)) = Z0
    have b0 : Z0.1 o 1 = iv ((n + 1 : Nat) : Int) := by rw [← hZ0, zI_n d0, rI, if_pos ⟨rfl, rfl⟩]
    have c1 : f_X2_change Z0 o 1 (iv (n : Int)) (iv (x 1)) = some (zI Z0 (rf (rf o 0) 1) n (iv (x 1))) := ch_set (z := Z0) (n := n + 1) ho b0 (by omega) (w := 1) (by decide) (j := n) (by omega)
    rw [c1, Option.bind_some]
    have b1 : (zI Z0 (rf (rf o 0) 1) n (iv (x 1))).1 o 1 = iv ((n + 1 : Nat) : Int) := by rw [zI_n d1, b0]
    have c2 : f_X2_change (zI Z0 (rf (rf o 0) 1) n (iv (x 1))) o 2 (iv (n : Int)) (iv (x 2)) = some (zI (zI Z0 (rf (rf o 0) 1) n (iv (x 1))) (rf (rf o 0) 2) n (iv (x 2))) := ch_set (n := n + 1) ho b1 (by omega) (w := 2) (by decide) (j := n) (by omega)
    rw [c2, Option.bind_some]
    have b2 : (zI (zI Z0 (rf (rf o 0) 1) n (iv (x 1))) (rf (rf o 0) 2) n (iv (x 2))).1 o 1 = iv ((n + 1 : Nat) : Int) := by rw [zI_n d2, b1]
    have c3 : f_X2_change (zI (zI Z0 (rf (rf o 0) 1) n (iv (x 1))) (rf (rf o 0) 2) n (iv (x 2))) o 3 (iv (n : Int)) (iv (x 3)) = some (zI (zI (zI Z0 (rf (rf o 0) 1) n (iv (x 1))) (rf (rf o 0) 2) n (iv (x 2))) (rf (rf o 0) 3) n (iv (x 3))) := ch_set (n := n + 1) ho b2 (by omega) (w := 3) (by decide) (j := n) (by omega)
    rw [c3, Option.bind_some]
  · have e1 : rf (rf o 0) 0 = o + 2 := a3
    have e2 : rf (rf o 0) 1 = o + 3 := a4
    have e3 : rf (rf o 0) 2 = o + 4 := a5
    have e4 : rf (rf o 0) 3 = o + 5 := a6
    refine ⟨?_, by omega, fun w hw j hj => ?_⟩
    · unfold adZ
      rw [zI_n d3, zI_n d2, zI_n d1, zI_n d0, rI, if_pos ⟨rfl, rfl⟩]
    · unfold adZ vA
      have q := fun h => hJ.2.2 w hw j h
      rcases (show w = 0 ∨ w = 1 ∨ w = 2 ∨ w = 3 by omega) with rfl | rfl | rfl | rfl
      all_goals
        simp only [rI, e1, e2, e3, e4] at q ⊢
        by_cases e : j = n
        · simp [e]
        · simp [e]
          exact q (by omega)
end JOBS
