/-! KINDS; what follows of what is told -/
def isU (a k : Nat) : Bool := a == k || k == 0 || (k == 1 && a == 3) || (k == 2 && (a == 4 || a == 5)) || (k == 4 && a == 5)
theorem FU_7 : ∃ m, FU = m + 7 := ⟨3999993, rfl⟩
theorem ik_10 (m : Nat) (z : St) : ∀ a : Nat, a < 6 → ∀ k : Nat, k < 6 → f_X2_isOfKind_10 (m + 7) z (iv (k : Int)) (iv (a : Int)) 0 = some (z, ob (isU a k = true)) := by
  intro a ha k hk
  rcases (show a = 0 ∨ a = 1 ∨ a = 2 ∨ a = 3 ∨ a = 4 ∨ a = 5 by omega) with rfl | rfl | rfl | rfl | rfl | rfl <;>
  rcases (show k = 0 ∨ k = 1 ∨ k = 2 ∨ k = 3 ∨ k = 4 ∨ k = 5 by omega) with rfl | rfl | rfl | rfl | rfl | rfl <;> rfl
theorem iu_2 (m : Nat) (z : St) : ∀ a : Nat, a < 6 → ∀ k : Nat, k < 6 → f_X11_isUnder_2 (m + 7) z (iv (k : Int)) (iv (a : Int)) = some (z, ob (isU a k = true)) := by
  intro a ha k hk
  rcases (show a = 0 ∨ a = 1 ∨ a = 2 ∨ a = 3 ∨ a = 4 ∨ a = 5 by omega) with rfl | rfl | rfl | rfl | rfl | rfl <;>
  rcases (show k = 0 ∨ k = 1 ∨ k = 2 ∨ k = 3 ∨ k = 4 ∨ k = 5 by omega) with rfl | rfl | rfl | rfl | rfl | rfl <;> rfl
theorem iu_of {z : St} {a k : Nat} (ha : a < 6) (hk : k < 6) : f_X11_isUnder z (iv (a : Int)) (iv (k : Int)) = some (z, ob (isU a k = true)) := by
  obtain ⟨m, hm⟩ := FU_7
  unfold f_X11_isUnder f_X11_isUnder_0
  rw [hm]
  exact iu_2 m z a ha k hk
theorem ob_0 {P : Prop} [Decidable P] : (ob P = 0) ↔ ¬ P := by
  unfold ob
  by_cases h : P
  · rw [if_pos h]
    exact ⟨fun e => absurd e (by decide), fun e => absurd h e⟩
  · rw [if_neg h]
    exact ⟨fun _ => h, fun _ => rfl⟩
def cmO (v : Nat → Nat → Int) (j : Nat) : Int := if isU (v 0 j).toNat 3 = true then v 1 j / 2 else if isU (v 0 j).toNat 4 = true then v 1 j + 3 else v 1 j
def tk0 (v : Nat → Nat → Int) (j : Nat) : Int := if isU (v 0 j).toNat 2 = true then v 2 j + v 2 j / 4 else v 2 j
def tkO (v : Nat → Nat → Int) (j : Nat) : Int := if isU (v 0 j).toNat 5 = true then max 1 (tk0 v j - 1) else tk0 v j
def clO (v : Nat → Nat → Int) (j : Nat) : Int := if isU (v 0 j).toNat 1 = true then v 3 j + 5 else if isU (v 0 j).toNat 4 = true then v 3 j * 2 else v 3 j
def JV (n : Nat) (v : Nat → Nat → Int) : Prop := ∀ j, j < n → (0 ≤ v 0 j ∧ v 0 j ≤ 5) ∧ (0 ≤ v 1 j ∧ v 1 j ≤ 60) ∧ (1 ≤ v 2 j ∧ v 2 j ≤ 20) ∧ (0 ≤ v 3 j ∧ v 3 j ≤ 60)
def JD (z : St) (o n : Nat) (v : Nat → Nat → Int) : Prop := z.1 o 1 = iv (n : Int) ∧ n ≤ 8 ∧ ∀ w, w < 4 → ∀ j, j < n → z.1 (rf (rf o 0) w) j = iv (v w j)
def MJ (z : St) (n : Nat) (v : Nat → Nat → Int) : Prop := z.1 68 5 = iv (n : Int) ∧ n ≤ 8 ∧ ∀ j, j < n → z.1 69 j = iv (v 0 j) ∧ z.1 70 j = iv (v 1 j) ∧ z.1 71 j = iv (v 2 j) ∧ z.1 72 j = iv (v 3 j)
theorem BD_O {n : Nat} {v : Nat → Nat → Int} (h : JV n v) : BD n (cmO v) (tkO v) (clO v) := by
  intro j hj
  obtain ⟨a, b, c, d⟩ := h j hj
  unfold cmO tkO tk0 clO
  refine ⟨⟨?_, ?_⟩, ⟨?_, ?_⟩, ⟨?_, ?_⟩⟩ <;> repeat' split
  all_goals omega
section KINDS
variable {z : St} {o n : Nat} {v : Nat → Nat → Int}
theorem va_of (hJ : JD z o n v) {w : Nat} (hw : w < 4) {j : Nat} (hj : j < n) : f_X2_value z o (iv (w : Int)) (iv (j : Int)) = some (z, iv (v w j)) := by
  have h8 := hJ.2.1
  have e := hJ.2.2 w hw j hj
  have sw : sm (w : Int) := sm_k (by omega)
  have sj : sm (j : Int) := sm_k (by omega)
  have sn : sm (n : Int) := sm_k (by omega)
  have i1 : inb (iv (w : Int)) 4 = true := inb_k hw (by decide)
  have i2 : inb (iv (j : Int)) 8 = true := inb_k (by omega) (by decide)
  have k1 : (iv (w : Int)).toNatClampNeg = w := iv_natN (by omega)
  have k2 : (iv (j : Int)).toNatClampNeg = j := iv_natN (by omega)
  have h4 : (4 ≤ iv (w : Int)) ↔ 4 ≤ (w : Int) := by
    rw [n_4]
    exact iv_le (by constructor <;> decide) sw
  unfold f_X2_value f_X2_value_0 f_X2_value_4 f_X2_value_13 f_X2_value_21 f_X2_value_32 f_X2_value_33 f_X2_holds f_X2_holds_0 f_X2_holds_4 f_X2_holds_12 f_X2_holds_18 f_X2_holds_22 f_X2_holds_23
  rw [hJ.1]
  simp only [iv_lt0 sw, iv_lt0 sj, iv_8le sj, iv_le sn sj, h4, i1, i2, k1, k2, e, zb_1, zb_0]
  rw [if_neg (by omega), if_neg (by omega), if_neg (by omega), if_neg (by omega), if_neg (by omega), if_pos trivial, Option.bind_some]
  show (if (1 : Int32) = 0 then _ else if True then if True then some (z, z.1 (rf (rf o 0) w) j) else none else none) = _
  rw [if_neg (by decide), if_pos trivial, if_pos trivial, e]
theorem ik_of (hJ : JD z o n v) (hV : JV n v) {j : Nat} (hj : j < n) {k : Nat} (hk : k < 6) : f_X2_isOfKind z o (iv (j : Int)) (iv (k : Int)) = some (z, ob (isU (v 0 j).toNat k = true)) := by
  obtain ⟨m, hm⟩ := FU_7
  have b := hV j hj
  unfold f_X2_isOfKind f_X2_isOfKind_0
  rw [n_0, show iv 0 = iv ((0 : Nat) : Int) from rfl, va_of hJ (by decide) hj, Option.bind_some, hm]
  have e : v 0 j = (((v 0 j).toNat : Nat) : Int) := by omega
  show f_X2_isOfKind_10 (m + 7) z (iv (k : Int)) (iv (v 0 j)) (iv ((0 : Nat) : Int)) = _
  rw [e]
  exact ik_10 m z _ (by omega) k hk
theorem cmO_of (hJ : JD z o n v) (hV : JV n v) {j : Nat} (hj : j < n) : f_X2_comesOf z o (iv (j : Int)) = some (z, iv (cmO v j)) := by
  have b := hV j hj
  unfold f_X2_comesOf f_X2_comesOf_0
  rw [n_1, show iv 1 = iv ((1 : Nat) : Int) from rfl, va_of hJ (by decide) hj, Option.bind_some]
  show ((f_X2_isOfKind z o (iv (j : Int)) 3).bind _) = _
  rw [n_3, show iv 3 = iv ((3 : Nat) : Int) from rfl, ik_of hJ hV hj (by decide), Option.bind_some]
  simp only [ob_0]
  unfold f_X2_comesOf_20 f_X2_comesOf_16 f_X2_comesOf_29 f_X2_comesOf_35 f_X2_comesOf_36 cmO
  rw [n_4, show iv 4 = iv ((4 : Nat) : Int) from rfl, ik_of hJ hV hj (by decide), Option.bind_some]
  simp only [ob_0, n_2, n_3, iv_add, iv_div (x := v 1 j) (y := 2) (by omega) (by decide)]
  grind
theorem tkO_of (hJ : JD z o n v) (hV : JV n v) {j : Nat} (hj : j < n) : f_X2_takesOf z o (iv (j : Int)) = some (z, iv (tkO v j)) := by
  have b := hV j hj
  have t1 : 0 ≤ tk0 v j ∧ tk0 v j ≤ 1000 := by
    unfold tk0
    split <;> omega
  unfold f_X2_takesOf f_X2_takesOf_0
  rw [n_2, show iv 2 = iv ((2 : Nat) : Int) from rfl, va_of hJ (by decide) hj, Option.bind_some]
  show ((f_X2_isOfKind z o (iv (j : Int)) (iv ((2 : Nat) : Int))).bind _) = _
  rw [ik_of hJ hV hj (by decide), Option.bind_some]
  simp only [ob_0]
  unfold f_X2_takesOf_24 f_X2_takesOf_16
  have go : ∀ x : Int, 0 ≤ x ∧ x ≤ 1000 → f_X2_takesOf_25 z o (iv (j : Int)) (iv x) = some (z, iv (if isU (v 0 j).toNat 5 = true then max 1 (x - 1) else x)) := fun x hx => by
    unfold f_X2_takesOf_25 f_X2_takesOf_45 f_X2_takesOf_35 f_X2_takesOf_46
    rw [n_5, show iv 5 = iv ((5 : Nat) : Int) from rfl, ik_of hJ hV hj (by decide), Option.bind_some]
    simp only [ob_0, n_1, iv_sub]
    rw [iv_max (by constructor <;> decide) ⟨by omega, by omega⟩]
    grind
  have e4 : iv (v 2 j) + iv (v 2 j) / 4 = iv (v 2 j + v 2 j / 4) := by
    rw [n_4, iv_div (by omega) (by decide), iv_add]
  show (if _ then f_X2_takesOf_25 z o (iv (j : Int)) (iv (v 2 j)) else f_X2_takesOf_25 z o (iv (j : Int)) (iv (v 2 j) + iv (v 2 j) / 4)) = _
  rw [e4, go _ (by omega), go _ (by omega)]
  unfold tkO tk0
  grind
theorem clO_of (hJ : JD z o n v) (hV : JV n v) {j : Nat} (hj : j < n) : f_X2_coolsOf z o (iv (j : Int)) = some (z, iv (clO v j)) := by
  have b := hV j hj
  unfold f_X2_coolsOf f_X2_coolsOf_0
  rw [n_3, show iv 3 = iv ((3 : Nat) : Int) from rfl, va_of hJ (by decide) hj, Option.bind_some]
  show ((f_X2_isOfKind z o (iv (j : Int)) 1).bind _) = _
  rw [n_1, show iv 1 = iv ((1 : Nat) : Int) from rfl, ik_of hJ hV hj (by decide), Option.bind_some]
  simp only [ob_0]
  unfold f_X2_coolsOf_20 f_X2_coolsOf_16 f_X2_coolsOf_29 f_X2_coolsOf_35 f_X2_coolsOf_36 clO
  rw [n_4, show iv 4 = iv ((4 : Nat) : Int) from rfl, ik_of hJ hV hj (by decide), Option.bind_some]
  simp only [ob_0, n_2, n_5, iv_add, iv_mul]
  grind
end KINDS
