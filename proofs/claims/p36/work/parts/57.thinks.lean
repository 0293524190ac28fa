/-! what follows of what is told, laid in rows: the model's thinks, the class's readFrom -/
section THINKS
variable {z : St} {o n : Nat} {v : Nat → Nat → Int}
theorem isU3 {a : Int} (h : 0 ≤ a ∧ a ≤ 5) : (iv a = 3) ↔ isU a.toNat 3 = true := by
  have e : a = ((a.toNat : Nat) : Int) := by omega
  have l : a.toNat < 6 := by omega
  rw [e]
  generalize a.toNat = k at *
  rw [Int.toNat_natCast]
  rcases (show k = 0 ∨ k = 1 ∨ k = 2 ∨ k = 3 ∨ k = 4 ∨ k = 5 by omega) with rfl | rfl | rfl | rfl | rfl | rfl <;> decide
theorem isU5 {a : Int} (h : 0 ≤ a ∧ a ≤ 5) : (iv a = 5) ↔ isU a.toNat 5 = true := by
  have e : a = ((a.toNat : Nat) : Int) := by omega
  have l : a.toNat < 6 := by omega
  rw [e]
  generalize a.toNat = k at *
  rw [Int.toNat_natCast]
  rcases (show k = 0 ∨ k = 1 ∨ k = 2 ∨ k = 3 ∨ k = 4 ∨ k = 5 by omega) with rfl | rfl | rfl | rfl | rfl | rfl <;> decide
theorem isU14 (k : Nat) (h : k < 6) : isU k 1 = true → isU k 4 = true → False := by
  rcases (show k = 0 ∨ k = 1 ∨ k = 2 ∨ k = 3 ∨ k = 4 ∨ k = 5 by omega) with rfl | rfl | rfl | rfl | rfl | rfl <;> decide
theorem MJ_at (hJ : MJ z n v) {j : Nat} (hj : j < n) : z.1 69 j = iv (v 0 j) ∧ z.1 70 j = iv (v 1 j) ∧ z.1 71 j = iv (v 2 j) ∧ z.1 72 j = iv (v 3 j) ∧ inb (iv (j : Int)) 8 = true ∧ (iv (j : Int)).toNatClampNeg = j := by
  have h8 := hJ.2.1
  obtain ⟨a, b, c, d⟩ := hJ.2.2 j hj
  exact ⟨a, b, c, d, inb_k (by omega) (by decide), iv_natN (by omega)⟩
theorem mcm_of (hJ : MJ z n v) (hV : JV n v) {j : Nat} (hj : j < n) : f_X11_comesOf z 68 (iv (j : Int)) = some (z, iv (cmO v j)) := by
  have b := hV j hj
  obtain ⟨e0, e1, e2, e3, i1, i2⟩ := MJ_at hJ hj
  have ek : v 0 j = (((v 0 j).toNat : Nat) : Int) := by omega
  have u4 := iu_of (z := z) (a := (v 0 j).toNat) (k := 4) (by omega) (by decide)
  rw [← ek] at u4
  have u4' : f_X11_isUnder z (iv (v 0 j)) 4 = some (z, ob (isU (v 0 j).toNat 4 = true)) := u4
  unfold f_X11_comesOf f_X11_comesOf_0 f_X11_comesOf_19 f_X11_comesOf_32 f_X11_comesOf_43 f_X11_comesOf_49 f_X11_comesOf_10 cmO
  simp only [r68_1, r68_2, i1, i2, e0, e1, isU3 b.1, u4', Option.bind_some, ob_0, if_true]
  have d2 : iv (v 1 j) / 2 = iv (v 1 j / 2) := by rw [n_2, iv_div (by omega) (by decide)]
  have d3 : iv (v 1 j) + 3 = iv (v 1 j + 3) := by rw [n_3, iv_add]
  rw [d2, d3]
  grind
theorem mtk_of (hJ : MJ z n v) (hV : JV n v) {j : Nat} (hj : j < n) : f_X11_takesOf z 68 (iv (j : Int)) = some (z, iv (tkO v j)) := by
  have b := hV j hj
  obtain ⟨e0, e1, e2, e3, i1, i2⟩ := MJ_at hJ hj
  have ek : v 0 j = (((v 0 j).toNat : Nat) : Int) := by omega
  have u2 := iu_of (z := z) (a := (v 0 j).toNat) (k := 2) (by omega) (by decide)
  rw [← ek] at u2
  have u2' : f_X11_isUnder z (iv (v 0 j)) 2 = some (z, ob (isU (v 0 j).toNat 2 = true)) := u2
  have go : ∀ x : Int, 0 ≤ x ∧ x ≤ 1000 → f_X11_takesOf_37 z 68 (iv (j : Int)) (iv x) = some (z, iv (if isU (v 0 j).toNat 5 = true then max 1 (x - 1) else x)) := fun x hx => by
    unfold f_X11_takesOf_37 f_X11_takesOf_48 f_X11_takesOf_58 f_X11_takesOf_59
    simp only [r68_1, i1, i2, e0, isU5 b.1, n_1, iv_sub, if_true]
    rw [iv_max (by constructor <;> decide) ⟨by omega, by omega⟩]
    grind
  have e4 : iv (v 2 j) + iv (v 2 j) / 4 = iv (v 2 j + v 2 j / 4) := by
    rw [n_4, iv_div (by omega) (by decide), iv_add]
  unfold f_X11_takesOf f_X11_takesOf_0 f_X11_takesOf_31 f_X11_takesOf_13
  simp only [r68_1, r68_3, i1, i2, e0, e2, u2', Option.bind_some, ob_0, if_true, e4]
  rw [go _ (by omega), go _ (by omega)]
  unfold tkO tk0
  grind
theorem mcl_of (hJ : MJ z n v) (hV : JV n v) {j : Nat} (hj : j < n) : f_X11_coolsOf z 68 (iv (j : Int)) = some (z, iv (clO v j)) := by
  have b := hV j hj
  obtain ⟨e0, e1, e2, e3, i1, i2⟩ := MJ_at hJ hj
  have ek : v 0 j = (((v 0 j).toNat : Nat) : Int) := by omega
  have u1 := iu_of (z := z) (a := (v 0 j).toNat) (k := 1) (by omega) (by decide)
  have u4 := iu_of (z := z) (a := (v 0 j).toNat) (k := 4) (by omega) (by decide)
  rw [← ek] at u1 u4
  have u1' : f_X11_isUnder z (iv (v 0 j)) 1 = some (z, ob (isU (v 0 j).toNat 1 = true)) := u1
  have u4' : f_X11_isUnder z (iv (v 0 j)) 4 = some (z, ob (isU (v 0 j).toNat 4 = true)) := u4
  have d5 : iv (v 3 j) + 5 = iv (v 3 j + 5) := by rw [n_5, iv_add]
  have go : ∀ x : Int, f_X11_coolsOf_30 z 68 (iv (j : Int)) (iv x) = some (z, iv (if isU (v 0 j).toNat 4 = true then 2 * x else x)) := fun x => by
    unfold f_X11_coolsOf_30 f_X11_coolsOf_44 f_X11_coolsOf_50 f_X11_coolsOf_51
    have d2 : 2 * iv x = iv (2 * x) := by rw [n_2, iv_mul]
    simp only [r68_1, i1, i2, e0, u4', Option.bind_some, ob_0, if_true, d2]
    grind
  have n14 := isU14 (v 0 j).toNat (by omega)
  unfold f_X11_coolsOf f_X11_coolsOf_0 f_X11_coolsOf_24 f_X11_coolsOf_13
  simp only [r68_1, r68_4, i1, i2, e0, e3, u1', Option.bind_some, ob_0, if_true, d5]
  rw [go, go]
  unfold clO
  grind
noncomputable def thZ (v : Nat → Nat → Int) (z : St) : Nat → St
  | 0 => z
  | k + 1 => zI (zI (zI (thZ v z k) 75 k (iv (cmO v k))) 76 k (iv (tkO v k))) 77 k (iv (clO v k))
theorem thZ_fr : ∀ k, Fr (fun a => 75 ≤ a ∧ a ≤ 77) z (thZ v z k)
  | 0 => Fr.refl
  | k + 1 => (thZ_fr k).trans (((Fr.refl.zI ⟨by decide, by decide⟩).zI ⟨by decide, by decide⟩).zI ⟨by decide, by decide⟩)
theorem MJ_fr {z' : St} (hJ : MJ z n v) (h0 : z'.1 68 5 = z.1 68 5) (h : ∀ a, 69 ≤ a → a ≤ 72 → z'.1 a = z.1 a) : MJ z' n v := by
  refine ⟨h0.trans hJ.1, hJ.2.1, fun j hj => ?_⟩
  rw [h 69 (by decide) (by decide), h 70 (by decide) (by decide), h 71 (by decide) (by decide), h 72 (by decide) (by decide)]
  exact hJ.2.2 j hj
theorem thZ_val : ∀ k j, j < k → (thZ v z k).1 75 j = iv (cmO v j) ∧ (thZ v z k).1 76 j = iv (tkO v j) ∧ (thZ v z k).1 77 j = iv (clO v j)
  | 0, _, h => absurd h (Nat.not_lt_zero _)
  | k + 1, j, h => by
    unfold thZ
    simp only [rI, Nat.reduceEqDiff, true_and, false_and, if_false]
    by_cases e : j = k
    · simp only [e, if_true, and_self]
    · simp only [e, if_false]
      exact thZ_val k j (by omega)
theorem th_of (hJ : MJ z n v) (hV : JV n v) : f_X11_thinks z 68 = some (thZ v z n) ∧ MD (thZ v z n) n (cmO v) (tkO v) (clO v) ∧ Fr (fun a => 75 ≤ a ∧ a ≤ 77) z (thZ v z n) := by
  have h8 := hJ.2.1
  refine ⟨?_, ⟨by rw [(thZ_fr n 68 (by omega)).1]; exact hJ.1, h8, fun j hj => thZ_val n j hj⟩, thZ_fr n⟩
  refine loop_up (n := n) (fun F k b => f_X11_thinks_2 F b 68 (iv (k : Int))) (thZ v z) (fun F => ?_) (fun F k hk => ?_) n 0 FU (by omega) (FU_8 (by omega))
  · show f_X11_thinks_2 _ _ _ _ = _
    rw [f_X11_thinks_2, (thZ_fr n 68 (by omega)).1, hJ.1, if_pos sz_t]
    rfl
  · show f_X11_thinks_2 _ _ _ _ = f_X11_thinks_2 F (zI (zI (zI (thZ v z k) 75 k (iv (cmO v k))) 76 k (iv (tkO v k))) 77 k (iv (clO v k))) _ _
    have hJ0 : MJ (thZ v z k) n v := MJ_fr hJ (by rw [(thZ_fr k 68 (by omega)).1]) (fun a h1 h2 => (thZ_fr k a (by omega)).1)
    have hJ1 : MJ (zI (thZ v z k) 75 k (iv (cmO v k))) n v := MJ_fr hJ0 (by rw [zI_n (by decide)]) (fun a h1 h2 => zI_n (by omega))
    have hJ2 : MJ (zI (zI (thZ v z k) 75 k (iv (cmO v k))) 76 k (iv (tkO v k))) n v := MJ_fr hJ1 (by rw [zI_n (by decide)]) (fun a h1 h2 => zI_n (by omega))
    obtain ⟨-, -, -, -, i1, i2⟩ := MJ_at hJ hk
    rw [f_X11_thinks_2, hJ0.1, if_neg (sz_f hk (by omega))]
    unfold f_X11_thinks_10
    simp only [mcm_of hJ0 hV hk, Option.bind_some, i1, i2, if_true, r68_13, r68_14, r68_15, mtk_of hJ1 hV hk, mcl_of hJ2 hV hk, iv_s]
end THINKS
