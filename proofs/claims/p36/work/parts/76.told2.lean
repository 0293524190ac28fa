/-! TOLD ANEW: set, drop -/
def vS (v : Nat → Nat → Int) (w j : Nat) (x : Int) : Nat → Nat → Int := fun a b => if a = w ∧ b = j then x else v a b
def vD (v : Nat → Nat → Int) (j : Nat) : Nat → Nat → Int := fun a b => if b < j then v a b else v a (b + 1)
section TOLD2
variable {z z1 : St} {y : Sy} {n o : Nat} {v : Nat → Nat → Int}
theorem JV_vS (hV : JV n v) {w j : Nat} (hw : w < 4) (hj : j < n) {x : Int} (hx : loT w ≤ x ∧ x ≤ hiT w) : JV n (vS v w j x) := fun k hk => by
  have b := hV k hk
  unfold vS
  unfold loT hiT at hx
  rcases (show w = 0 ∨ w = 1 ∨ w = 2 ∨ w = 3 by omega) with rfl | rfl | rfl | rfl <;> (simp at hx ⊢; by_cases e : k = j <;> simp [e] at * <;> omega)
theorem JD_S (ho : kd o = 2) (hJ : JD z o n v) {w j : Nat} (hw : w < 4) (hj : j < n) {x : Int} : JD (zI z (rf (rf o 0) w) j (iv x)) o n (vS v w j x) := by
  obtain ⟨a1, a2, a3, a4, a5, a6⟩ := kd2_n o (kd_lt ho (by decide)) ho
  have ra : ∀ w, w < 4 → rf (rf o 0) w = o + 2 + w := fun w hw => by
    rcases (show w = 0 ∨ w = 1 ∨ w = 2 ∨ w = 3 by omega) with rfl | rfl | rfl | rfl
    · exact a3
    · rw [a4]
    · rw [a5]
    · rw [a6]
  refine ⟨?_, hJ.2.1, fun a ha b hb => ?_⟩
  · rw [ra w hw, zI_n (by omega)]
    exact hJ.1
  · rw [rI, ra a ha, ra w hw]
    unfold vS
    have e := hJ.2.2 a ha b hb
    rw [ra a ha] at e
    by_cases q : a = w ∧ b = j
    · rw [if_pos (by omega), if_pos q]
    · rw [if_neg (by omega), if_neg q, e]
theorem MJ_S (hJ : MJ z n v) {w j : Nat} (hw : w < 4) {x : Int} : MJ (zI z (69 + w) j (iv x)) n (vS v w j x) := by
  refine ⟨?_, hJ.2.1, fun b hb => ?_⟩
  · rw [zI_n (by omega)]
    exact hJ.1
  · have e := hJ.2.2 b hb
    unfold vS
    simp only [rI]
    rcases (show w = 0 ∨ w = 1 ∨ w = 2 ∨ w = 3 by omega) with rfl | rfl | rfl | rfl <;> (simp; by_cases q : b = j <;> simp [q] at * <;> grind)
theorem s_set (h : INV z y) (a b c : Int32) : Both (f_X10_set z 0 a b c) (fun z => f_X11_set z 68 a b c) := by
  obtain ⟨j, sj, rfl⟩ := ex_iv a
  obtain ⟨w, sw, rfl⟩ := ex_iv b
  obtain ⟨x, sx, rfl⟩ := ex_iv c
  have hJ := h.1.1
  have hM := h.2.1.1
  have hV0 := h.2.2.1
  have h8 := hJ.2.1
  by_cases g : (0 ≤ j ∧ j < y.1) ∧ (0 ≤ w ∧ w < 4) ∧ loT w ≤ x ∧ x ≤ hiT w
  · obtain ⟨⟨j0, j1⟩, ⟨w0, w1⟩, x0, x1⟩ := g
    obtain ⟨k, rfl⟩ : ∃ k : Nat, j = k := ⟨j.toNat, by omega⟩
    obtain ⟨u, rfl⟩ : ∃ u : Nat, w = u := ⟨w.toNat, by omega⟩
    have hk : k < y.1 := by omega
    have hu : u < 4 := by omega
    have hV := JV_vS hV0 hu hk ⟨x0, x1⟩
    have c1 := ch_set (o := 1) (by decide) hJ.1 h8 hu hk (y := iv x)
    have c2 := JD_S (o := 1) (by decide) hJ hu hk (x := x)
    have r1 : rf (rf 1 0) u = 3 + u := by
      rcases (show u = 0 ∨ u = 1 ∨ u = 2 ∨ u = 3 by omega) with rfl | rfl | rfl | rfl <;> decide
    have f1 : Fr (fun a => 1 ≤ a ∧ a ≤ 6) z (zI z (rf (rf 1 0) u) k (iv x)) := Fr.refl.zI (by rw [r1]; omega)
    obtain ⟨c3, c4, c5, c6⟩ := ta_XC h.1 f1 c2 hV
    have hM2 := XM_c h.2.1 c5
    have k2 := MJ_S hM2.1 hu (j := k) (x := x)
    obtain ⟨k3, k4, k5, k6⟩ := an_XM hM2 (z1 := zI (taZ (vS y.2.1 u k x) y.1 (zI z (rf (rf 1 0) u) k (iv x))) (69 + u) k (iv x)) (Fr.refl.zI (by omega)) (fun q hq => by rw [zI_n (by omega)]) k2
    refine ⟨taZ (vS y.2.1 u k x) y.1 (zI z (rf (rf 1 0) u) k (iv x)), _, iv (y.2.1 u k), ?_, ?_, _, INV_n h hV c4 c5 k4 k5⟩
    · unfold f_X10_set f_X10_set_0 f_X10_set_11 f_X10_set_22 f_X10_set_19
      rw [r0_0, ho_of hJ.1 h8 sj, Option.bind_some]
      simp only [ob_0, cm_k sx (show 0 ≤ (u : Int) ∧ (u : Int) < 4 from ⟨w0, w1⟩), Option.bind_some]
      rw [if_neg (fun q => q ⟨j0, j1⟩), if_neg (fun q => q ⟨x0, x1⟩), va_of hJ hu hk, Option.bind_some]
      show ((f_X2_change z 1 (iv (u : Int)) (iv (k : Int)) (iv x)).bind _) = _
      rw [c1, Option.bind_some, c3]
      rfl
    · show f_X11_set _ 68 _ _ _ = _
      unfold f_X11_set f_X11_set_0 f_X11_set_8 f_X11_set_17 f_X11_set_28 f_X11_set_50 f_X11_set_65 f_X11_set_80 f_X11_set_70 f_X11_set_55 f_X11_set_40 f_X11_set_87 f_X11_set_25
      rw [ij_of hM2.1 sj, Option.bind_some]
      simp only [ob_0, mm_k sx (show 0 ≤ (u : Int) ∧ (u : Int) < 4 from ⟨w0, w1⟩), Option.bind_some]
      rw [if_neg (fun q => q ⟨j0, j1⟩), show (3 : Int32) = iv 3 by decide, n_0, in_ob sw (sm_d 0) (sm_d 3), Option.bind_some, ← n_0]
      simp only [ob_0]
      rw [if_neg (by omega), if_neg (fun q => q ⟨x0, x1⟩), its_m hM2.1 hV0 hk sw (by omega), Option.bind_some]
      have i1 : inb (iv (k : Int)) 8 = true := inb_k (by omega) (by decide)
      have i2 : (iv (k : Int)).toNatClampNeg = k := tn (by omega)
      have ie : itsV y.2.1 (u : Int) k = y.2.1 u k := by
        unfold itsV
        rw [if_neg (by omega), if_neg (by omega), if_neg (by omega)]
        rfl
      simp only [i1, i2, if_true, ie, r68_1, r68_2, r68_3, r68_4]
      rcases (show u = 0 ∨ u = 1 ∨ u = 2 ∨ u = 3 by omega) with rfl | rfl | rfl | rfl
      · rw [if_pos (by decide)]
        show ((f_X11_anew _ 68).bind _) = _
        rw [k3]
        rfl
      · rw [if_neg (by decide), if_pos (by decide)]
        show ((f_X11_anew _ 68).bind _) = _
        rw [k3]
        rfl
      · rw [if_neg (by decide), if_neg (by decide), if_pos (by decide)]
        show ((f_X11_anew _ 68).bind _) = _
        rw [k3]
        rfl
      · rw [if_neg (by decide), if_neg (by decide), if_neg (by decide)]
        show ((f_X11_anew _ 68).bind _) = _
        rw [k3]
        rfl
  · refine Both_s h (r := iv (-2)) ?_ ?_
    · unfold f_X10_set f_X10_set_0 f_X10_set_11 f_X10_set_22 f_X10_set_19
      rw [r0_0, ho_of hJ.1 h8 sj, Option.bind_some, cmb_of sw sx]
      simp only [ob_0, Option.bind_some]
      by_cases g1 : 0 ≤ j ∧ j < y.1
      · rw [if_neg (fun q => q g1)]
        have g2 : ¬ ((0 ≤ w ∧ w < 4) ∧ loT w ≤ x ∧ x ≤ hiT w) := fun q => g ⟨g1, q⟩
        rw [if_neg g2, if_pos rfl, n_m2]
      · rw [if_pos g1, n_m2]
    · show f_X11_set _ 68 _ _ _ = _
      unfold f_X11_set f_X11_set_0 f_X11_set_8 f_X11_set_17 f_X11_set_28 f_X11_set_50 f_X11_set_65 f_X11_set_80 f_X11_set_70 f_X11_set_55 f_X11_set_40 f_X11_set_87 f_X11_set_25
      rw [ij_of hM sj, Option.bind_some]
      simp only [ob_0]
      by_cases g1 : 0 ≤ j ∧ j < y.1
      · rw [if_neg (fun q => q g1), show (3 : Int32) = iv 3 by decide, n_0, in_ob sw (sm_d 0) (sm_d 3), Option.bind_some, ← n_0]
        simp only [ob_0]
        by_cases g2 : 0 ≤ w ∧ w ≤ 3
        · rw [if_neg (fun q => q g2), mm_k sx (by omega), Option.bind_some]
          simp only [ob_0]
          rw [if_pos (fun q => g ⟨g1, by omega, q⟩), n_m2]
        · rw [if_pos g2, n_m2]
      · rw [if_pos g1, n_m2]
theorem va_cell (ho : kd o = 2) (hJ : z.1 o 1 = iv (n : Int)) (hn : n ≤ 8) {w : Nat} (hw : w < 4) {j : Nat} (hj : j < n) : f_X2_value z o (iv (w : Int)) (iv (j : Int)) = some (z, z.1 (rf (rf o 0) w) j) := by
  have sw : sm (w : Int) := sm_k (by omega)
  have sj : sm (j : Int) := sm_k (by omega)
  have sn : sm (n : Int) := sm_k (by omega)
  have i1 : inb (iv (w : Int)) 4 = true := inb_k hw (by decide)
  have i2 : inb (iv (j : Int)) 8 = true := inb_k (by omega) (by decide)
  have h4 : (4 ≤ iv (w : Int)) ↔ 4 ≤ (w : Int) := by
    rw [n_4]
    exact iv_kle sw 4
  unfold f_X2_value f_X2_value_0 f_X2_value_4 f_X2_value_13 f_X2_value_21 f_X2_value_32 f_X2_value_33
  simp only [iv_lt0 sw, h4, ho_of hJ hn sj, Option.bind_some, ob_0, i1, i2, if_true, tn (show w < 2147483648 by omega), tn (show j < 2147483648 by omega)]
  rw [if_neg (by omega), if_neg (by omega), if_neg (by omega)]
noncomputable def riZ (v : Nat → Nat → Int) (j w : Nat) (z : St) : Nat → St
  | 0 => z
  | k + 1 => zI (riZ v j w z k) (3 + w) (j + k) (iv (v w (j + k + 1)))
theorem riZ_v {j w : Nat} : ∀ k a b, (riZ v j w z k).1 a b = if a = 3 + w ∧ j ≤ b ∧ b < j + k then iv (v w (b + 1)) else z.1 a b
  | 0, a, b => by
    rw [if_neg (by omega)]
    rfl
  | k + 1, a, b => by
    show (zI (riZ v j w z k) (3 + w) (j + k) (iv (v w (j + k + 1)))).1 a b = _
    rw [rI, riZ_v k a b]
    by_cases e : a = 3 + w ∧ b = j + k
    · rw [if_pos e, if_pos (by omega), e.2]
    · rw [if_neg e]
      by_cases e2 : a = 3 + w ∧ j ≤ b ∧ b < j + k
      · rw [if_pos e2, if_pos (by omega)]
      · rw [if_neg e2, if_neg (by omega)]
theorem riZ_2 {j w : Nat} : ∀ k, (riZ v j w z k).2 = z.2
  | 0 => rfl
  | k + 1 => riZ_2 k
noncomputable def roZ (v : Nat → Nat → Int) (j n : Nat) (z : St) : Nat → St
  | 0 => z
  | w + 1 => riZ v j w (roZ v j n z w) (n - 1 - j)
theorem roZ_v {j : Nat} (hj : j < n) : ∀ w a b, (roZ v j n z w).1 a b = if 3 ≤ a ∧ a < 3 + w ∧ j ≤ b ∧ b < n - 1 then iv (v (a - 3) (b + 1)) else z.1 a b
  | 0, a, b => by
    rw [if_neg (by omega)]
    rfl
  | w + 1, a, b => by
    show (riZ v j w (roZ v j n z w) (n - 1 - j)).1 a b = _
    rw [riZ_v, roZ_v hj w a b]
    by_cases e : a = 3 + w ∧ j ≤ b ∧ b < j + (n - 1 - j)
    · rw [if_pos e, if_pos (by omega), show a - 3 = w by omega]
    · rw [if_neg e]
      by_cases e2 : 3 ≤ a ∧ a < 3 + w ∧ j ≤ b ∧ b < n - 1
      · rw [if_pos e2, if_pos (by omega)]
      · rw [if_neg e2, if_neg (by omega)]
theorem roZ_2 {j : Nat} : ∀ w, (roZ v j n z w).2 = z.2
  | 0 => rfl
  | w + 1 => by
    show (riZ v j w (roZ v j n z w) (n - 1 - j)).2 = _
    rw [riZ_2, roZ_2 w]
theorem r1_w {w : Nat} (hw : w < 4) : rf (rf 1 0) w = 3 + w := by
  rcases (show w = 0 ∨ w = 1 ∨ w = 2 ∨ w = 3 by omega) with rfl | rfl | rfl | rfl <;> decide
noncomputable def rmZ (v : Nat → Nat → Int) (j n : Nat) (z : St) : St := zI (roZ v j n z 4) 1 1 (iv ((n - 1 : Nat) : Int))
theorem rm_of (hJ : JD z 1 n v) {j : Nat} (hj : j < n) : f_X2_remove z 1 (iv (j : Int)) = some (rmZ v j n z) := by
  have h8 := hJ.2.1
  have hs : ∀ w, (roZ v j n z w).1 1 1 = iv (n : Int) := fun w => by
    rw [roZ_v hj, if_neg (by omega)]
    exact hJ.1
  unfold f_X2_remove f_X2_remove_0 f_X2_remove_9
  rw [ho_of hJ.1 h8 (sm_k (by omega)), Option.bind_some]
  show (if ob (0 ≤ (j : Int) ∧ (j : Int) < n) = 0 then _ else f_X2_remove_11 FU z 1 (iv (j : Int)) 0) = _
  rw [if_neg (by rw [ob_0]; omega)]
  refine loop_up (n := 4) (fun F w b => f_X2_remove_11 F b 1 (iv (j : Int)) (iv (w : Int))) (roZ v j n z) (fun F => ?_) (fun F w hw => ?_) 4 0 FU (by omega) (FU_8 (by decide))
  · show f_X2_remove_11 _ _ _ _ _ = _
    rw [f_X2_remove_11, if_pos (by decide)]
    unfold f_X2_remove_58 rmZ
    rw [hs 4, n_1, iv_sub, show ((n : Int) - 1) = ((n - 1 : Nat) : Int) by omega]
  · show f_X2_remove_11 _ _ _ _ _ = f_X2_remove_11 F (riZ v j w (roZ v j n z w) (n - 1 - j)) 1 (iv (j : Int)) (iv ((w + 1 : Nat) : Int))
    rw [f_X2_remove_11, if_neg (fun x => by
      rw [n_4] at x
      have := (iv_kle (sm_k (show w < 2147483648 by omega)) 4).mp x
      omega)]
    unfold f_X2_remove_20
    have hr : ∀ k, (riZ v j w (roZ v j n z w) k).1 1 1 = iv (n : Int) := fun k => by
      rw [riZ_v, if_neg (by omega)]
      exact hs w
    refine loop_up (n := n - 1 - j) (fun F' k b => f_X2_remove_22 (f_X2_remove_11 F) F' b 1 (iv (j : Int)) (iv (w : Int)) (iv ((j + k : Nat) : Int))) (riZ v j w (roZ v j n z w)) (fun F' => ?_) (fun F' k hk => ?_) (n - 1 - j) 0 FU (by omega) (FU_8 (by omega))
    · show f_X2_remove_22 _ _ _ _ _ _ _ = _
      rw [f_X2_remove_22, hr, n_1, iv_sub, if_pos ((iv_le ⟨by omega, by omega⟩ (sm_k (by omega))).mpr (by omega))]
      unfold f_X2_remove_52
      rw [iv_s]
    · show f_X2_remove_22 _ _ _ _ _ _ _ = f_X2_remove_22 (f_X2_remove_11 F) F' (zI (riZ v j w (roZ v j n z w) k) (3 + w) (j + k) (iv (v w (j + k + 1)))) 1 (iv (j : Int)) (iv (w : Int)) (iv ((j + (k + 1) : Nat) : Int))
      rw [f_X2_remove_22, hr, n_1, iv_sub, if_neg (fun q => by have := (iv_le ⟨by omega, by omega⟩ (sm_k (by omega))).mp q; omega)]
      unfold f_X2_remove_32
      have e0 : (riZ v j w (roZ v j n z w) k).1 (3 + w) (j + k + 1) = iv (v w (j + k + 1)) := by
        rw [riZ_v, if_neg (by omega), roZ_v hj, if_neg (by omega)]
        have := hJ.2.2 w hw (j + k + 1) (by omega)
        rw [r1_w hw] at this
        exact this
      rw [iv_s, va_cell (o := 1) (by decide) (hr k) h8 hw (show j + k + 1 < n by omega), Option.bind_some, r1_w hw, e0]
      show ((f_X2_change _ 1 _ _ (iv (v w (j + k + 1)))).bind _) = _
      rw [ch_set (o := 1) (by decide) (hr k) h8 hw (show j + k < n by omega), Option.bind_some, r1_w hw]
      rfl
theorem rmZ_JD (hJ : JD z 1 n v) {j : Nat} (hj : j < n) : JD (rmZ v j n z) 1 (n - 1) (vD v j) := by
  have h8 := hJ.2.1
  refine ⟨?_, by omega, fun w hw b hb => ?_⟩
  · unfold rmZ
    rw [rI, if_pos ⟨rfl, rfl⟩]
  · unfold rmZ vD
    rw [r1_w hw, zI_n (by omega), roZ_v hj]
    have := hJ.2.2 w hw b (by omega)
    rw [r1_w hw] at this
    by_cases e : b < j
    · rw [if_neg (by omega), if_pos e, this]
    · rw [if_pos (by omega), if_neg e, show 3 + w - 3 = w by omega]
theorem rmZ_fr {j : Nat} (hj : j < n) : Fr (fun a => 1 ≤ a ∧ a ≤ 6) z (rmZ v j n z) := fun a ha => by
  unfold rmZ
  refine ⟨?_, ?_⟩
  · rw [zI_n (by omega)]
    funext b
    rw [roZ_v hj, if_neg (by omega)]
  · show (roZ v j n z 4).2 a = _
    rw [roZ_2]
theorem JV_D (hV : JV n v) {j : Nat} (hj : j < n) : JV (n - 1) (vD v j) := fun k hk => by
  unfold vD
  by_cases e : k < j
  · simp only [e, if_true]
    exact hV k (by omega)
  · simp only [e, if_false]
    exact hV (k + 1) (by omega)
noncomputable def dmZ (v : Nat → Nat → Int) (j : Nat) (z : St) : Nat → St
  | 0 => z
  | k + 1 => zI (zI (zI (zI (dmZ v j z k) 69 (j + k) (iv (v 0 (j + k + 1)))) 70 (j + k) (iv (v 1 (j + k + 1)))) 71 (j + k) (iv (v 2 (j + k + 1)))) 72 (j + k) (iv (v 3 (j + k + 1)))
theorem dmZ_v {j : Nat} : ∀ k a b, (dmZ v j z k).1 a b = if 69 ≤ a ∧ a ≤ 72 ∧ j ≤ b ∧ b < j + k then iv (v (a - 69) (b + 1)) else z.1 a b
  | 0, a, b => by
    rw [if_neg (by omega)]
    rfl
  | k + 1, a, b => by
    show (zI (zI (zI (zI (dmZ v j z k) 69 (j + k) (iv (v 0 (j + k + 1)))) 70 (j + k) (iv (v 1 (j + k + 1)))) 71 (j + k) (iv (v 2 (j + k + 1)))) 72 (j + k) (iv (v 3 (j + k + 1)))).1 a b = _
    rw [rI, rI, rI, rI, dmZ_v k a b]
    by_cases e : b = j + k
    · subst e
      by_cases q : 69 ≤ a ∧ a ≤ 72
      · rw [if_pos (show 69 ≤ a ∧ a ≤ 72 ∧ j ≤ j + k ∧ j + k < j + (k + 1) by omega)]
        rcases (show a = 69 ∨ a = 70 ∨ a = 71 ∨ a = 72 by omega) with rfl | rfl | rfl | rfl <;> simp
      · rw [if_neg (by omega), if_neg (by omega), if_neg (by omega), if_neg (by omega), if_neg (by omega), if_neg (by omega)]
    · rw [if_neg (by omega), if_neg (by omega), if_neg (by omega), if_neg (by omega)]
      by_cases e2 : 69 ≤ a ∧ a ≤ 72 ∧ j ≤ b ∧ b < j + k
      · rw [if_pos e2, if_pos (by omega)]
      · rw [if_neg e2, if_neg (by omega)]
theorem dmZ_2 {j : Nat} : ∀ k, (dmZ v j z k).2 = z.2
  | 0 => rfl
  | k + 1 => dmZ_2 k
end TOLD2
