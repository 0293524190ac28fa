/-! FILM -/
def fsh (s : Sh) (i : Nat) (b : Nat → Int) : Nat → Sh
  | 0 => s
  | k + 1 => shW (fsh s i b k) i k (Int32.toInt64 (iv (b k)))
section FILM
variable {z : St} {n i : Nat} {y : Ly} {s : Sh} {b : Nat → Int} {sy : Sy}
theorem fsh_1 : ∀ k, (fsh s i b k).1 = s.1 ∧ (fsh s i b k).2.1 = s.2.1
  | 0 => ⟨rfl, rfl⟩
  | k + 1 => fsh_1 k
theorem wv_0 {x : Int} (h : x = 0) (v : Int64) : wv x v = v := by
  unfold wv
  rw [h, if_neg (by decide)]
theorem wr_c (h : CS z s) (hV : ShV s) (hi : i < 4) (h0 : s.1 i = 0) {x : Nat} (hx : x < s.2.1 i) {v : Int64} : f_X7_write z (60 + 2 * i) (iv (x : Int)) v = some (zL z (61 + 2 * i) x v) := by
  have b40 := (hV i hi).2.1
  unfold f_X7_write f_X7_write_0
  rw [hs_c h hV hi (sm_k (by omega)), Option.bind_some]
  show (if ob (0 ≤ (x : Int) ∧ (x : Int) < (s.2.1 i : Int)) = 0 then _ else _) = _
  rw [if_neg (fun e => ob_0.mp e ⟨by omega, by omega⟩)]
  unfold f_X7_write_8
  rw [(h i hi).1, h0, if_neg (by decide)]
  unfold f_X7_write_27 f_X7_write_28 f_X7_write_29
  rw [if_pos (inb_k (by omega) (by decide)), tn (by omega), (shA i hi).2]
theorem fl_c (hn : n ≤ 8) (hY : LY z 33 n y) (hW : WY n y) (hm : ∀ j, j < n → Nat.testBit y.2.1 j = true) (h1 : z.1 1 1 = iv (n : Int)) (hC : CS z s) (hV : ShV s) (hi : i < 4) (h0 : s.1 i = 0) (hs : s.2.1 i = n) : ∃ z', f_X10_film_51 FU z 0 (60 + 2 * i) 0 = some (z', iv (n : Int)) ∧ CS z' (fsh s i y.2.2.2.1 n) ∧ Fr (fun a => 60 ≤ a ∧ a ≤ 67) z z' ∧ z'.1 = z.1 := by
  have lp : ∀ (d k F : Nat) (z1 : St), k + d = n → d < F → CS z1 (fsh s i y.2.2.2.1 k) → Fr (fun a => 60 ≤ a ∧ a ≤ 67) z z1 → z1.1 = z.1 → ∃ z', f_X10_film_51 F z1 0 (60 + 2 * i) (iv (k : Int)) = some (z', iv (n : Int)) ∧ CS z' (fsh s i y.2.2.2.1 n) ∧ Fr (fun a => 60 ≤ a ∧ a ≤ 67) z z' ∧ z'.1 = z.1 := by
    intro d
    induction d with
    | zero =>
      intro k F z1 hk hF c1 f1 e1
      obtain ⟨F, rfl⟩ : ∃ G, F = G + 1 := ⟨F - 1, by omega⟩
      have : k = n := by omega
      rw [this] at c1
      refine ⟨z1, ?_, c1, f1, e1⟩
      rw [f_X10_film_51, r0_0, e1, h1, this, if_pos sz_t]
      unfold f_X10_film_82
      rw [r0_0, e1, h1]
    | succ d ih =>
      intro k F z1 hk hF c1 f1 e1
      obtain ⟨F, rfl⟩ : ∃ G, F = G + 1 := ⟨F - 1, by omega⟩
      have kn : k < n := by omega
      have hY1 : LY z1 33 n y := by
        unfold LY at hY ⊢
        rw [e1]
        exact hY
      have hs1 := fsh_1 (s := s) (i := i) (b := y.2.2.2.1) k
      have V1 : ShV (fsh s i y.2.2.2.1 k) := fun a ha => by
        have := hV a ha
        rw [hs1.1, hs1.2]
        exact this
      have bg := bg_of (o := 33) hn hY1 hW (x := (k : Int)) (sm_k (by omega))
      rw [gt_in (by omega) (hm k kn)] at bg
      have wr := wr_c (z := z1) c1 V1 hi (by rw [hs1.1]; exact h0) (x := k) (by rw [hs1.2, hs]; exact kn) (v := Int32.toInt64 (iv (y.2.2.2.1 k)))
      have cw := CS_w c1 hi (x := k) (by omega) (v := Int32.toInt64 (iv (y.2.2.2.1 k)))
      rw [wv_0 (by rw [hs1.1]; exact h0)] at cw
      have st : f_X10_film_51 (F + 1) z1 0 (60 + 2 * i) (iv (k : Int)) = f_X10_film_51 F (zL z1 (61 + 2 * i) k (Int32.toInt64 (iv (y.2.2.2.1 k)))) 0 (60 + 2 * i) (iv ((k + 1 : Nat) : Int)) := by
        rw [f_X10_film_51, r0_0, e1, h1, if_neg (sz_f kn (by omega))]
        unfold f_X10_film_62
        rw [r0_7, bg, Option.bind_some]
        show ((f_X7_write z1 (60 + 2 * i) (iv (k : Int)) (Int32.toInt64 (iv (y.2.2.2.1 k)))).bind _) = _
        rw [wr, Option.bind_some, iv_s]
      rw [st]
      exact ih (k + 1) F _ (by omega) (by omega) cw (f1.zL (by omega)) (by rw [rL1]; exact e1)
  exact lp n 0 FU z (by omega) (FU_8 (by omega)) hC Fr.refl rfl
theorem fl_m (hn : n ≤ 8) (h5 : z.1 68 5 = iv (n : Int)) (h93 : ∀ j, j < n → z.1 93 j = iv (b j)) (hM : MS z s) (hi : i < 4) (h0 : s.1 i = 0) : ∃ z', f_X11_film_27 FU z 68 (iv (i : Int)) 0 = some (z', iv (n : Int)) ∧ MS z' (fsh s i b n) ∧ Fr (fun a => 96 ≤ a) z z' ∧ z'.1 = z.1 := by
  have lp : ∀ (d k F : Nat) (z1 : St), k + d = n → d < F → MS z1 (fsh s i b k) → Fr (fun a => 96 ≤ a) z z1 → z1.1 = z.1 → ∃ z', f_X11_film_27 F z1 68 (iv (i : Int)) (iv (k : Int)) = some (z', iv (n : Int)) ∧ MS z' (fsh s i b n) ∧ Fr (fun a => 96 ≤ a) z z' ∧ z'.1 = z.1 := by
    intro d
    induction d with
    | zero =>
      intro k F z1 hk hF c1 f1 e1
      obtain ⟨F, rfl⟩ : ∃ G, F = G + 1 := ⟨F - 1, by omega⟩
      have : k = n := by omega
      rw [this] at c1
      refine ⟨z1, ?_, c1, f1, e1⟩
      rw [f_X11_film_27, e1, h5, this, if_pos sz_t]
      unfold f_X11_film_59
      rw [e1, h5]
    | succ d ih =>
      intro k F z1 hk hF c1 f1 e1
      obtain ⟨F, rfl⟩ : ∃ G, F = G + 1 := ⟨F - 1, by omega⟩
      have kn : k < n := by omega
      have hs1 := fsh_1 (s := s) (i := i) (b := b) k
      have cw := MS_w c1 hi (x := k) (by omega) (v := Int32.toInt64 (iv (b k)))
      rw [wv_0 (by rw [hs1.1]; exact h0)] at cw
      have e : (40 : Int32) * iv (i : Int) + iv (k : Int) = iv ((40 * i + k : Nat) : Int) := by
        rw [show (40 : Int32) = iv 40 by decide, iv_mul, iv_add]
        congr 1
      have st : f_X11_film_27 (F + 1) z1 68 (iv (i : Int)) (iv (k : Int)) = f_X11_film_27 F (zL z1 98 (40 * i + k) (Int32.toInt64 (iv (b k)))) 68 (iv (i : Int)) (iv ((k + 1 : Nat) : Int)) := by
        rw [f_X11_film_27, e1, h5, if_neg (sz_f kn (by omega))]
        unfold f_X11_film_35
        rw [e, if_pos (inb_k (by omega) (by decide)), if_pos (inb_k (show 40 * i + k < 160 by omega) (by decide)), tn (by omega), tn (by omega), r68_42, r68_56, e1, h93 k kn, iv_s]
      rw [st]
      exact ih (k + 1) F _ (by omega) (by omega) cw (f1.zL (by omega)) (by rw [rL1]; exact e1)
  exact lp n 0 FU z (by omega) (FU_8 (by omega)) hM Fr.refl rfl
theorem s_film (h : INV z sy) (a : Int32) : Both (f_X10_film z 0 a) (fun z => f_X11_film z 68 a) := by
  obtain ⟨x, sx, rfl⟩ := ex_iv a
  have h8 := h.1.1.2.1
  by_cases g : 0 ≤ x ∧ x < 4
  · obtain ⟨i, rfl⟩ : ∃ i : Nat, x = i := ⟨x.toNat, by omega⟩
    have hi : i < 4 := by omega
    have hb := BD_I h.2.2.1
    have hB := BD_O h.2.2.1
    obtain ⟨s1, s2, -⟩ := SR_ok h8 hb
    obtain ⟨z1, k1, k2, k3, k4, k5, k6⟩ := kl_of h
    obtain ⟨L, hL⟩ : ∃ L, L = (SR (cmO sy.2.1) (tkO sy.2.1) (clO sy.2.1) sy.1).1 := ⟨_, rfl⟩
    unfold LKN at k4
    rw [← hL] at k4 s1 s2
    have lf := lf_of k2.1.2.1 hB (lim := L) ⟨s1.1, by omega⟩ s2 k4.2.2.2.1 k4.2.2.2.2.1 (fun s hs => (k4.2.2.2.2.2 s hs).2)
    obtain ⟨z2, hz2⟩ : ∃ z2, z2 = foZ (cmO sy.2.1) (tkO sy.2.1) (clO sy.2.1) sy.1 L z1 sy.1 := ⟨_, rfl⟩
    have hY := foZ_LY (z := z1) hB h8 (lim := L) (by omega) s2 sy.1 (Nat.le_refl _)
    have f2 : Fr (own 33) z1 z2 := by
      rw [hz2]
      exact foZ_fr _
    rw [← hz2] at lf hY
    have hW := (fo_inv hB h8 (lim := L) (by omega) s2 sy.1 (Nat.le_refl _))
    have hm := fun j (hj : j < sy.1) => cb_all sy.1 hW.2.1 j hj
    obtain ⟨Y, hYe⟩ : ∃ Y, Y = fo (cmO sy.2.1) (tkO sy.2.1) (clO sy.2.1) sy.1 L sy.1 := ⟨_, rfl⟩
    rw [← hYe] at hY hW hm
    have I2 : INV z2 sy := INV_c k2 (f2.mono (fun a e => by have := own_rng (o := 33) (Or.inl (by decide)) e; unfold sC; omega))
    have hC := I2.1.2.2.2.2.2.1
    have hV := I2.2.2.2.2.2.2
    -- the sheet anew
    obtain ⟨S0, hS0⟩ : ∃ S0, S0 = shN sy.2.2.2.2.2 i 0 sy.1 := ⟨_, rfl⟩
    have V0 : ShV S0 := by
      rw [hS0]
      exact ShV_n hV (by decide) (by omega) (fun e => absurd e (by decide))
    have e0 : S0.1 i = 0 := by
      rw [hS0]
      exact up_eq
    have e1 : S0.2.1 i = sy.1 := by
      rw [hS0]
      exact up_eqN
    have C3 : CS (bcZ z2 i 0 sy.1) S0 := by
      rw [hS0]
      exact CS_n hC hi
    have f3 := bc_fr (z := z2) hi (so := 0) (n := sy.1)
    obtain ⟨z3, hz3⟩ : ∃ z3, z3 = bcZ z2 i 0 sy.1 := ⟨_, rfl⟩
    rw [← hz3] at C3 f3
    have hY3 : LY z3 33 sy.1 Y := LY_fr hY (fun a e => by
      have := own_rng (o := 33) (Or.inl (by decide)) e
      exact (f3 a (by omega)).1)
    obtain ⟨z4, c1, c2, c3, c4⟩ := fl_c h8 hY3 hW.1 hm (by rw [(f3 1 (by decide)).1]; exact I2.1.1.1) C3 V0 hi e0 e1
    have f4 : Fr (fun a => 60 ≤ a ∧ a ≤ 67) z2 z4 := f3.trans c3
    have X4 : XC z4 (ySh sy (fsh S0 i Y.2.2.2.1 sy.1)) := XC_s I2.1 f4 c2
    have M4 : XM z4 sy := XM_c I2.2.1 (f4.mono (fun a e => by omega))
    -- the model
    have M5 := MS_n M4.2.2.2.2 (i := i) (so := 0) (n := sy.1)
    rw [← hS0] at M5
    have f5 := ms_fr (z := z4) (i := i) (so := 0) (n := sy.1)
    have sh5 : f_X11_sheet z4 68 (iv (i : Int)) 0 (z4.1 68 5) = some (msZ z4 i 0 sy.1, 1) := by
      rw [M4.1.1, n_0, sheet_m (sm_k (by omega)) (sm_d 0) (sm_k (by omega))]
      unfold shR
      rw [if_pos ⟨g, by decide⟩, if_neg (by decide), if_neg (by omega), if_neg (by omega)]
      rfl
    obtain ⟨z5, hz5⟩ : ∃ z5, z5 = msZ z4 i 0 sy.1 := ⟨_, rfl⟩
    rw [← hz5] at M5 f5 sh5
    have X5 : XM z5 (ySh sy S0) := XM_s M4 f5 M5
    obtain ⟨z6, m1, m2, m3, m4, m5, m6⟩ := fom_of X5.1 h.2.2.1
    have m3 : ∀ j, j < sy.1 → z6.1 93 j = iv (Y.2.2.2.1 j) := by
      rw [hYe, hL]
      exact m3
    have X6 : XM z6 (ySh sy S0) := XM_fr X5 (fun a e1 e2 => m5 a (fun w => by rcases w with w | w; exact e2 w; omega)) m6
    obtain ⟨z7, q1, q2, q3, q4⟩ := fl_m h8 (b := Y.2.2.2.1) m4 m3 X6.2.2.2.2 hi e0
    have X7 : XM z7 (ySh (ySh sy S0) (fsh S0 i Y.2.2.2.1 sy.1)) := XM_s X6 q3 q2
    have fM : Fr (fun a => 68 ≤ a) z4 z7 := ((f5.mono (Q := fun a => 68 ≤ a) (fun a e => by omega)).trans (m5.mono (fun a e => by unfold sM at e; omega))).trans (q3.mono (fun a e => by omega))
    refine ⟨z4, z7, iv (sy.1 : Int), ?_, ?_, ySh sy (fsh S0 i Y.2.2.2.1 sy.1), XC_m X4 fM, X7, h.2.2.1, h.2.2.2.1, h.2.2.2.2.1, h.2.2.2.2.2.1, fun a ha => ?_⟩
    · unfold f_X10_film f_X10_film_0
      rw [is_c sx, Option.bind_some]
      show (if ob (0 ≤ (i : Int) ∧ (i : Int) < 4) = 0 then _ else _) = _
      rw [if_neg (fun e => ob_0.mp e g)]
      unfold f_X10_film_11
      show ((f_X10_knowLeast z 0).bind _) = _
      rw [k1, Option.bind_some, r0_11, r0_4, r0_7, lf, Option.bind_some, if_pos (inb4 hi), r0_13, tn (by omega), (shA i hi).1, r0_0, I2.1.1.1, n_0, become_c hi (by omega), Option.bind_some, ← hz3, ← n_0]
      exact c1
    · show f_X11_film z4 68 (iv (i : Int)) = _
      unfold f_X11_film f_X11_film_0
      rw [is_m sx, Option.bind_some]
      show (if ob (0 ≤ (i : Int) ∧ (i : Int) < 4) = 0 then _ else _) = _
      rw [if_neg (fun e => ob_0.mp e g)]
      unfold f_X11_film_10
      show ((f_X11_sheet z4 68 (iv (i : Int)) 0 (z4.1 68 5)).bind _) = _
      rw [sh5, Option.bind_some]
      show ((f_X11_firstOrder z5 68).bind _) = _
      rw [m1, Option.bind_some]
      exact q1
    · have hs1 := fsh_1 (s := S0) (i := i) (b := Y.2.2.2.1) sy.1
      have := V0 a ha
      show (-1 ≤ (fsh S0 i Y.2.2.2.1 sy.1).1 a ∧ (fsh S0 i Y.2.2.2.1 sy.1).1 a ≤ 1) ∧ (fsh S0 i Y.2.2.2.1 sy.1).2.1 a ≤ 40 ∧ ((fsh S0 i Y.2.2.2.1 sy.1).1 a = -1 → (fsh S0 i Y.2.2.2.1 sy.1).2.1 a = 0)
      rw [hs1.1, hs1.2]
      exact this
  · refine Both_s h (r := iv (-2)) ?_ ?_
    · unfold f_X10_film f_X10_film_0
      rw [is_c sx, Option.bind_some]
      show (if ob (0 ≤ x ∧ x < 4) = 0 then _ else _) = _
      rw [if_pos (ob_0.mpr g)]
      rfl
    · show f_X11_film z 68 (iv x) = _
      unfold f_X11_film f_X11_film_0
      rw [is_m sx, Option.bind_some]
      show (if ob (0 ≤ x ∧ x < 4) = 0 then _ else _) = _
      rw [if_pos (ob_0.mpr g)]
      rfl
end FILM
