/-! SHEETS: put, item -/
theorem rL {z : St} {a k b j : Nat} {v : Int64} : (zL z a k v).2 b j = if b = a ∧ j = k then v else z.2 b j := by
  show (if b = a then vp_updL (z.2 b) k v else z.2 b) j = _
  by_cases e : b = a
  · rw [if_pos e]
    unfold vp_updL
    by_cases e2 : j = k
    · rw [if_pos e2, if_pos ⟨e, e2⟩]
    · rw [if_neg e2, if_neg (fun x => e2 x.2)]
  · rw [if_neg e, if_neg (fun x => e x.1)]
theorem rL1 {z : St} {a k : Nat} {v : Int64} : (zL z a k v).1 = z.1 := rfl
theorem Fr.zL {P : Nat → Prop} {z z' : St} (h : Fr P z z') {o k : Nat} {v : Int64} (ho : P o) : Fr P z (zL z' o k v) := fun a ha => by
  have e : a ≠ o := fun x => ha (x ▸ ho)
  refine ⟨(h a ha).1, ?_⟩
  show (if a = o then vp_updL (z'.2 a) k v else z'.2 a) = _
  rw [if_neg e]
  exact (h a ha).2
def ySh (y : Sy) (s : Sh) : Sy := (y.1, y.2.1, y.2.2.1, y.2.2.2.1, y.2.2.2.2.1, s)
theorem XC_s {z z' : St} {y : Sy} {s : Sh} (h : XC z y) (hf : Fr (fun a => 60 ≤ a ∧ a ≤ 67) z z') (hs : CS z' s) : XC z' (ySh y s) := by
  have g : ∀ a, a < 60 → z'.1 a = z.1 a := fun a e => (hf a (by omega)).1
  obtain ⟨h1, h2, h3, h4, h5, h6, h7⟩ := h
  refine ⟨JD_fr (by decide) h1 (fun a e1 e2 => g a (by omega)), LD_fr h2 (fun a ha => g a ?_), CKe_fr h3 (by rw [g 0 (by decide)]) (fun a e1 e2 => g a (by omega)), CT_fr h4 (by rw [g 19 (by decide)]) (g 20 (by decide)), CB_fr h5 (g 57 (by decide)) (g 58 (by decide)), hs, CL_fr h7 (g 0 (by decide)) (fun a e1 e2 => g a (by omega))⟩
  have := own_rng (o := 21) (Or.inr (by decide)) ha
  omega
theorem XM_s {z z' : St} {y : Sy} {s : Sh} (h : XM z y) (hf : Fr (fun a => 96 ≤ a) z z') (hs : MS z' s) : XM z' (ySh y s) := by
  have g : ∀ a, a < 96 → z'.1 a = z.1 a := fun a e => (hf a (by omega)).1
  obtain ⟨h1, h2, h3, h4, h5⟩ := h
  exact ⟨MJ_fr h1 (by rw [g 68 (by decide)]) (fun a e1 e2 => g a (by omega)), MKe_fr h2 (by rw [g 68 (by decide)]) (g 95 (by decide)), MT_fr h3 (by rw [g 68 (by decide)]) (g 73 (by decide)), MB_fr h4 (fun k e1 e2 => by rw [g 68 (by decide)]) (g 94 (by decide)), hs⟩
theorem shA : ∀ i : Nat, i < 4 → rf 59 i = 60 + 2 * i ∧ rf (60 + 2 * i) 0 = 61 + 2 * i := by decide
def wv (srt : Int) (v : Int64) : Int64 := if srt = 1 then Int32.toInt64 (Int64.toInt32 v) else v
def shW (s : Sh) (i x : Nat) (v : Int64) : Sh := (s.1, s.2.1, fun a b => if a = i ∧ b = x then wv (s.1 i) v else s.2.2 a b)
theorem n_m11 : ((-11) : Int32) = iv (-11) := by decide
theorem n_m12 : ((-12) : Int32) = iv (-12) := by decide
theorem n_m14 : ((-14) : Int32) = iv (-14) := by decide
section SHEETS
variable {z : St} {y : Sy} {s : Sh}
theorem is_c {i : Int} (si : sm i) : f_X10_isSheet z 0 (iv i) = some (z, ob (0 ≤ i ∧ i < 4)) := by
  unfold f_X10_isSheet f_X10_isSheet_0 f_X10_isSheet_4 f_X10_isSheet_13 f_X10_isSheet_26 f_X10_isSheet_27 ob
  rw [n_4]
  simp only [iv_lt0 si, iv_kle si 4, iv_inb si, zb_0, zb_1, if_true]
  grind
theorem is_m {i : Int} (si : sm i) : f_X11_isSheet z (iv i) = some (z, ob (0 ≤ i ∧ i < 4)) := by
  unfold f_X11_isSheet f_X11_isSheet_0
  rw [show (3 : Int32) = iv 3 by decide, n_0, in_ob si (sm_d 0) (sm_d 3), Option.bind_some]
  show (if zb (ob (0 ≤ i ∧ i ≤ 3)) = true then _ else _) = _
  rw [if_pos zb_ob]
  have e : (0 ≤ i ∧ i ≤ 3) ↔ (0 ≤ i ∧ i < 4) := by omega
  simp only [e]
theorem mi_c (h : CS z s) (hV : ShV s) {i : Nat} (hi : i < 4) : f_X7_isMissing z (60 + 2 * i) = some (z, ob (s.1 i = -1)) := by
  have b := hV i hi
  unfold f_X7_isMissing f_X7_isMissing_0 f_X7_isMissing_12 f_X7_isMissing_8 f_X7_isMissing_13 ob
  rw [(h i hi).1, n_m1]
  simp only [iv_eqk (show sm (s.1 i) from ⟨by omega, by omega⟩) (-1), zb_0, zb_1, if_true]
  grind
theorem hs_c (h : CS z s) (hV : ShV s) {i : Nat} (hi : i < 4) {x : Int} (sx : sm x) : f_X7_holds z (60 + 2 * i) (iv x) = some (z, ob (0 ≤ x ∧ x < s.2.1 i)) := by
  have b := (hV i hi).2.1
  unfold f_X7_holds f_X7_holds_0 f_X7_holds_4 f_X7_holds_12 f_X7_holds_21 f_X7_holds_25 f_X7_holds_26 ob
  rw [(h i hi).2.1, show (40 : Int32) = iv 40 by decide]
  simp only [iv_lt0 sx, iv_kle sx 40, iv_le (sm_k (show s.2.1 i < 2147483648 by omega)) sx, zb_0, zb_1, if_true]
  grind
theorem inb4 {i : Nat} (h : i < 4) : inb (iv (i : Int)) 4 = true := inb_k h (by decide)
theorem tn {i : Nat} (h : i < 2147483648) : (iv (i : Int)).toNatClampNeg = i := iv_natN h
theorem MS_at (h : MS z s) (hV : ShV s) {i : Nat} (hi : i < 4) : z.1 96 i = iv (s.1 i) ∧ z.1 97 i = iv (s.2.1 i : Int) ∧ (0 ≤ iv (s.1 i) ↔ s.1 i ≠ -1) ∧ ((iv (s.1 i) < 0) ↔ s.1 i = -1) ∧ ((iv (s.1 i) = 1) ↔ s.1 i = 1) ∧ iv (s.2.1 i : Int) - 1 = iv ((s.2.1 i : Int) - 1) := by
  have b := hV i hi
  have sb : sm (s.1 i) := ⟨by omega, by omega⟩
  refine ⟨(h i hi).1, (h i hi).2.1, ?_, ?_, ?_, ?_⟩
  · rw [iv_ge0 sb]
    omega
  · rw [iv_lt0 sb]
    omega
  · rw [n_1]
    exact iv_eqk sb 1
  · rw [n_1, iv_sub]
theorem item_c (h : CS z s) (hV : ShV s) {i x : Int} (si : sm i) (sx : sm x) : f_X10_item z 0 (iv i) (iv x) = some (z, if (0 ≤ i ∧ i < 4) ∧ (0 ≤ x ∧ x < s.2.1 i.toNat) then s.2.2 i.toNat x.toNat else -4611686018427387904) := by
  unfold f_X10_item f_X10_item_0 f_X10_item_8 f_X10_item_25 f_X10_item_21
  rw [is_c si, Option.bind_some]
  by_cases hi : 0 ≤ i ∧ i < 4
  · obtain ⟨k, rfl⟩ : ∃ k : Nat, i = k := ⟨i.toNat, by omega⟩
    have hk : k < 4 := by omega
    have b := (hV k hk).2.1
    simp only [ob_0, hi, not_true_eq_false, if_false, true_and, and_self, inb4 hk, if_true, tn (show k < 2147483648 by omega), r0_13, (shA k hk).1, hs_c h hV hk sx, Option.bind_some, Int.toNat_natCast]
    by_cases hx : 0 ≤ x ∧ x < s.2.1 k
    · obtain ⟨u, rfl⟩ : ∃ u : Nat, x = u := ⟨x.toNat, by omega⟩
      have hu : u < 40 := by omega
      unfold f_X7_read f_X7_read_0 f_X7_read_8 f_X7_read_17 f_X7_read_20
      simp only [hs_c h hV hk sx, Option.bind_some, ob_0, hx, not_true_eq_false, if_false, and_self, if_true, inb_k hu (show 40 < 2147483648 by decide), (shA k hk).2, (h k hk).2.2 u hu, tn (show u < 2147483648 by omega), Int.toNat_natCast]
    · simp only [hx, not_false_eq_true, if_true, if_false]
  · simp only [ob_0, hi, not_false_eq_true, if_true, false_and, if_false]
theorem item_m (h : MS z s) (hV : ShV s) {i x : Int} (si : sm i) (sx : sm x) : f_X11_item_ z 68 (iv i) (iv x) = some (z, if (0 ≤ i ∧ i < 4) ∧ (0 ≤ x ∧ x < s.2.1 i.toNat) then s.2.2 i.toNat x.toNat else -4611686018427387904) := by
  unfold f_X11_item_ f_X11_item__0 f_X11_item__7 f_X11_item__16 f_X11_item__32 f_X11_item__46 f_X11_item__49
  rw [is_m si, Option.bind_some]
  by_cases hi : 0 ≤ i ∧ i < 4
  · obtain ⟨k, rfl⟩ : ∃ k : Nat, i = k := ⟨i.toNat, by omega⟩
    have hk : k < 4 := by omega
    have b := (hV k hk)
    obtain ⟨m1, m2, m3, m4, m5, m6⟩ := MS_at h hV hk
    simp only [ob_0, hi, not_true_eq_false, if_false, true_and, and_self, inb4 hk, if_true, tn (show k < 2147483648 by omega), r68_54, r68_55, r68_56, m1, m2, m4, m6, Int.toNat_natCast]
    rw [n_0, in_ob sx (sm_d 0) ⟨by omega, by omega⟩, Option.bind_some, ← n_0]
    simp only [ob_0]
    by_cases g : s.1 k = -1
    · have z0 := b.2.2 g
      rw [if_pos g, if_neg (by omega)]
    · rw [if_neg g]
      by_cases hx : 0 ≤ x ∧ x < s.2.1 k
      · obtain ⟨u, rfl⟩ : ∃ u : Nat, x = u := ⟨x.toNat, by omega⟩
        have hu : u < 40 := by omega
        have e : (40 : Int32) * iv (k : Int) + iv (u : Int) = iv ((40 * k + u : Nat) : Int) := by
          rw [show (40 : Int32) = iv 40 by decide, iv_mul, iv_add]
          congr 1
        rw [if_neg (by omega), if_pos hx, e, inb_k (show 40 * k + u < 160 by omega) (by decide), if_pos rfl, tn (by omega), (h k hk).2.2 u hu]
        rfl
      · rw [if_pos (by omega), if_neg hx]
  · simp only [ob_0, hi, not_false_eq_true, if_true, false_and, if_false]
theorem s_item (h : INV z y) (a b : Int32) : Both (f_X10_item z 0 a b) (fun z => f_X11_item_ z 68 a b) := by
  obtain ⟨i, si, rfl⟩ := ex_iv a
  obtain ⟨x, sx, rfl⟩ := ex_iv b
  exact Both_s h (item_c h.1.2.2.2.2.2.1 h.2.2.2.2.2.2 si sx) (item_m h.2.1.2.2.2.2 h.2.2.2.2.2.2 si sx)
theorem CS_w (h : CS z s) {i x : Nat} (hi : i < 4) (hx : x < 40) {v : Int64} : CS (zL z (61 + 2 * i) x (wv (s.1 i) v)) (shW s i x v) := fun k hk => by
  refine ⟨(h k hk).1, (h k hk).2.1, fun j hj => ?_⟩
  rw [rL, (h k hk).2.2 j hj]
  show _ = if k = i ∧ j = x then _ else _
  have e : (61 + 2 * k = 61 + 2 * i ∧ j = x) ↔ (k = i ∧ j = x) := by omega
  simp only [e]
theorem MS_w (h : MS z s) {i x : Nat} (hi : i < 4) (hx : x < 40) {v : Int64} : MS (zL z 98 (40 * i + x) (wv (s.1 i) v)) (shW s i x v) := fun k hk => by
  refine ⟨(h k hk).1, (h k hk).2.1, fun j hj => ?_⟩
  rw [rL, (h k hk).2.2 j hj]
  show _ = if k = i ∧ j = x then _ else _
  have e : (40 * k + j = 40 * i + x) ↔ (k = i ∧ j = x) := by omega
  simp only [true_and, e]
theorem put_c (h : CS z s) (hV : ShV s) {i x : Int} (si : sm i) (sx : sm x) {v : Int64} : f_X10_put z 0 (iv i) (iv x) v = if 0 ≤ i ∧ i < 4 then (if s.1 i.toNat = -1 then some (z, iv (-11)) else if 0 ≤ x ∧ x < s.2.1 i.toNat then some (zL z (61 + 2 * i.toNat) x.toNat (wv (s.1 i.toNat) v), 1) else some (z, iv (-12))) else some (z, iv (-2)) := by
  unfold f_X10_put f_X10_put_0 f_X10_put_11 f_X10_put_23 f_X10_put_26 f_X10_put_42 f_X10_put_39 f_X10_put_8
  rw [is_c si, Option.bind_some]
  by_cases hi : 0 ≤ i ∧ i < 4
  · obtain ⟨k, rfl⟩ : ∃ k : Nat, i = k := ⟨i.toNat, by omega⟩
    have hk : k < 4 := by omega
    have b := (hV k hk)
    simp only [ob_0, hi, not_true_eq_false, if_false, true_and, and_self, inb4 hk, if_true, tn (show k < 2147483648 by omega), r0_13, (shA k hk).1, hs_c h hV hk sx, mi_c h hV hk, Option.bind_some, Int.toNat_natCast]
    by_cases g : s.1 k = -1
    · simp only [g, not_true_eq_false, if_false, if_true, n_m11]
    · simp only [g, not_false_eq_true, if_false, if_true]
      by_cases hx : 0 ≤ x ∧ x < s.2.1 k
      · obtain ⟨u, rfl⟩ : ∃ u : Nat, x = u := ⟨x.toNat, by omega⟩
        have hu : u < 40 := by omega
        unfold f_X7_write f_X7_write_0 f_X7_write_8 f_X7_write_27 f_X7_write_21 f_X7_write_28 f_X7_write_29
        simp only [hs_c h hV hk sx, Option.bind_some, ob_0, hx, not_true_eq_false, if_false, and_self, if_true, inb_k hu (show 40 < 2147483648 by decide), (shA k hk).2, tn (show u < 2147483648 by omega), Int.toNat_natCast, (h k hk).1]
        have e1 : (iv (s.1 k) = 1) ↔ s.1 k = 1 := by
          rw [n_1]
          exact iv_eqk ⟨by omega, by omega⟩ 1
        simp only [e1]
        unfold wv
        by_cases g1 : s.1 k = 1
        · rw [if_pos g1, if_pos g1]
          rfl
        · rw [if_neg g1, if_neg g1]
          rfl
      · simp only [hx, not_false_eq_true, if_true, if_false, n_m12]
  · simp only [ob_0, hi, not_false_eq_true, if_true, if_false, n_m2]
theorem put_m (h : MS z s) (hV : ShV s) {i x : Int} (si : sm i) (sx : sm x) {v : Int64} : f_X11_put z 68 (iv i) (iv x) v = if 0 ≤ i ∧ i < 4 then (if s.1 i.toNat = -1 then some (z, iv (-11)) else if 0 ≤ x ∧ x < s.2.1 i.toNat then some (zL z 98 (40 * i.toNat + x.toNat) (wv (s.1 i.toNat) v), 1) else some (z, iv (-12))) else some (z, iv (-2)) := by
  unfold f_X11_put f_X11_put_0 f_X11_put_10 f_X11_put_19 f_X11_put_22 f_X11_put_41 f_X11_put_67 f_X11_put_61 f_X11_put_68 f_X11_put_38 f_X11_put_7
  rw [is_m si, Option.bind_some]
  by_cases hi : 0 ≤ i ∧ i < 4
  · obtain ⟨k, rfl⟩ : ∃ k : Nat, i = k := ⟨i.toNat, by omega⟩
    have hk : k < 4 := by omega
    have b := (hV k hk)
    obtain ⟨m1, m2, m3, m4, m5, m6⟩ := MS_at h hV hk
    simp only [ob_0, hi, not_true_eq_false, if_false, true_and, and_self, inb4 hk, if_true, tn (show k < 2147483648 by omega), r68_54, r68_55, r68_56, m1, m2, m3, m5, m6, Int.toNat_natCast]
    by_cases g : s.1 k = -1
    · rw [if_neg (fun x => x g), if_pos g, n_m11]
    · rw [if_pos g, if_neg g]
      rw [n_0, in_ob sx (sm_d 0) ⟨by omega, by omega⟩, Option.bind_some, ← n_0]
      simp only [ob_0]
      by_cases hx : 0 ≤ x ∧ x < s.2.1 k
      · obtain ⟨u, rfl⟩ : ∃ u : Nat, x = u := ⟨x.toNat, by omega⟩
        have hu : u < 40 := by omega
        have e : (40 : Int32) * iv (k : Int) + iv (u : Int) = iv ((40 * k + u : Nat) : Int) := by
          rw [show (40 : Int32) = iv 40 by decide, iv_mul, iv_add]
          congr 1
        rw [if_neg (by omega), if_pos hx, e, inb_k (show 40 * k + u < 160 by omega) (by decide), if_pos rfl, if_pos rfl, tn (by omega)]
        unfold wv
        simp only [m1, m5, Int.toNat_natCast]
        by_cases g1 : s.1 k = 1
        · rw [if_pos g1, if_pos g1]
        · rw [if_neg g1, if_neg g1]
      · rw [if_pos (by omega), if_neg hx, n_m12]
  · simp only [ob_0, hi, not_false_eq_true, if_true, if_false, n_m2]
theorem INV_s {z1 z2 : St} {s' : Sh} (h : INV z y) (f1 : Fr (fun a => 60 ≤ a ∧ a ≤ 67) z z1) (f2 : Fr (fun a => 96 ≤ a) z1 z2) (hC : CS z1 s') (hM : MS z2 s') (hV : ShV s') : INV z2 (ySh y s') :=
  ⟨XC_m (XC_s h.1 f1 hC) (f2.mono (fun a e => by omega)), XM_s (XM_c h.2.1 (f1.mono (fun a e => by omega))) f2 hM, h.2.2.1, h.2.2.2.1, h.2.2.2.2.1, h.2.2.2.2.2.1, hV⟩
theorem s_put (h : INV z y) (a b : Int32) (v : Int64) : Both (f_X10_put z 0 a b v) (fun z => f_X11_put z 68 a b v) := by
  obtain ⟨i, si, rfl⟩ := ex_iv a
  obtain ⟨x, sx, rfl⟩ := ex_iv b
  have hC := h.1.2.2.2.2.2.1
  have hM := h.2.1.2.2.2.2
  have hV := h.2.2.2.2.2.2
  have p1 := put_c hC hV si sx (v := v)
  have p2 := put_m hM hV si sx (v := v)
  by_cases hi : 0 ≤ i ∧ i < 4
  · rw [if_pos hi] at p1 p2
    by_cases g : y.2.2.2.2.2.1 i.toNat = -1
    · rw [if_pos g] at p1 p2
      exact Both_s h p1 p2
    · rw [if_neg g] at p1 p2
      by_cases hx : 0 ≤ x ∧ x < y.2.2.2.2.2.2.1 i.toNat
      · rw [if_pos hx] at p1
        have hb := (hV i.toNat (by omega)).2.1
        have f1 : Fr (fun a => 60 ≤ a ∧ a ≤ 67) z (zL z (61 + 2 * i.toNat) x.toNat (wv (y.2.2.2.2.2.1 i.toNat) v)) := Fr.refl.zL (by omega)
        have hM' : MS (zL z (61 + 2 * i.toNat) x.toNat (wv (y.2.2.2.2.2.1 i.toNat) v)) y.2.2.2.2.2 := MS_fr hM (fun a e1 e2 => f1 a (by omega))
        have p3 := put_m hM' hV si sx (v := v)
        rw [if_pos hi, if_neg g, if_pos hx] at p3
        exact ⟨_, _, _, p1, p3, _, INV_s h f1 (Fr.refl.zL (by decide)) (CS_w hC (by omega) (by omega)) (MS_w hM' (by omega) (by omega)) hV⟩
      · rw [if_neg hx] at p1 p2
        exact Both_s h p1 p2
  · rw [if_neg hi] at p1 p2
    exact Both_s h p1 p2
end SHEETS
