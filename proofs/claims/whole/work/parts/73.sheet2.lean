/-! SHEETS: sheet, copy -/
def flZ (z : St) (o : Nat) : Nat → St
  | 0 => z
  | k + 1 => zL (flZ z o k) o k 0
theorem flZ_1 {z : St} {o : Nat} : ∀ k, (flZ z o k).1 = z.1
  | 0 => rfl
  | k + 1 => flZ_1 k
theorem flZ_2 {z : St} {o : Nat} : ∀ k b j, (flZ z o k).2 b j = if b = o ∧ j < k then 0 else z.2 b j
  | 0, b, j => by
    rw [if_neg (fun x => Nat.not_lt_zero _ x.2)]
    rfl
  | k + 1, b, j => by
    show (zL (flZ z o k) o k 0).2 b j = _
    rw [rL, flZ_2 k b j]
    grind
theorem fl_of (z : St) (o : Nat) : f_J7_fill_d0a16 z o 0 = some (flZ z o 40) := by
  refine loop_up (n := 40) (fun F k b => f_J7_fill_d0a16_6 F b o 0 (iv (k : Int)) 40) (flZ z o) (fun F => ?_) (fun F k hk => ?_) 40 0 FU (by omega) (FU_8 (by decide))
  · show f_J7_fill_d0a16_6 _ _ _ _ _ _ = _
    rw [f_J7_fill_d0a16_6, if_pos (by show (40 : Int32) ≤ iv ((40 : Nat) : Int); decide)]
    rfl
  · show f_J7_fill_d0a16_6 _ _ _ _ _ _ = f_J7_fill_d0a16_6 F (zL (flZ z o k) o k 0) o 0 (iv ((k + 1 : Nat) : Int)) 40
    rw [f_J7_fill_d0a16_6, if_neg (fun x => by
      rw [show (40 : Int32) = iv 40 by decide] at x
      have := (iv_kle (sm_k (show k < 2147483648 by omega)) 40).mp x
      omega)]
    unfold f_J7_fill_d0a16_12
    rw [inb_k hk (by decide), if_pos rfl, tn (by omega), iv_s]
def mfZ (z : St) (i : Nat) : Nat → St
  | 0 => z
  | k + 1 => zL (mfZ z i k) 98 (40 * i + k) 0
theorem mfZ_1 {z : St} {i : Nat} : ∀ k, (mfZ z i k).1 = z.1
  | 0 => rfl
  | k + 1 => mfZ_1 k
theorem mfZ_2 {z : St} {i : Nat} : ∀ k b j, (mfZ z i k).2 b j = if b = 98 ∧ 40 * i ≤ j ∧ j < 40 * i + k then 0 else z.2 b j
  | 0, b, j => by
    rw [if_neg (fun x => by omega)]
    rfl
  | k + 1, b, j => by
    show (zL (mfZ z i k) 98 (40 * i + k) 0).2 b j = _
    rw [rL, mfZ_2 k b j]
    by_cases e : b = 98 ∧ j = 40 * i + k
    · rw [if_pos e, if_pos (by omega)]
    · rw [if_neg e]
      by_cases e2 : b = 98 ∧ 40 * i ≤ j ∧ j < 40 * i + k
      · rw [if_pos e2, if_pos (by omega)]
      · rw [if_neg e2, if_neg (by omega)]
noncomputable def bcZ (z : St) (i : Nat) (so : Int) (n : Nat) : St := flZ (zI (zI z (60 + 2 * i) 1 (iv so)) (60 + 2 * i) 2 (iv (n : Int))) (61 + 2 * i) 40
noncomputable def msZ (z : St) (i : Nat) (so : Int) (n : Nat) : St := mfZ (zI (zI z 96 i (iv so)) 97 i (iv (n : Int))) i 40
def shN (s : Sh) (i : Nat) (so : Int) (n : Nat) : Sh := (up s.1 i so, up s.2.1 i n, fun a b => if a = i then 0 else s.2.2 a b)
section SHEET2
variable {z : St} {y : Sy} {s : Sh}
theorem bc_fr {i : Nat} (hi : i < 4) {so : Int} {n : Nat} : Fr (fun a => 60 ≤ a ∧ a ≤ 67) z (bcZ z i so n) := fun a ha => by
  unfold bcZ
  refine ⟨?_, ?_⟩
  · rw [flZ_1, zI_n (by omega), zI_n (by omega)]
  · funext j
    rw [flZ_2, if_neg (by omega)]
    rfl
theorem ms_fr {i : Nat} {so : Int} {n : Nat} : Fr (fun a => 96 ≤ a) z (msZ z i so n) := fun a ha => by
  unfold msZ
  refine ⟨?_, ?_⟩
  · rw [mfZ_1, zI_n (by omega), zI_n (by omega)]
  · funext j
    rw [mfZ_2, if_neg (by omega)]
    rfl
theorem CS_n (h : CS z s) {i : Nat} (hi : i < 4) {so : Int} {n : Nat} : CS (bcZ z i so n) (shN s i so n) := fun k hk => by
  unfold bcZ shN up
  rw [flZ_1, rI, rI, rI, rI]
  by_cases e : k = i
  · subst e
    refine ⟨?_, ?_, fun j hj => ?_⟩
    · simp
    · simp
    · rw [flZ_2, if_pos ⟨rfl, hj⟩]
      simp
  · refine ⟨?_, ?_, fun j hj => ?_⟩
    · rw [if_neg (by omega), if_neg (by omega), (h k hk).1]
      simp [e]
    · rw [if_neg (by omega), if_neg (by omega), (h k hk).2.1]
      simp [e]
    · rw [flZ_2, if_neg (by omega)]
      simp only [e, if_false]
      exact (h k hk).2.2 j hj
theorem MS_n (h : MS z s) {i : Nat} {so : Int} {n : Nat} : MS (msZ z i so n) (shN s i so n) := fun k hk => by
  unfold msZ shN up
  rw [mfZ_1, rI, rI, rI, rI]
  by_cases e : k = i
  · subst e
    refine ⟨?_, ?_, fun j hj => ?_⟩
    · simp
    · simp
    · rw [mfZ_2, if_pos (by omega)]
      simp
  · refine ⟨?_, ?_, fun j hj => ?_⟩
    · rw [if_neg (by omega), if_neg (by omega), (h k hk).1]
      simp [e]
    · rw [if_neg (by omega), if_neg (by omega), (h k hk).2.1]
      simp [e]
    · rw [mfZ_2, if_neg (by omega)]
      simp only [e, if_false]
      exact (h k hk).2.2 j hj
theorem become_c {i : Nat} (hi : i < 4) {so : Int} {n : Nat} (hn : n ≤ 40) : f_X7_become z (60 + 2 * i) (iv so) (iv (n : Int)) = some (bcZ z i so n) := by
  unfold f_X7_become f_X7_become_0
  rw [(shA i hi).2, n_0, show (40 : Int32) = iv 40 by decide, iv_min (sm_k (by omega)) (sm_d 40), iv_max (sm_d 0) ⟨by omega, by omega⟩]
  have e : max 0 (min (n : Int) 40) = (n : Int) := by omega
  rw [e]
  have f := fl_of (zI (zI z (60 + 2 * i) 1 (iv so)) (60 + 2 * i) 2 (iv (n : Int))) (61 + 2 * i)
  have f' : f_J7_fill_d0a16 (zI (zI z (60 + 2 * i) 1 (iv so)) (60 + 2 * i) 2 (iv (n : Int))) (61 + 2 * i) 0 = some (bcZ z i so n) := f
  rw [f']
  rfl
noncomputable def shR (f : Nat → Int → Nat → St) (z : St) (i so n : Int) : St × Int32 := if (0 ≤ i ∧ i < 4) ∧ (-1 ≤ so ∧ so ≤ 1) then (if so = -1 then (f i.toNat (-1) 0, 1) else if 40 < n then (z, iv (-2)) else if n < 0 then (z, iv (-14)) else (f i.toNat so n.toNat, 1)) else (z, iv (-2))
theorem sheet_c {i so n : Int} (si : sm i) (ss : sm so) (sn : sm n) : f_X10_sheet z 0 (iv i) (iv so) (iv n) = some (shR (bcZ z) z i so n) := by
  unfold f_X10_sheet f_X10_sheet_0 f_X10_sheet_8 f_X10_sheet_13 f_X10_sheet_21 f_X10_sheet_39 f_X10_sheet_45 f_X10_sheet_48 f_X10_sheet_52 f_X10_sheet_55 f_X10_sheet_26 f_X10_sheet_18 shR
  rw [is_c si, Option.bind_some]
  by_cases hi : 0 ≤ i ∧ i < 4
  · obtain ⟨k, rfl⟩ : ∃ k : Nat, i = k := ⟨i.toNat, by omega⟩
    have hk : k < 4 := by omega
    simp only [ob_0, hi, not_true_eq_false, if_false, true_and, and_self, inb4 hk, if_true, tn (show k < 2147483648 by omega), r0_13, (shA k hk).1, Int.toNat_natCast]
    rw [n_m1, n_1, show (40 : Int32) = iv 40 by decide]
    have ge0 : (0 ≤ iv n) ↔ 0 ≤ n := iv_ge0 sn
    simp only [iv_ltk ss (-1), iv_lek ss 1, iv_eqk ss (-1), iv_lek sn 40, ge0]
    by_cases h1 : -1 ≤ so ∧ so ≤ 1
    · rw [if_neg (by omega), if_pos h1.2, if_pos h1]
      by_cases h2 : so = -1
      · rw [if_pos h2, if_pos h2]
        have e : f_X7_become z (60 + 2 * k) (iv (-1)) 0 = some (bcZ z k (-1) 0) := become_c hk (so := -1) (n := 0) (by decide)
        rw [e]
        rfl
      · rw [if_neg h2, if_neg h2]
        by_cases h3 : 40 < n
        · rw [if_neg (by omega), if_pos h3, n_m2]
        · rw [if_pos (by omega), if_neg h3]
          by_cases h4 : n < 0
          · rw [if_neg (by omega), if_pos h4, n_m14]
          · rw [if_pos (by omega), if_neg h4]
            obtain ⟨u, rfl⟩ : ∃ u : Nat, n = u := ⟨n.toNat, by omega⟩
            rw [become_c hk (by omega)]
            rfl
    · rw [if_neg h1]
      by_cases h2 : so < -1
      · rw [if_pos h2, n_m2]
      · rw [if_neg h2, if_neg (by omega), n_m2]
  · simp only [ob_0, hi, not_false_eq_true, if_true, false_and, if_false, n_m2]
theorem msl_of {i : Nat} (hi : i < 4) : f_X11_sheet_65 FU z 68 (iv (i : Int)) 0 = some (mfZ z i 40, 1) := by
  refine loop_up (n := 40) (fun F k b => f_X11_sheet_65 F b 68 (iv (i : Int)) (iv (k : Int))) (mfZ z i) (fun F => ?_) (fun F k hk => ?_) 40 0 FU (by omega) (FU_8 (by decide))
  · show f_X11_sheet_65 _ _ _ _ _ = _
    rw [f_X11_sheet_65, if_pos (by show (40 : Int32) ≤ iv ((40 : Nat) : Int); decide)]
    rfl
  · show f_X11_sheet_65 _ _ _ _ _ = f_X11_sheet_65 F (zL (mfZ z i k) 98 (40 * i + k) 0) 68 (iv (i : Int)) (iv ((k + 1 : Nat) : Int))
    have e : (40 : Int32) * iv (i : Int) + iv (k : Int) = iv ((40 * i + k : Nat) : Int) := by
      rw [show (40 : Int32) = iv 40 by decide, iv_mul, iv_add]
      congr 1
    rw [f_X11_sheet_65, if_neg (fun x => by
      rw [show (40 : Int32) = iv 40 by decide] at x
      have := (iv_kle (sm_k (show k < 2147483648 by omega)) 40).mp x
      omega)]
    unfold f_X11_sheet_72
    rw [e, inb_k (show 40 * i + k < 160 by omega) (by decide), if_pos rfl, tn (by omega), r68_56, iv_s]
theorem sheet_m {i so n : Int} (si : sm i) (ss : sm so) (sn : sm n) : f_X11_sheet z 68 (iv i) (iv so) (iv n) = some (shR (msZ z) z i so n) := by
  unfold f_X11_sheet f_X11_sheet_0 f_X11_sheet_7 f_X11_sheet_16 f_X11_sheet_20 f_X11_sheet_29 f_X11_sheet_33 f_X11_sheet_37 f_X11_sheet_40 f_X11_sheet_56 f_X11_sheet_60 f_X11_sheet_61 f_X11_sheet_26 shR
  rw [is_m si, Option.bind_some]
  by_cases hi : 0 ≤ i ∧ i < 4
  · obtain ⟨k, rfl⟩ : ∃ k : Nat, i = k := ⟨i.toNat, by omega⟩
    have hk : k < 4 := by omega
    simp only [ob_0, hi, not_true_eq_false, if_false, true_and, and_self, inb4 hk, if_true, tn (show k < 2147483648 by omega), r68_54, r68_55, Int.toNat_natCast]
    rw [n_m1, n_1, in_ob ss (sm_d (-1)) (sm_d 1), Option.bind_some, ← n_1, show (40 : Int32) = iv 40 by decide]
    have ge0 : (0 ≤ iv n) ↔ 0 ≤ n := iv_ge0 sn
    have ge1 : (0 ≤ iv so) ↔ 0 ≤ so := iv_ge0 ss
    simp only [ob_0, iv_lt0 ss, iv_lek sn 40, ge0, ge1]
    by_cases h1 : -1 ≤ so ∧ so ≤ 1
    · rw [if_neg (by omega), if_pos h1]
      by_cases h2 : so = -1
      · rw [if_pos h2]
        subst h2
        rw [if_pos (by decide), if_pos (by decide), if_neg (by decide)]
        exact msl_of hk
      · rw [if_neg h2, if_neg (by omega)]
        by_cases h3 : 40 < n
        · rw [if_neg (by omega), if_pos h3, n_m2]
        · rw [if_pos (by omega), if_neg h3, if_neg (by omega)]
          by_cases h4 : n < 0
          · rw [if_neg (by omega), if_pos h4, n_m14]
          · rw [if_pos (by omega), if_neg h4, if_pos (by omega)]
            obtain ⟨u, rfl⟩ : ∃ u : Nat, n = u := ⟨n.toNat, by omega⟩
            exact msl_of hk
    · rw [if_neg h1, if_pos (by omega), n_m2]
  · simp only [ob_0, hi, not_false_eq_true, if_true, false_and, if_false, n_m2]
theorem ShV_n (h : ShV s) {i : Nat} {so : Int} {n : Nat} (h1 : -1 ≤ so ∧ so ≤ 1) (h2 : n ≤ 40) (h3 : so = -1 → n = 0) : ShV (shN s i so n) := fun k hk => by
  unfold shN up
  by_cases e : k = i
  · simp only [e, if_true]
    exact ⟨h1, h2, h3⟩
  · simp only [e, if_false]
    exact h k hk
theorem s_sheet (h : INV z y) (a b c : Int32) : Both (f_X10_sheet z 0 a b c) (fun z => f_X11_sheet z 68 a b c) := by
  obtain ⟨i, si, rfl⟩ := ex_iv a
  obtain ⟨so, ss, rfl⟩ := ex_iv b
  obtain ⟨n, sn, rfl⟩ := ex_iv c
  have hC := h.1.2.2.2.2.2.1
  have hM := h.2.1.2.2.2.2
  have hV := h.2.2.2.2.2.2
  have step : ∀ (k : Nat) (so : Int) (n : Nat), k < 4 → (-1 ≤ so ∧ so ≤ 1) → n ≤ 40 → (so = -1 → n = 0) → INV (msZ (bcZ z k so n) k so n) (ySh y (shN y.2.2.2.2.2 k so n)) := fun k so n hk h1 h2 h3 =>
    INV_s h (bc_fr hk) ms_fr (CS_n hC hk) (MS_n (MS_fr hM (fun a e1 e2 => bc_fr hk a (by omega)))) (ShV_n hV h1 h2 h3)
  by_cases g : (0 ≤ i ∧ i < 4) ∧ (-1 ≤ so ∧ so ≤ 1)
  · by_cases g1 : so = -1
    · have p1 : f_X10_sheet z 0 (iv i) (iv so) (iv n) = some (bcZ z i.toNat (-1) 0, 1) := by
        rw [sheet_c si ss sn]
        unfold shR
        rw [if_pos g, if_pos g1]
      refine ⟨_, _, _, p1, ?_, _, step i.toNat (-1) 0 (by omega) (by decide) (by decide) (fun _ => rfl)⟩
      show f_X11_sheet _ 68 _ _ _ = _
      rw [sheet_m si ss sn]
      unfold shR
      rw [if_pos g, if_pos g1]
    · by_cases g2 : 40 < n
      · refine Both_s h (r := iv (-2)) ?_ ?_
        · rw [sheet_c si ss sn]
          unfold shR
          rw [if_pos g, if_neg g1, if_pos g2]
        · show f_X11_sheet _ 68 _ _ _ = _
          rw [sheet_m si ss sn]
          unfold shR
          rw [if_pos g, if_neg g1, if_pos g2]
      · by_cases g3 : n < 0
        · refine Both_s h (r := iv (-14)) ?_ ?_
          · rw [sheet_c si ss sn]
            unfold shR
            rw [if_pos g, if_neg g1, if_neg g2, if_pos g3]
          · show f_X11_sheet _ 68 _ _ _ = _
            rw [sheet_m si ss sn]
            unfold shR
            rw [if_pos g, if_neg g1, if_neg g2, if_pos g3]
        · have p1 : f_X10_sheet z 0 (iv i) (iv so) (iv n) = some (bcZ z i.toNat so n.toNat, 1) := by
            rw [sheet_c si ss sn]
            unfold shR
            rw [if_pos g, if_neg g1, if_neg g2, if_neg g3]
          refine ⟨_, _, _, p1, ?_, _, step i.toNat so n.toNat (by omega) g.2 (by omega) (fun e => absurd e g1)⟩
          show f_X11_sheet _ 68 _ _ _ = _
          rw [sheet_m si ss sn]
          unfold shR
          rw [if_pos g, if_neg g1, if_neg g2, if_neg g3]
  · refine Both_s h (r := iv (-2)) ?_ ?_
    · rw [sheet_c si ss sn]
      unfold shR
      rw [if_neg g]
    · show f_X11_sheet _ 68 _ _ _ = _
      rw [sheet_m si ss sn]
      unfold shR
      rw [if_neg g]
end SHEET2
