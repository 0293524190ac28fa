/-! BLOCK: the class's side of CRITICAL -/
theorem tb_lt {s n i : Nat} (h : s < 2 ^ n) (hb : Nat.testBit s i = true) : i < n := by
  have h1 := Nat.ge_two_pow_of_testBit hb
  exact (Nat.pow_lt_pow_iff_right (by decide : 1 < 2)).mp (Nat.lt_of_le_of_lt h1 h)
noncomputable def gt (f : Nat → Int) (s : Nat) (x : Int) : Int := if 0 ≤ x ∧ x < 8 ∧ Nat.testBit s x.toNat = true then f x.toNat else -1
noncomputable def gj (y : Ly) (x : Int) : Int := if 0 ≤ x ∧ x < y.1 then (y.2.2.1 x.toNat : Int) else -1
theorem gt_in {f : Nat → Int} {s j : Nat} (h : j < 8) (hb : Nat.testBit s j = true) : gt f s (j : Int) = f j := by
  unfold gt
  rw [if_pos ⟨by omega, by omega, hb⟩]
  rfl
theorem gj_in {y : Ly} {k : Nat} (h : k < y.1) : gj y (k : Int) = (y.2.2.1 k : Int) := by
  unfold gj
  rw [if_pos ⟨by omega, by omega⟩]
  rfl
theorem zI_same {z : St} {o k : Nat} {v w : Int32} : zI (zI z o k v) o k w = zI z o k w := by
  refine Prod.ext (funext fun a => ?_) rfl
  by_cases e : a = o
  · subst e
    rw [zI_o, zI_o, zI_o]
    funext j
    unfold upd
    by_cases w : j = k
    · rw [if_pos w, if_pos w]
    · rw [if_neg w, if_neg w, if_neg w]
  · rw [zI_n e, zI_n e, zI_n e]
section BLOCK
variable {z : St} {o u b n : Nat} {c t q : Nat → Int} {y : Ly}
theorem ja_of (hn : n ≤ 8) (hY : LY z o n y) (hW : WY n y) {x : Int} (hx : sm x) : f_X3_jobAt z o (iv x) = some (z, iv (gj y x)) := by
  obtain ⟨w1, -⟩ := hW
  have ns : sm (y.1 : Int) := sm_k (by omega)
  have m1 := n_m1
  unfold f_X3_jobAt f_X3_jobAt_0 f_X3_jobAt_4 f_X3_jobAt_12 f_X3_jobAt_21 f_X3_jobAt_30 f_X3_jobAt_31 gj
  rw [hY.1.1]
  simp only [iv_lt0 hx, iv_8le hx, iv_le ns hx, iv_inb hx, iv_nat hx]
  by_cases w : 0 ≤ x ∧ x < y.1
  · have := hY.2.1 x.toNat (by omega)
    grind
  · grind
theorem bg_of (hn : n ≤ 8) (hY : LY z o n y) (hW : WY n y) {x : Int} (hx : sm x) : f_X3_beginOf z o (iv x) = some (z, iv (gt y.2.2.2.1 y.2.1 x)) := by
  obtain ⟨w1, w2, -⟩ := hW
  have m1 := n_m1
  unfold f_X3_beginOf f_X3_beginOf_0 f_X3_beginOf_4 f_X3_beginOf_13 f_X3_beginOf_24 f_X3_beginOf_33 f_X3_beginOf_34 gt
  rw [hY.1.2.1]
  simp only [iv_lt0 hx, iv_8le hx, iv_inb hx, iv_nat hx]
  by_cases w : 0 ≤ x ∧ x < 8
  · have ex : iv x = iv ((x.toNat : Nat) : Int) := by
      congr 1
      omega
    have bs := bit_all y.2.1 (lt_256 hn w2) x.toNat (by omega)
    rw [← ex] at bs
    simp only [bs]
    cases hb : Nat.testBit y.2.1 x.toNat
    · grind
    · have := (hY.2.2 x.toNat (tb_lt w2 hb) hb).1
      grind
  · grind
theorem en_of (hn : n ≤ 8) (hY : LY z o n y) (hW : WY n y) {x : Int} (hx : sm x) : f_X3_endOf z o (iv x) = some (z, iv (gt y.2.2.2.2.1 y.2.1 x)) := by
  obtain ⟨w1, w2, -⟩ := hW
  have m1 := n_m1
  unfold f_X3_endOf f_X3_endOf_0 f_X3_endOf_4 f_X3_endOf_13 f_X3_endOf_24 f_X3_endOf_33 f_X3_endOf_34 gt
  rw [hY.1.2.1]
  simp only [iv_lt0 hx, iv_8le hx, iv_inb hx, iv_nat hx]
  by_cases w : 0 ≤ x ∧ x < 8
  · have ex : iv x = iv ((x.toNat : Nat) : Int) := by
      congr 1
      omega
    have bs := bit_all y.2.1 (lt_256 hn w2) x.toNat (by omega)
    rw [← ex] at bs
    simp only [bs]
    cases hb : Nat.testBit y.2.1 x.toNat
    · grind
    · have := (hY.2.2 x.toNat (tb_lt w2 hb) hb).2
      grind
  · grind
theorem pl_of (hL : LD z u n c t q) (hB : BD n c t q) (hY : LY z o n y) (hW : WY n y) (hG : GI n t q y) (hs : y.1 = n) : f_X0_placeOfLast z u o = some (z, iv (pl q y n)) := by
  have h8 := hL.2.1
  refine loop_up (n := n) (fun F k b => f_X0_placeOfLast_4 F z u o (iv b) (iv (k : Int))) (pl q y) (fun F => ?_) (fun F k hk => ?_) n 0 FU (by omega) (FU_8 (by omega))
  · show f_X0_placeOfLast_4 _ _ _ _ _ _ = _
    rw [f_X0_placeOfLast_4, hY.1.1, hs, if_pos sz_t]
    rfl
  · show f_X0_placeOfLast_4 _ _ _ _ _ _ = f_X0_placeOfLast_4 F z u o (iv (plS q y k (pl q y k))) _
    rw [f_X0_placeOfLast_4, hY.1.1, hs, if_neg (sz_f hk (by omega))]
    have hr := hW.2.2.2.2.2 k (by omega)
    have hbit := hG.1 k (by omega)
    have h4 := hG.2.2.2 k (by omega)
    have hq := hB _ hr
    obtain ⟨w1, w2, w3, w4, w5, w6⟩ := hW
    have sj : sm ((y.2.2.1 k : Nat) : Int) := sm_k (by omega)
    unfold f_X0_placeOfLast_12 f_X0_placeOfLast_39 f_X0_placeOfLast_41 plS
    rw [ja_of h8 hY ⟨w1, w2, w3, w4, w5, w6⟩ (sm_k (by omega)), Option.bind_some, gj_in (by omega)]
    show ((f_X3_endOf z o (iv ((y.2.2.1 k : Nat) : Int))).bind _) = _
    rw [en_of h8 hY ⟨w1, w2, w3, w4, w5, w6⟩ sj, Option.bind_some, gt_in (by omega) hbit]
    show ((f_X4_coolsOf z u (iv ((y.2.2.1 k : Nat) : Int))).bind _) = _
    rw [cools_of hL sj, Option.bind_some, rd_in hr]
    simp only [hY.1.2.2.2.1, iv_add, iv_s]
    have ie := iv_eq (x := y.2.2.2.2.1 (y.2.2.1 k) + q (y.2.2.1 k)) (y := y.2.2.2.2.2.2.1) ⟨by omega, by omega⟩ ⟨by omega, by omega⟩
    simp only [ie]
    generalize pl q y k = v
    grind
noncomputable def bkT (t : Nat → Int) (n : Nat) (y : Ly) (lo hi : Nat) : Int := su t (Nat.testBit (mkR y.2.2.1 lo hi)) n
noncomputable def bkC (c : Nat → Int) (n : Nat) (y : Ly) (lo hi : Nat) : Int := mn c (Nat.testBit (mkR y.2.2.1 lo hi)) n
noncomputable def fbR (c t q : Nat → Int) (n : Nat) (y : Ly) (lp : Nat) (z : St) (b : Nat) (v : Int) : St :=
  if v < 0 then zI z b 3 0 else
  zI (zI (zI (zI z b 3 (iv (mkR y.2.2.1 (v.toNat + 1) (lp + 1) : Int))) b 2 (iv (y.2.2.1 v.toNat : Int))) b 5 (iv (max (q (y.2.2.1 v.toNat)) (bkT t n y (v.toNat + 1) (lp + 1) + q (y.2.2.1 lp))))) b 6 (iv (max (c (y.2.2.1 v.toNat)) (bkC c n y (v.toNat + 1) (lp + 1) + bkT t n y (v.toNat + 1) (lp + 1))))
theorem fb_loop (db1 : ∀ a, own u a → a ≠ b) (db2 : ∀ a, own o a → a ≠ b) (hL : LD z u n c t q) (hB : BD n c t q) (hY : LY z o n y) (hW : WY n y) (hG : GI n t q y) (hs : y.1 = n) {lp fr : Nat} (hlp : lp < n) (hfr : fr ≤ lp) (h0 : z.1 b 0 = iv (y.2.2.1 lp : Int)) : ∀ (m F : Nat), m ≤ lp + 1 → m < F →
    f_X0_findBar_20 F (zI z b 3 (iv (mkR y.2.2.1 m (lp + 1) : Int))) b u o (iv (fr : Int)) (iv (bkT t n y m (lp + 1))) (iv (bkC c n y m (lp + 1))) (iv ((m : Int) - 1)) = some (fbR c t q n y lp z b (bp q y (q (y.2.2.1 lp)) fr m))
  | _, 0, _, h => absurd h (Nat.not_lt_zero _)
  | 0, F + 1, _, _ => by
    have h8 := hL.2.1
    have r : fbR c t q n y lp z b (bp q y (q (y.2.2.1 lp)) fr 0) = zI z b 3 0 := if_pos (by show (-1 : Int) < 0; decide)
    rw [r, f_X0_findBar_20]
    have e : zI (zI z b 3 (iv (mkR y.2.2.1 0 (lp + 1) : Int))) b 3 0 = zI z b 3 0 := zI_same
    split
    · exact congrArg some e
    · unfold f_X0_findBar_26
      rw [if_pos ((iv_lt0 (by constructor <;> decide)).mpr (by decide))]
      exact congrArg some e
  | m + 1, F + 1, hm, hF => by
    have h8 := hL.2.1
    have hrow : ∀ i, i < y.1 → y.2.2.1 i < n := hW.2.2.2.2.2
    have ha : ∀ a, a ≠ b → (zI z b 3 (iv (mkR y.2.2.1 (m + 1) (lp + 1) : Int))).1 a = z.1 a := fun a h => zI_n h
    have hL' : LD (zI z b 3 (iv (mkR y.2.2.1 (m + 1) (lp + 1) : Int))) u n c t q := LD_fr hL (fun a h => ha a (db1 a h))
    have hY' : LY (zI z b 3 (iv (mkR y.2.2.1 (m + 1) (lp + 1) : Int))) o n y := LY_fr hY (fun a h => ha a (db2 a h))
    have em : ((m + 1 : Nat) : Int) - 1 = (m : Int) := by omega
    have eb : bp q y (q (y.2.2.1 lp)) fr (m + 1) = if m < fr then -1 else if q (y.2.2.1 m) < q (y.2.2.1 lp) then (m : Int) else bp q y (q (y.2.2.1 lp)) fr m := rfl
    rw [em, eb, f_X0_findBar_20]
    have smk : sm (m : Int) := sm_k (by omega)
    have hmn : m < y.1 := by omega
    by_cases w1 : m < fr
    · rw [if_pos ((iv_lt smk (sm_k (show fr < 2147483648 by omega))).mpr (by omega)), if_pos w1]
      exact congrArg some ((zI_same).trans (if_pos (by decide)).symm)
    · rw [if_neg (fun x => w1 (by have := (iv_lt smk (sm_k (by omega))).mp x; omega)), if_neg w1]
      unfold f_X0_findBar_26
      rw [if_neg (fun x => absurd ((iv_lt0 smk).mp x) (by omega))]
      unfold f_X0_findBar_31
      have hr := hrow m hmn
      have hr2 := hrow lp (by omega)
      have sj : sm ((y.2.2.1 m : Nat) : Int) := sm_k (by omega)
      have sl : sm ((y.2.2.1 lp : Nat) : Int) := sm_k (by omega)
      have h0' : (zI z b 3 (iv (mkR y.2.2.1 (m + 1) (lp + 1) : Int))).1 b 0 = iv (y.2.2.1 lp : Int) := by
        rw [rI, if_neg (by simp)]
        exact h0
      have b1 := hB _ hr
      have b2 := hB _ hr2
      rw [ja_of h8 hY' hW smk, Option.bind_some, gj_in hmn]
      show ((f_X4_coolsOf _ u (iv ((y.2.2.1 m : Nat) : Int))).bind _) = _
      rw [cools_of hL' sj, Option.bind_some, rd_in hr]
      show ((f_X4_coolsOf _ u ((zI z b 3 (iv (mkR y.2.2.1 (m + 1) (lp + 1) : Int))).1 b 0)).bind _) = _
      rw [h0', cools_of hL' sl, Option.bind_some, rd_in hr2]
      have tB := su_b (t := t) (p := Nat.testBit (mkR y.2.2.1 (m + 1) (lp + 1))) (n := n) (M := 25) (fun j hj => ⟨by have := hB j hj; omega, by have := hB j hj; omega⟩) (by decide) n (Nat.le_refl _)
      have cB := mn_b (c := c) (p := Nat.testBit (mkR y.2.2.1 (m + 1) (lp + 1))) (n := n) (M := 900) (fun j hj => (hB j hj).1) (by decide) n (Nat.le_refl _)
      show (if iv (q (y.2.2.1 lp)) ≤ iv (q (y.2.2.1 m)) then _ else _) = _
      by_cases w2 : q (y.2.2.1 m) < q (y.2.2.1 lp)
      · rw [if_neg (fun x => absurd ((iv_le ⟨by omega, by omega⟩ ⟨by omega, by omega⟩).mp x) (by omega)), if_pos w2]
        have r : fbR c t q n y lp z b (m : Int) = zI (zI (zI (zI z b 3 (iv (mkR y.2.2.1 (m + 1) (lp + 1) : Int))) b 2 (iv (y.2.2.1 m : Int))) b 5 (iv (max (q (y.2.2.1 m)) (bkT t n y (m + 1) (lp + 1) + q (y.2.2.1 lp))))) b 6 (iv (max (c (y.2.2.1 m)) (bkC c n y (m + 1) (lp + 1) + bkT t n y (m + 1) (lp + 1)))) := if_neg (by omega)
        rw [r]
        generalize hZ : zI z b 3 (iv (mkR y.2.2.1 (m + 1) (lp + 1) : Int)) = Z at *
        unfold f_X0_findBar_56
        have hL2 : LD (zI Z b 2 (iv (y.2.2.1 m : Int))) u n c t q := LD_fr hL' (fun a h => zI_n (db1 a h))
        have hL3 : ∀ v, LD (zI (zI Z b 2 (iv (y.2.2.1 m : Int))) b 5 v) u n c t q := fun v => LD_fr hL2 (fun a h => zI_n (db1 a h))
        have g2 : (zI Z b 2 (iv (y.2.2.1 m : Int))).1 b 2 = iv (y.2.2.1 m : Int) := by rw [rI, if_pos ⟨rfl, rfl⟩]
        have g0 : (zI Z b 2 (iv (y.2.2.1 m : Int))).1 b 0 = iv (y.2.2.1 lp : Int) := by
          rw [rI, if_neg (by simp)]
          exact h0'
        have g3 : ∀ v, (zI (zI Z b 2 (iv (y.2.2.1 m : Int))) b 5 v).1 b 2 = iv (y.2.2.1 m : Int) := fun v => by
          rw [rI, if_neg (by simp)]
          exact g2
        rw [g2, cools_of hL2 sj, Option.bind_some, rd_in hr]
        show ((f_X4_coolsOf (zI Z b 2 (iv (y.2.2.1 m : Int))) u ((zI Z b 2 (iv (y.2.2.1 m : Int))).1 b 0)).bind _) = _
        rw [g0, cools_of hL2 sl, Option.bind_some, rd_in hr2]
        simp only [iv_add, g3]
        rw [comes_of (hL3 _) sj, Option.bind_some, rd_in hr]
        unfold bkT bkC at *
        simp only []
        rw [iv_max ⟨by omega, by omega⟩ ⟨by omega, by omega⟩, iv_max ⟨by omega, by omega⟩ ⟨by omega, by omega⟩]
      · rw [if_pos ((iv_le ⟨by omega, by omega⟩ ⟨by omega, by omega⟩).mpr (by omega)), if_neg w2]
        have nb0 : Nat.testBit (mkR y.2.2.1 (m + 1) (lp + 1)) (y.2.2.1 m) = false := by
          cases hb : Nat.testBit (mkR y.2.2.1 (m + 1) (lp + 1)) (y.2.2.1 m)
          · rfl
          · obtain ⟨i, i1, i2, i3⟩ := (mkR_bit (lp + 1)).mp hb
            have := hG.2.1 i m (by omega) hmn i3
            omega
        have md := mkR_down (r := y.2.2.1) (lo := m) (lp + 1) (by omega)
        have ml : mkR y.2.2.1 (m + 1) (lp + 1) < 256 := lt_256 h8 (mkR_lt (by omega) (lp + 1) (fun i hi => hrow i (by omega)))
        have bo := bit_or _ ml (y.2.2.1 m) (by omega)
        rw [← md] at bo
        have hp : ∀ i, Nat.testBit (mkR y.2.2.1 m (lp + 1)) i = (Nat.testBit (mkR y.2.2.1 (m + 1) (lp + 1)) i || decide (i = y.2.2.1 m)) := fun i => by
          rw [md, or_bit]
        have eT : bkT t n y m (lp + 1) = bkT t n y (m + 1) (lp + 1) + t (y.2.2.1 m) := su_up hp nb0 n hr
        have eC : bkC c n y m (lp + 1) = if bkC c n y (m + 1) (lp + 1) = -1 then c (y.2.2.1 m) else min (bkC c n y (m + 1) (lp + 1)) (c (y.2.2.1 m)) := mn_up hp nb0 n (fun i hi => (hB i hi).1.1) hr
        have ih := fb_loop db1 db2 hL hB hY hW hG hs hlp hfr h0 m F (by omega) (by omega)
        rw [eT, eC] at ih
        unfold f_X0_findBar_109
        have g3 : (zI z b 3 (iv (mkR y.2.2.1 (m + 1) (lp + 1) : Int))).1 b 3 = iv (mkR y.2.2.1 (m + 1) (lp + 1) : Int) := by rw [rI, if_pos ⟨rfl, rfl⟩]
        have hL4 : LD (zI z b 3 (iv (mkR y.2.2.1 m (lp + 1) : Int))) u n c t q := LD_fr hL (fun a h => zI_n (db1 a h))
        rw [g3, bo, zI_same, takes_of hL4 sj, Option.bind_some, rd_in hr]
        have sC : sm (bkC c n y (m + 1) (lp + 1)) := by
          unfold bkC
          exact ⟨by omega, by omega⟩
        unfold f_X0_findBar_139 f_X0_findBar_148 f_X0_findBar_159
        have em2 : iv (m : Int) + -1 = iv ((m : Int) - 1) := by
          rw [n_m1, iv_add]
          rfl
        show (if iv (bkC c n y (m + 1) (lp + 1)) = -1 then ((f_X4_comesOf (zI z b 3 (iv (mkR y.2.2.1 m (lp + 1) : Int))) u (iv ((y.2.2.1 m : Nat) : Int))).bind _) else ((f_X4_comesOf (zI z b 3 (iv (mkR y.2.2.1 m (lp + 1) : Int))) u (iv ((y.2.2.1 m : Nat) : Int))).bind _)) = _
        rw [comes_of hL4 sj, Option.bind_some, Option.bind_some, rd_in hr]
        simp only [iv_eqm1 sC, iv_add, em2]
        rw [iv_min sC ⟨by omega, by omega⟩]
        by_cases w3 : bkC c n y (m + 1) (lp + 1) = -1
        · rw [if_pos w3] at ih ⊢
          exact ih
        · rw [if_neg w3] at ih ⊢
          exact ih
theorem fb_of (db1 : ∀ a, own u a → a ≠ b) (db2 : ∀ a, own o a → a ≠ b) (hL : LD z u n c t q) (hB : BD n c t q) (hY : LY z o n y) (hW : WY n y) (hG : GI n t q y) (hs : y.1 = n) {lp fr : Nat} (hlp : lp < n) (hfr : fr ≤ lp) (h0 : z.1 b 0 = iv (y.2.2.1 lp : Int)) :
    f_X0_findBar z b u o (iv (fr : Int)) (iv (lp : Int)) = some (fbR c t q n y lp (zI z b 2 (-1)) b (bp q y (q (y.2.2.1 lp)) fr (lp + 1))) := by
  have h8 := hL.2.1
  have hL' : LD (zI z b 2 (-1)) u n c t q := LD_fr hL (fun a h => zI_n (db1 a h))
  have hY' : LY (zI z b 2 (-1)) o n y := LY_fr hY (fun a h => zI_n (db2 a h))
  have h0' : (zI z b 2 (-1)).1 b 0 = iv (y.2.2.1 lp : Int) := by
    rw [rI, if_neg (by simp)]
    exact h0
  have h := fb_loop db1 db2 hL' hB hY' hW hG hs hlp hfr h0' (lp + 1) FU (Nat.le_refl _) (FU_8 (by omega))
  have m0 : mkR y.2.2.1 (lp + 1) (lp + 1) = 0 := mkR_out _ (Nat.le_refl _)
  have z0 : ∀ k, su t (Nat.testBit 0) k = 0 := fun k => by
    induction k with
    | zero => rfl
    | succ k ih => unfold su; rw [Nat.zero_testBit, if_neg (by decide), ih]
  have z1 : ∀ k, mn c (Nat.testBit 0) k = -1 := fun k => by
    induction k with
    | zero => rfl
    | succ k ih => show mnS c (Nat.testBit 0) k _ = -1; unfold mnS; rw [Nat.zero_testBit, if_neg (fun x => absurd x.1 (by decide)), ih]
  unfold bkT bkC at h
  rw [m0, z0, z1, show ((lp + 1 : Nat) : Int) - 1 = (lp : Int) by omega] at h
  unfold f_X0_findBar f_X0_findBar_0
  rw [n_0, n_m1]
  exact h
noncomputable def fdZ (q : Nat → Int) (n : Nat) (y : Ly) (z : St) (b : Nat) : St := zI (zI (zI (zI z b 0 (iv (y.2.2.1 (pl q y n).toNat : Int))) b 1 (iv (y.2.2.1 (fp y (pl q y n).toNat) : Int))) b 4 (iv (((pl q y n).toNat : Int) - (fp y (pl q y n).toNat : Int) + 1))) b 2 (-1)
noncomputable def bkB (q : Nat → Int) (n : Nat) (y : Ly) : Int := bp q y (q (y.2.2.1 (pl q y n).toNat)) (fp y (pl q y n).toNat) ((pl q y n).toNat + 1)
theorem pl_ex {q : Nat → Int} {y : Ly} {i : Nat} (h : y.2.2.2.2.1 (y.2.2.1 i) + q (y.2.2.1 i) = y.2.2.2.2.2.2.1) : ∀ k, i < k → 0 ≤ pl q y k
  | 0, w => absurd w (Nat.not_lt_zero _)
  | k + 1, w => by
    show 0 ≤ plS q y k (pl q y k)
    unfold plS
    by_cases e : i = k
    · subst e
      rw [if_pos h]
      omega
    · have := pl_ex h k (by omega)
      split <;> omega
theorem fd_loop (db1 : ∀ a, own u a → a ≠ b) (db2 : ∀ a, own o a → a ≠ b) (hL : LD z u n c t q) (hB : BD n c t q) (hY : LY z o n y) (hW : WY n y) (hG : GI n t q y) (hs : y.1 = n) (hp : 0 ≤ pl q y n) : ∀ (m F : Nat), m ≤ (pl q y n).toNat → m < F → fp y (pl q y n).toNat = fp y m →
    f_X0_find_9 F z b u o (iv ((pl q y n).toNat : Int)) (iv (m : Int)) = some (fbR c t q n y (pl q y n).toNat (fdZ q n y z b) b (bkB q n y))
  | _, 0, _, h, _ => absurd h (Nat.not_lt_zero _)
  | m, F + 1, hm, hF, he => by
    have h8 := hL.2.1
    have hpb := pl_b (q := q) (y := y) n
    have hrow : ∀ i, i < y.1 → y.2.2.1 i < n := hW.2.2.2.2.2
    have hfl := fp_le (y := y) (pl q y n).toNat
    generalize hlp : (pl q y n).toNat = lp at *
    have smk : ∀ k, k ≤ lp → sm (k : Int) := fun k hk => sm_k (by omega)
    have fin : ∀ fr, fr = fp y lp → f_X0_find_45 z b u o (iv (lp : Int)) (iv (fr : Int)) = some (fbR c t q n y lp (fdZ q n y z b) b (bkB q n y)) := fun fr hf => by
      unfold f_X0_find_45
      have hY2 : ∀ v, LY (zI z b 0 v) o n y := fun v => LY_fr hY (fun a h => zI_n (db2 a h))
      have hL3 : ∀ v w x, LD (zI (zI (zI z b 0 v) b 1 w) b 4 x) u n c t q := fun v w x => LD_fr hL (fun a h => by rw [zI_n (db1 a h), zI_n (db1 a h), zI_n (db1 a h)])
      have hY3 : ∀ v w x, LY (zI (zI (zI z b 0 v) b 1 w) b 4 x) o n y := fun v w x => LY_fr hY (fun a h => by rw [zI_n (db2 a h), zI_n (db2 a h), zI_n (db2 a h)])
      rw [ja_of h8 hY hW (smk lp (Nat.le_refl _)), Option.bind_some, gj_in (by omega)]
      show ((f_X3_jobAt (zI z b 0 (iv ((y.2.2.1 lp : Nat) : Int))) o (iv (fr : Int))).bind _) = _
      rw [ja_of h8 (hY2 _) hW (smk fr (by omega)), Option.bind_some, gj_in (by omega)]
      simp only [iv_sub, n_1, iv_add]
      rw [fb_of db1 db2 (hL3 _ _ _) hB (hY3 _ _ _) hW hG hs (by omega) (by omega) (by simp only [rI, reduceIte, Nat.reduceEqDiff, and_false, and_true])]
      unfold fdZ bkB
      rw [hlp, ← hf]
      rfl
    rw [f_X0_find_9]
    by_cases w : m = 0
    · subst w
      rw [if_pos (by rw [n_0]; exact Int32.le_refl _)]
      exact fin 0 (by rw [he]; rfl)
    · obtain ⟨k, rfl⟩ : ∃ k, m = k + 1 := ⟨m - 1, by omega⟩
      rw [if_neg (fun x => by rw [n_0] at x; have := (iv_le (smk _ hm) (by constructor <;> decide)).mp x; omega)]
      unfold f_X0_find_14
      have r1 := hrow (k + 1) (by omega)
      have r0 := hrow k (by omega)
      have t1 := hG.1 (k + 1) (by omega)
      have t0 := hG.1 k (by omega)
      have g1 := hG.2.2.2 (k + 1) (by omega)
      have g0 := hG.2.2.2 k (by omega)
      have q1 := hB _ r1
      have q0 := hB _ r0
      have we := hW.2.2.1
      have ek : iv ((k + 1 : Nat) : Int) - 1 = iv (k : Int) := by
        rw [n_1, iv_sub]
        congr 1
        omega
      have ek2 : iv ((k + 1 : Nat) : Int) + -1 = iv (k : Int) := by
        rw [n_m1, iv_add]
        congr 1
        omega
      rw [ja_of h8 hY hW (smk _ hm), Option.bind_some, gj_in (by omega)]
      show ((f_X3_beginOf z o (iv ((y.2.2.1 (k + 1) : Nat) : Int))).bind _) = _
      rw [bg_of h8 hY hW (sm_k (by omega)), Option.bind_some, gt_in (by omega) t1]
      show ((f_X3_jobAt z o (iv ((k + 1 : Nat) : Int) - 1)).bind _) = _
      rw [ek, ja_of h8 hY hW (smk k (by omega)), Option.bind_some, gj_in (by omega)]
      show ((f_X3_endOf z o (iv ((y.2.2.1 k : Nat) : Int))).bind _) = _
      rw [en_of h8 hY hW (sm_k (by omega)), Option.bind_some, gt_in (by omega) t0]
      have ie := iv_eq (x := y.2.2.2.1 (y.2.2.1 (k + 1))) (y := y.2.2.2.2.1 (y.2.2.1 k)) ⟨by omega, by omega⟩ ⟨by omega, by omega⟩
      show (if iv (y.2.2.2.1 (y.2.2.1 (k + 1))) = iv (y.2.2.2.2.1 (y.2.2.1 k)) then _ else _) = _
      by_cases we : y.2.2.2.1 (y.2.2.1 (k + 1)) = y.2.2.2.2.1 (y.2.2.1 k)
      · rw [if_pos (ie.mpr we)]
        unfold f_X0_find_39
        rw [ek2]
        have ef : fp y (k + 1) = fp y k := if_pos we
        have := fd_loop db1 db2 hL hB hY hW hG hs hp k F (by omega) (by omega) (by rw [hlp, he, ef])
        rw [hlp] at this
        exact this
      · rw [if_neg (fun x => we (ie.mp x))]
        have ef : fp y (k + 1) = k + 1 := if_neg we
        exact fin (k + 1) (by rw [he, ef])
theorem fd_of (db1 : ∀ a, own u a → a ≠ b) (db2 : ∀ a, own o a → a ≠ b) (hL : LD z u n c t q) (hB : BD n c t q) (hY : LY z o n y) (hW : WY n y) (hG : GI n t q y) (hs : y.1 = n) (hn : 0 < n) : f_X0_find z b u o = some (fbR c t q n y (pl q y n).toNat (fdZ q n y z b) b (bkB q n y)) ∧ 0 ≤ pl q y n := by
  have h8 := hL.2.1
  have hp : 0 ≤ pl q y n := by
    rcases hG.2.2.1 with w | ⟨i, i1, i2⟩
    · omega
    · exact pl_ex i2 n (by omega)
  have hpb := pl_b (q := q) (y := y) n
  refine ⟨?_, hp⟩
  unfold f_X0_find f_X0_find_0
  rw [pl_of hL hB hY hW hG hs, Option.bind_some]
  have e : pl q y n = (((pl q y n).toNat : Nat) : Int) := by omega
  have := fd_loop db1 db2 hL hB hY hW hG hs hp (pl q y n).toNat FU (Nat.le_refl _) (FU_8 (by omega)) rfl
  rw [← e] at this
  exact this
end BLOCK
