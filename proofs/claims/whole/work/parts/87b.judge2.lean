/-! JUDGE, class beside model -/
noncomputable def jbg (c t q : Nat → Int) (w : Nat → Int) (k : Nat) : Int := max (jl c t q w k).2.2.2.2.2.1 (c (w k).toNat)
noncomputable def latJ (c t q : Nat → Int) (n : Nat) (w : Nat → Int) : Nat → Nat
  | 0 => 0
  | k + 1 => if (gr c t q n n).2.2.2.1 (w k).toNat < jbg c t q w k then latJ c t q n w k + 1 else latJ c t q n w k
noncomputable def wtJ (c t q : Nat → Int) (w : Nat → Int) : Nat → Int
  | 0 => 0
  | k + 1 => max (wtJ c t q w k) (jbg c t q w k - c (w k).toNat)
noncomputable def juV (c t q : Nat → Int) (n : Nat) (w : Nat → Int) (x : Int) : Int := if x = 0 then (jl c t q w n).2.2.2.2.2.2.1 else if x = 1 then (jl c t q w n).2.2.2.2.2.2.2 else if x = 2 then (latJ c t q n w n : Int) else wtJ c t q w n
section JUDGE2
variable {z z1 z2 : St} {y : Sy} {n : Nat} {c t q w : Nat → Int} {v : Nat → Nat → Int} {s : Sh}
theorem latJ_s {k : Nat} : latJ c t q n w (k + 1) = if (gr c t q n n).2.2.2.1 (w k).toNat < jbg c t q w k then latJ c t q n w k + 1 else latJ c t q n w k := rfl
theorem latJ_le : ∀ k, latJ c t q n w k ≤ k
  | 0 => Nat.le_refl _
  | k + 1 => by
    have := latJ_le k
    rw [latJ_s]
    split <;> omega
theorem jbg_b (hB : BD n c t q) (hn : n ≤ 8) (h : ∀ m, m < n → 0 ≤ w m ∧ w m < n) {k : Nat} (hk : k < n) : 0 ≤ jbg c t q w k ∧ jbg c t q w k ≤ 4000 ∧ c (w k).toNat ≤ jbg c t q w k := by
  have hW := jl_W hB hn k (by omega) (fun m hm => h m (by omega))
  have b := hB (w k).toNat (by have := h k hk; omega)
  have h3 := hW.2.2.1
  have h1 := hW.1
  unfold jbg
  omega
theorem wtJ_b (hB : BD n c t q) (hn : n ≤ 8) (h : ∀ m, m < n → 0 ≤ w m ∧ w m < n) : ∀ k, k ≤ n → 0 ≤ wtJ c t q w k ∧ wtJ c t q w k ≤ 4000
  | 0, _ => ⟨Int.le_refl _, by show (0 : Int) ≤ 4000; decide⟩
  | k + 1, hk => by
    have ih := wtJ_b hB hn h k (by omega)
    have b := jbg_b hB hn h (show k < n by omega)
    have b2 := hB (w k).toNat (by have := h k (by omega); omega)
    show 0 ≤ max (wtJ c t q w k) (jbg c t q w k - c (w k).toNat) ∧ max (wtJ c t q w k) (jbg c t q w k - c (w k).toNat) ≤ 4000
    omega
theorem gr_WB (hB : BD n c t q) (hn : n ≤ 8) {j : Nat} (hj : j < n) : sm ((gr c t q n n).2.2.2.1 j) := by
  have hG := (gr_GI hB hn n (Nat.le_refl _))
  obtain ⟨w1, w2, w3⟩ := gr_inv hB hn n (Nat.le_refl _)
  have inv : ∀ k, k ≤ n → ∀ j, Nat.testBit (gr c t q n k).2.1 j = true → 0 ≤ (gr c t q n k).2.2.2.1 j ∧ (gr c t q n k).2.2.2.1 j ≤ 4000 := by
    intro k
    induction k with
    | zero =>
      intro _ j hj
      have hj : Nat.testBit 0 j = true := hj
      rw [Nat.zero_testBit] at hj
      exact absurd hj (by decide)
    | succ k ih =>
      intro hk j hj
      obtain ⟨v1, v2, v3⟩ := gr_inv hB hn k (by omega)
      have g := gr_next hB (y := gr c t q n k) (by omega)
      have bc := hB _ g.2.1
      have v5 := v1.2.2.1
      have v6 := v1.1
      show 0 ≤ up (gr c t q n k).2.2.2.1 (grJ c t q n (gr c t q n k)) (max (gr c t q n k).2.2.2.2.2.1 (c (grJ c t q n (gr c t q n k)))) j ∧ up (gr c t q n k).2.2.2.1 (grJ c t q n (gr c t q n k)) (max (gr c t q n k).2.2.2.2.2.1 (c (grJ c t q n (gr c t q n k)))) j ≤ 4000
      unfold up
      by_cases e : j = grJ c t q n (gr c t q n k)
      · rw [if_pos e]
        omega
      · rw [if_neg e]
        have hj : Nat.testBit ((gr c t q n k).2.1 ||| (1 <<< grJ c t q n (gr c t q n k))) j = true := hj
        rw [or_bit] at hj
        simp [e] at hj
        exact ih (by omega) j hj
  have := inv n (Nat.le_refl _) j (gr_mem hB hn hj)
  exact ⟨by omega, by omega⟩
theorem lat_c (hB : BD n c t q) (hn : n ≤ 8) (hok : ∀ m, m < n → okJ c t q n w m) (hY : LY z 33 n (jl c t q w n)) (hG : LY z 29 n (gr c t q n n)) : f_X3_laterThan z 33 29 = some (z, iv (latJ c t q n w n : Int)) := by
  have hr : ∀ m, m < n → 0 ≤ w m ∧ w m < n := fun m hm => (hok m hm).1
  have hW := jl_W (c := c) (t := t) (q := q) hB hn n (Nat.le_refl _) hr
  obtain ⟨w1, w2, w3⟩ := gr_inv hB hn n (Nat.le_refl _)
  unfold f_X3_laterThan f_X3_laterThan_0
  refine loop_up (n := n) (fun F k (b : Nat) => f_X3_laterThan_4 F z 33 29 (iv (b : Int)) (iv (k : Int))) (latJ c t q n w) (fun F => ?_) (fun F k hk => ?_) n 0 FU (by omega) (FU_8 (by omega))
  · show f_X3_laterThan_4 _ _ _ _ _ _ = _
    rw [f_X3_laterThan_4, hY.1.1, jl_1, if_pos sz_t]
    rfl
  · have hk1 := hr k hk
    have j1 : f_X3_jobAt z 33 (iv (k : Int)) = some (z, iv ((w k).toNat : Int)) := by
      rw [ja_of hn hY hW (sm_k (by omega)), gj_in (by rw [jl_1]; omega), jl_row n hk]
    have b1 : f_X3_beginOf z 33 (iv ((w k).toNat : Int)) = some (z, iv (jbg c t q w k)) := by
      rw [bg_of hn hY hW (sm_k (by omega)), gt_in (by omega) (jl_bit n hk), jl_beg (fun m hm => (hok m hm).2) n (Nat.le_refl _) hk]
      rfl
    have b2 : f_X3_beginOf z 29 (iv ((w k).toNat : Int)) = some (z, iv ((gr c t q n n).2.2.2.1 (w k).toNat)) := by
      rw [bg_of hn hG w1 (sm_k (by omega)), gt_in (by omega) (gr_mem hB hn (by omega))]
    have bb := jbg_b (t := t) (q := q) hB hn hr hk
    have il := iv_le (x := jbg c t q w k) (y := (gr c t q n n).2.2.2.1 (w k).toNat) ⟨by omega, by omega⟩ (gr_WB hB hn (by omega))
    show f_X3_laterThan_4 _ _ _ _ _ _ = f_X3_laterThan_4 F z 33 29 (iv (latJ c t q n w (k + 1) : Int)) _
    rw [f_X3_laterThan_4, hY.1.1, jl_1, if_neg (sz_f hk (by omega))]
    unfold f_X3_laterThan_12 f_X3_laterThan_33 f_X3_laterThan_36
    rw [j1, Option.bind_some, b1, Option.bind_some, j1, Option.bind_some, b2, Option.bind_some, latJ_s]
    simp only [il, iv_s]
    by_cases g : jbg c t q w k ≤ (gr c t q n n).2.2.2.1 (w k).toNat
    · rw [if_pos g, if_neg (by omega)]
    · rw [if_neg g, if_pos (by omega)]
theorem wt_c (hL : LD z 21 n c t q) (hB : BD n c t q) (hok : ∀ m, m < n → okJ c t q n w m) (hY : LY z 33 n (jl c t q w n)) : f_X3_longestWait z 33 21 = some (z, iv (wtJ c t q w n)) := by
  have hn := hL.2.1
  have hr : ∀ m, m < n → 0 ≤ w m ∧ w m < n := fun m hm => (hok m hm).1
  have hW := jl_W (c := c) (t := t) (q := q) hB hn n (Nat.le_refl _) hr
  unfold f_X3_longestWait f_X3_longestWait_0
  refine loop_up (n := n) (fun F k b => f_X3_longestWait_4 F z 33 21 (iv b) (iv (k : Int))) (wtJ c t q w) (fun F => ?_) (fun F k hk => ?_) n 0 FU (by omega) (FU_8 (by omega))
  · show f_X3_longestWait_4 _ _ _ _ _ _ = _
    rw [f_X3_longestWait_4, hY.1.1, jl_1, if_pos sz_t]
    rfl
  · have hk1 := hr k hk
    have j1 : f_X3_jobAt z 33 (iv (k : Int)) = some (z, iv ((w k).toNat : Int)) := by
      rw [ja_of hn hY hW (sm_k (by omega)), gj_in (by rw [jl_1]; omega), jl_row n hk]
    have b1 : f_X3_beginOf z 33 (iv ((w k).toNat : Int)) = some (z, iv (jbg c t q w k)) := by
      rw [bg_of hn hY hW (sm_k (by omega)), gt_in (by omega) (jl_bit n hk), jl_beg (fun m hm => (hok m hm).2) n (Nat.le_refl _) hk]
      rfl
    have c1 : f_X4_comesOf z 21 (iv ((w k).toNat : Int)) = some (z, iv (c (w k).toNat)) := by
      rw [comes_of hL (sm_k (by omega)), rd_in (by omega)]
    have bb := jbg_b (t := t) (q := q) hB hn hr hk
    have b2 := hB (w k).toNat (by omega)
    have wb := wtJ_b (t := t) (q := q) hB hn hr k (by omega)
    show f_X3_longestWait_4 _ _ _ _ _ _ = f_X3_longestWait_4 F z 33 21 (iv (max (wtJ c t q w k) (jbg c t q w k - c (w k).toNat))) _
    rw [f_X3_longestWait_4, hY.1.1, jl_1, if_neg (sz_f hk (by omega))]
    unfold f_X3_longestWait_12
    rw [j1, Option.bind_some, b1, Option.bind_some, j1, Option.bind_some, c1, Option.bind_some, iv_sub, iv_max ⟨by omega, by omega⟩ ⟨by omega, by omega⟩, iv_s]
/-- the model's isOrder -/
theorem io_of (hL : MJ z n v) {i : Nat} (hi : i < 4) (hS : ShV s) (hM : MS z s) (hw : ∀ k, w k = (s.2.2 i k).toInt) (hn : s.2.1 i = n) (hB : BD n c t q) : f_X11_isOrder_19 FU z 68 (iv (i : Int)) 0 0 = some (z, if (∀ m, m < n → okJ c t q n w m) then 1 else 0) := by
  have h8 := hL.2.1
  have h40 := (hS i hi).2.1
  have key : ∀ (d k F : Nat), k + d = n → d < F → (∀ m, m < k → 0 ≤ w m ∧ w m < n) → f_X11_isOrder_19 F z 68 (iv (i : Int)) (iv ((jl c t q w k).2.1 : Int)) (iv (k : Int)) = some (z, if (∀ m, m < n → okJ c t q n w m) then 1 else 0) := by
    intro d
    induction d with
    | zero =>
      intro k F e hF hr
      have e : k = n := e
      subst e
      obtain ⟨F', rfl⟩ : ∃ F', F = F' + 1 := ⟨F - 1, by omega⟩
      have hW := jl_W (c := c) (t := t) (q := q) hB h8 k (Nat.le_refl _) hr
      have p8 := p2_lt h8
      have al : f_X11_all z 68 = some (z, iv ((2 ^ k - 1 : Nat) : Int)) := by
        unfold f_X11_all f_X11_all_0
        rw [hL.1, ev_all k (by omega)]
      rw [f_X11_isOrder_19, hL.1, if_pos sz_t]
      unfold f_X11_isOrder_74 f_X11_isOrder_82 f_X11_isOrder_86 f_X11_isOrder_87
      rw [al, Option.bind_some]
      have h2 := hW.2.1
      simp only [iv_eq (sm_k (show (jl c t q w k).2.1 < 2147483648 by omega)) (sm_k (show 2 ^ k - 1 < 2147483648 by omega)), zb_0, zb_1, if_true]
      have e2 := jl_all hB h8 hr
      by_cases g : ∀ m, m < k → okJ c t q k w m
      · rw [if_pos g, if_pos (by rw [e2.mpr (fun m hm => (g m hm).2)])]
      · rw [if_neg g, if_neg (fun x => g (fun m hm => ⟨hr m hm, e2.mp (by omega) m hm⟩))]
    | succ d ih =>
      intro k F e hF hr
      obtain ⟨F', rfl⟩ : ∃ F', F = F' + 1 := ⟨F - 1, by omega⟩
      have hk : k < n := by omega
      have hW := jl_W (c := c) (t := t) (q := q) hB h8 k (by omega) hr
      have cl : z.2 98 (40 * i + k) = s.2.2 i k := (hM i hi).2.2 k (by omega)
      have c0 : (lg_cmp (s.2.2 i k) 0 < 0) ↔ w k < 0 := by
        rw [lgc_lt, hw]
        rfl
      have cn : (lg_cmp (s.2.2 i k) (Int32.toInt64 (z.1 68 5)) < 0) ↔ w k < n := by
        rw [lgc_lt, hL.1, t64 (sm_k (by omega)), hw]
      rw [f_X11_isOrder_19, hL.1, if_neg (sz_f hk (by omega))]
      unfold f_X11_isOrder_27 f_X11_isOrder_47 f_X11_isOrder_58 f_X11_isOrder_60
      rw [iv_40 (i := (k : Int)) rfl, inb_k (show 40 * i + k < 160 by omega) (by decide), if_pos rfl, tn (by omega), r68_56, cl]
      simp only [c0, cn]
      by_cases g0 : w k < 0
      · rw [if_pos g0, if_neg (fun x => by have := (x k hk).1.1; omega)]
      · rw [if_neg g0]
        by_cases g1 : w k < n
        · rw [if_pos g1]
          have e32 : Int64.toInt32 (s.2.2 i k) = iv ((w k).toNat : Int) := by
            rw [t32 (by rw [← hw]; omega), ← hw, show (((w k).toNat : Nat) : Int) = w k by omega]
          rw [e32, bit_or _ (lt_256 h8 hW.2.1) _ (by omega), iv_s]
          exact ih (k + 1) F' (by omega) (by omega) (fun m hm => by
            by_cases q' : m = k
            · rw [q']
              omega
            · exact hr m (by omega))
        · rw [if_neg g1, if_neg (fun x => by have := (x k hk).1.2; omega)]
  exact key n 0 FU (by omega) (FU_8 (by omega)) (fun m hm => absurd hm (Nat.not_lt_zero _))
noncomputable def mjZ (c t q : Nat → Int) (n : Nat) (w : Nat → Int) (z : St) : Nat → St
  | 0 => z
  | k + 1 => zI (zI (mjZ c t q n w z k) 68 43 (iv (wtJ c t q w (k + 1)))) 68 44 (iv (latJ c t q n w (k + 1) : Int))
theorem mjZ_fr : ∀ k, Fr (fun a => a = 68) z (mjZ c t q n w z k)
  | 0 => Fr.refl
  | k + 1 => fr1 (fr1 (mjZ_fr k))
theorem mjZ_68 {j : Nat} (h1 : j ≠ 43) (h2 : j ≠ 44) : ∀ k, (mjZ c t q n w z k).1 68 j = z.1 68 j
  | 0 => rfl
  | k + 1 => by
    show (zI (zI (mjZ c t q n w z k) 68 43 _) 68 44 _).1 68 j = _
    rw [rI, if_neg (fun e => h2 e.2), rI, if_neg (fun e => h1 e.2), mjZ_68 h1 h2 k]
theorem mju_of (hL : MD z n c t q) (hB : BD n c t q) (hG : MG z n (gr c t q n n)) {i : Nat} (hi : i < 4) (hS : ShV s) (hM : MS z s) (hw : ∀ k, w k = (s.2.2 i k).toInt) (hn : s.2.1 i = n) (hok : ∀ m, m < n → okJ c t q n w m) (h43 : z.1 68 43 = iv 0) (h44 : z.1 68 44 = iv 0) {x : Int} (sx : sm x) : f_X11_judge_73 FU z 68 (iv (i : Int)) (iv x) 0 0 0 = some (mjZ c t q n w z n, Int32.toInt64 (iv (juV c t q n w x))) := by
  have h8 := hL.2.1
  have h40 := (hS i hi).2.1
  have hr : ∀ m, m < n → 0 ≤ w m ∧ w m < n := fun m hm => (hok m hm).1
  have mD : ∀ k, MD (mjZ c t q n w z k) n c t q := fun k => MD_fr hL (mjZ_68 (by decide) (by decide) k) (fun a e1 e2 => (mjZ_fr k a (by omega)).1)
  have m43 : ∀ k, (mjZ c t q n w z k).1 68 43 = iv (wtJ c t q w k) := fun k => by
    cases k with
    | zero => exact h43
    | succ k =>
      show (zI (zI (mjZ c t q n w z k) 68 43 _) 68 44 _).1 68 43 = _
      rw [rI, if_neg (by decide), rI, if_pos ⟨rfl, rfl⟩]
  have m44 : ∀ k, (mjZ c t q n w z k).1 68 44 = iv (latJ c t q n w k : Int) := fun k => by
    cases k with
    | zero => exact h44
    | succ k =>
      show (zI (zI (mjZ c t q n w z k) 68 43 _) 68 44 _).1 68 44 = _
      rw [rI, if_pos ⟨rfl, rfl⟩]
  refine loop_up (n := n) (fun F k b => f_X11_judge_73 F b 68 (iv (i : Int)) (iv x) (iv (jl c t q w k).2.2.2.2.2.2.1) (iv (jl c t q w k).2.2.2.2.2.1) (iv (k : Int))) (mjZ c t q n w z) (fun F => ?_) (fun F k hk => ?_) n 0 FU (by omega) (FU_8 (by omega))
  · show f_X11_judge_73 _ _ _ _ _ _ _ _ = _
    have id := jl_idle hok n (Nat.le_refl _)
    have hcb := (jl_cb (c := c) (t := t) (q := q) hr n (Nat.le_refl _)).2.mpr (fun m hm => (hok m hm).2)
    rw [su_cong n (fun i hi => cb_all n hcb i hi)] at id
    rw [f_X11_judge_73, (mD n).1, if_pos sz_t]
    unfold f_X11_judge_193 f_X11_judge_197 f_X11_judge_203 f_X11_judge_208 f_X11_judge_219 f_X11_judge_224 f_X11_judge_232 f_X11_judge_237 juV
    rw [n_0, n_1, n_2, m43, m44, atk_of (mD n) hB, Option.bind_some, iv_sub, ← id]
    simp only [iv_eqk sx 0, iv_eqk sx 1, iv_eqk sx 2]
    split
    · rfl
    · split
      · rfl
      · split <;> rfl
  · obtain ⟨-, e1, e2, e3, b1, b2, b3, b4, b5, b6, -, -⟩ := MD_at (mD k) hB (show (w k).toNat < n by have := hr k hk; omega)
    have hk1 := hr k hk
    have hW := jl_W (c := c) (t := t) (q := q) hB h8 k (by omega) (fun m hm => hr m (by omega))
    have bb := jbg_b (t := t) (q := q) hB h8 hr hk
    have wb := wtJ_b (t := t) (q := q) hB h8 hr k (by omega)
    have hb := hB (w k).toNat (by omega)
    have hW3 := hW.2.2.1
    have hW4 := hW.2.2.2.1
    have hW1 := hW.1
    have f2 : (mjZ c t q n w z k).2 98 (40 * i + k) = s.2.2 i k := by
      rw [(mjZ_fr k 98 (by decide)).2]
      exact (hM i hi).2.2 k (by omega)
    have e32 : Int64.toInt32 (s.2.2 i k) = iv ((w k).toNat : Int) := by
      rw [t32 (by rw [← hw]; omega), ← hw, show (((w k).toNat : Nat) : Int) = w k by omega]
    have g79 : (mjZ c t q n w z k).1 79 (w k).toNat = iv ((gr c t q n n).2.2.2.1 (w k).toNat) := by
      rw [(mjZ_fr k 79 (by decide)).1]
      exact (hG.2 _ (by omega) (gr_mem hB h8 (by omega))).1
    have il := iv_le (x := jbg c t q w k) (y := (gr c t q n n).2.2.2.1 (w k).toNat) ⟨by omega, by omega⟩ (gr_WB hB h8 (by omega))
    show f_X11_judge_73 _ _ _ _ _ _ _ _ = f_X11_judge_73 F (zI (zI (mjZ c t q n w z k) 68 43 (iv (wtJ c t q w (k + 1)))) 68 44 (iv (latJ c t q n w (k + 1) : Int))) 68 (iv (i : Int)) (iv x) (iv (max (jl c t q w k).2.2.2.2.2.2.1 (jbg c t q w k + t (w k).toNat + q (w k).toNat))) (iv (jbg c t q w k + t (w k).toNat)) (iv ((k + 1 : Nat) : Int))
    rw [f_X11_judge_73, (mD k).1, if_neg (sz_f hk (by omega))]
    unfold f_X11_judge_82 f_X11_judge_149 f_X11_judge_153 f_X11_judge_154
    have im : imax (iv (jl c t q w k).2.2.2.2.2.1) (iv (c (w k).toNat)) = iv (jbg c t q w k) := iv_max ⟨by omega, by omega⟩ ⟨by omega, by omega⟩
    have i8 : inb (iv ((w k).toNat : Int)) 8 = true := inb_k (by omega) (by decide)
    have i9 : (iv ((w k).toNat : Int)).toNatClampNeg = (w k).toNat := tn (by omega)
    rw [iv_40 (i := (k : Int)) rfl, inb_k (show 40 * i + k < 160 by omega) (by decide), if_pos rfl, tn (by omega), r68_56, f2, e32, i8, if_pos rfl, if_pos rfl, if_pos rfl, i9, r68_13, r68_14, r68_15, r68_17, e1, im, m43, iv_sub, iv_max ⟨by omega, by omega⟩ ⟨by omega, by omega⟩, zI_n (show (79 : Nat) ≠ 68 by decide), g79]
    simp only [il, i8, if_true, i9]
    have w44 : ∀ X : Int32, (zI (mjZ c t q n w z k) 68 43 X).1 68 44 = iv (latJ c t q n w k : Int) := fun X => by rw [rI, if_neg (by decide), m44]
    have wk : wtJ c t q w (k + 1) = max (wtJ c t q w k) (jbg c t q w k - c (w k).toNat) := rfl
    have a14 : ∀ X Y : Int32, (zI (zI (mjZ c t q n w z k) 68 43 X) 68 44 Y).1 76 (w k).toNat = iv (t (w k).toNat) := fun X Y => by rw [zI_n (by decide), zI_n (by decide), e2]
    have a15 : ∀ X Y : Int32, (zI (zI (mjZ c t q n w z k) 68 43 X) 68 44 Y).1 77 (w k).toNat = iv (q (w k).toNat) := fun X Y => by rw [zI_n (by decide), zI_n (by decide), e3]
    simp only [w44, a14, a15, iv_add, latJ_s, wk, iv_s]
    rw [iv_max ⟨by omega, by omega⟩ ⟨by omega, by omega⟩]
    by_cases g : jbg c t q w k ≤ (gr c t q n n).2.2.2.1 (w k).toNat
    · rw [if_pos g, if_neg (by omega), Int32.add_zero]
    · rw [if_neg g, if_pos (by omega)]
end JUDGE2
