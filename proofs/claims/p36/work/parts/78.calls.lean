/-! COUNT, GREEDY, BREAKING, BOUND, GO -/
theorem su_or {t : Nat → Int} {s j : Nat} (hb : Nat.testBit s j = false) : ∀ n, su t (Nat.testBit (s ||| (1 <<< j))) n = if j < n then su t (Nat.testBit s) n + t j else su t (Nat.testBit s) n
  | 0 => by
    rw [if_neg (Nat.not_lt_zero _)]
    rfl
  | k + 1 => by
    show (if Nat.testBit (s ||| (1 <<< j)) k = true then su t (Nat.testBit (s ||| (1 <<< j))) k + t k else su t (Nat.testBit (s ||| (1 <<< j))) k) = if j < k + 1 then (if Nat.testBit s k = true then su t (Nat.testBit s) k + t k else su t (Nat.testBit s) k) + t j else (if Nat.testBit s k = true then su t (Nat.testBit s) k + t k else su t (Nat.testBit s) k)
    rw [su_or hb k, or_bit]
    by_cases e : k = j
    · subst e
      rw [hb]
      simp
    · have e1 : (j < k + 1) ↔ j < k := by omega
      simp only [e, decide_false, Bool.or_false, e1]
      split <;> split <;> omega
section CALLS
variable {z z1 z2 : St} {y : Sy} {n : Nat} {c t q : Nat → Int} {v : Nat → Nat → Int}
theorem gr_idle (hB : BD n c t q) (hn : n ≤ 8) : ∀ k, k ≤ n → (gr c t q n k).2.2.2.2.2.2.2 = (gr c t q n k).2.2.2.2.2.1 - su t (Nat.testBit (gr c t q n k).2.1) n
  | 0, _ => by
    have e : ∀ m, su t (Nat.testBit 0) m = 0 := fun m => by
      induction m with
      | zero => rfl
      | succ m ih =>
        show (if Nat.testBit 0 m = true then _ else su t (Nat.testBit 0) m) = 0
        rw [Nat.zero_testBit, if_neg (by decide), ih]
    show (0 : Int) = 0 - su t (Nat.testBit 0) n
    rw [e]
    rfl
  | k + 1, hk => by
    obtain ⟨h1, h2, h3⟩ := gr_inv hB hn k (by omega)
    have g := gr_next hB (y := gr c t q n k) (by omega)
    have ih := gr_idle hB hn k (by omega)
    show (gr c t q n k).2.2.2.2.2.2.2 + (max (gr c t q n k).2.2.2.2.2.1 (c (grJ c t q n (gr c t q n k))) - (gr c t q n k).2.2.2.2.2.1) = max (gr c t q n k).2.2.2.2.2.1 (c (grJ c t q n (gr c t q n k))) + t (grJ c t q n (gr c t q n k)) - su t (Nat.testBit ((gr c t q n k).2.1 ||| (1 <<< grJ c t q n (gr c t q n k)))) n
    rw [su_or g.2.2.1, if_pos g.2.1, ih]
    omega
theorem gr_idle_all (hB : BD n c t q) (hn : n ≤ 8) : (gr c t q n n).2.2.2.2.2.2.2 = (gr c t q n n).2.2.2.2.2.1 - su t (fun _ => true) n := by
  obtain ⟨h1, h2, h3⟩ := gr_inv hB hn n (Nat.le_refl _)
  rw [gr_idle hB hn n (Nat.le_refl _), su_cong n (fun i hi => cb_all n h2 i hi)]
theorem gr_mem (hB : BD n c t q) (hn : n ≤ 8) {j : Nat} (hj : j < n) : Nat.testBit (gr c t q n n).2.1 j = true := cb_all n (gr_inv hB hn n (Nat.le_refl _)).2.1 j hj
theorem Both_r {α : Type} (h : INV z y) {f : Option (St × α)} {g : St → Option (St × α)} {r : α} (hf : f = some (z1, r)) (f1 : Fr sC z z1) (hg : g z1 = some (z2, r)) (f2 : Fr (fun a => sM a ∨ a = 68) z1 z2) (hk : ∀ k, k68 k → z2.1 68 k = z1.1 68 k) : Both f g := ⟨z1, z2, r, hf, hg, y, INV_m (INV_c h f1) f2 hk⟩
theorem XM_sC (h : INV z y) (f1 : Fr sC z z1) : XM z1 y := XM_c h.2.1 (f1.mono (fun a e => by unfold sC at e; omega))
theorem atk_of (hL : MD z n c t q) (hB : BD n c t q) : f_X11_allTake z 68 = some (z, iv (su t (fun _ => true) n)) := by
  have h8 := hL.2.1
  refine loop_up (n := n) (fun F k b => f_X11_allTake_4 F z 68 (iv b) (iv (k : Int))) (su t (fun _ => true)) (fun F => ?_) (fun F k hk => ?_) n 0 FU (by omega) (FU_8 (by omega))
  · show f_X11_allTake_4 _ _ _ _ _ = _
    rw [f_X11_allTake_4, hL.1, if_pos sz_t]
    rfl
  · obtain ⟨-, e1, e2, e3, b1, b2, b3, b4, b5, b6, i1, i2⟩ := MD_at hL hB hk
    show f_X11_allTake_4 _ _ _ _ _ = f_X11_allTake_4 F z 68 (iv (su t (fun _ => true) k + t k)) _
    rw [f_X11_allTake_4, hL.1, if_neg (sz_f hk (by omega))]
    unfold f_X11_allTake_12
    rw [i1, i2, if_pos rfl, r68_14, e2, iv_add, iv_s]
theorem sM_75 {z z' : St} (h : Fr (fun a => 75 ≤ a ∧ a ≤ 77) z z') : Fr (fun a => sM a ∨ a = 68) z z' := h.mono (fun a e => Or.inl (by unfold sM; omega))
theorem k68_75 {z z' : St} (h : Fr (fun a => 75 ≤ a ∧ a ≤ 77) z z') : ∀ k, k68 k → z'.1 68 k = z.1 68 k := fun k _ => by rw [(h 68 (by decide)).1]
theorem s_count (h : INV z y) (a : Int32) : Both (f_X10_count z 0 a) (fun z => f_X11_count z 68 a) := by
  obtain ⟨w, sw, rfl⟩ := ex_iv a
  have hB := BD_O h.2.2.1
  obtain ⟨t1, t2, t3⟩ := th_of h.2.1.1 h.2.2.1
  have t5 := (t3 68 (by decide)).1
  by_cases g : 0 ≤ w ∧ w ≤ 2
  · refine Both_r h (r := iv (if w = 0 then (y.1 : Int) else if w = 1 then su (tkO y.2.1) (fun _ => true) y.1 else (y.2.2.2.1.1 : Int))) (z1 := z) ?_ Fr.refl (z2 := thZ y.2.1 z y.1) ?_ (sM_75 t3) (k68_75 t3)
    · unfold f_X10_count f_X10_count_0 f_X10_count_52 f_X10_count_44 f_X10_count_36 f_X10_count_28
      rw [n_0, n_1, n_2, r0_0, r0_3, r0_4, h.1.1.1, h.1.2.2.2.1.1, tall_of h.1.2.1 hB, Option.bind_some]
      simp only [iv_eqk sw 0, iv_eqk sw 1, iv_eqk sw 2]
      rcases (show w = 0 ∨ w = 1 ∨ w = 2 by omega) with rfl | rfl | rfl <;> simp
    · show f_X11_count z 68 (iv w) = _
      unfold f_X11_count f_X11_count_0 f_X11_count_12 f_X11_count_27 f_X11_count_39 f_X11_count_32 f_X11_count_20 f_X11_count_43 f_X11_count_9
      rw [n_2, n_0, in_ob sw (sm_d 0) (sm_d 2), Option.bind_some, ← n_0]
      simp only [ob_0]
      rw [if_neg (fun e => e g), t1, Option.bind_some, n_0, n_1]
      simp only [iv_eqk sw 0, iv_eqk sw 1, atk_of t2 hB, Option.bind_some, t2.1]
      have e7 : (thZ y.2.1 z y.1).1 68 7 = iv (y.2.2.2.1.1 : Int) := by
        rw [t5]
        exact h.2.1.2.2.1.1
      rcases (show w = 0 ∨ w = 1 ∨ w = 2 by omega) with rfl | rfl | rfl <;> simp [e7]
  · refine Both_s h (r := iv (-2)) ?_ ?_
    · unfold f_X10_count f_X10_count_0 f_X10_count_52 f_X10_count_44 f_X10_count_36 f_X10_count_28
      rw [n_m2, n_0, n_1, n_2]
      simp only [iv_eqk sw 0, iv_eqk sw 1, iv_eqk sw 2]
      rw [if_neg (by omega), if_neg (by omega), if_neg (by omega)]
    · show f_X11_count z 68 (iv w) = _
      unfold f_X11_count f_X11_count_0 f_X11_count_12 f_X11_count_27 f_X11_count_39 f_X11_count_32 f_X11_count_20 f_X11_count_43 f_X11_count_9
      rw [n_m2, n_2, n_0, in_ob sw (sm_d 0) (sm_d 2), Option.bind_some, ← n_0]
      simp only [ob_0]
      rw [if_pos g]
theorem lgZ_sC : Fr sC z (lgZ c t q z 29 n n) := (lgZ_fr (by decide) n).mono (fun a e => by have := own_rng (o := 29) (Or.inl (by decide)) e; unfold sC; omega)
theorem s_greedy (h : INV z y) (a b : Int32) : Both (f_X10_greedy z 0 a b) (fun z => f_X11_greedy z 68 a b) := by
  obtain ⟨k, sk, rfl⟩ := ex_iv a
  obtain ⟨w, sw, rfl⟩ := ex_iv b
  have hB := BD_O h.2.2.1
  have h8 := h.1.1.2.1
  obtain ⟨c, hc⟩ : ∃ c, c = cmO y.2.1 := ⟨_, rfl⟩
  obtain ⟨t, ht⟩ : ∃ t, t = tkO y.2.1 := ⟨_, rfl⟩
  obtain ⟨q, hq⟩ : ∃ q, q = clO y.2.1 := ⟨_, rfl⟩
  have hL := h.1.2.1
  rw [← hc, ← ht, ← hq] at hB hL
  by_cases g1 : 0 ≤ w ∧ w ≤ 1
  · by_cases g2 : -1 ≤ k ∧ k < y.1
    · have lg := lg_of (o := 29) (u := 21) (by decide) (by decide) hL hB
      have hY := lgZ_LY (z := z) (o := 29) (by decide) hB h8 y.1 (Nat.le_refl _)
      obtain ⟨w1, w2, w3⟩ := gr_inv hB h8 y.1 (Nat.le_refl _)
      have f1 : Fr sC z (lgZ c t q z 29 y.1 y.1) := lgZ_sC
      have hM := XM_sC h f1
      obtain ⟨t1, t2, t3⟩ := th_of hM.1 h.2.2.1
      rw [← hc, ← ht, ← hq] at t2
      have mg := mg_of t2 hB
      have mM := mgZ_MG (z := thZ y.2.1 (lgZ c t q z 29 y.1 y.1) y.1) (c := c) (t := t) (q := q) hB h8 y.1 (Nat.le_refl _)
      have mD := mgZ_MD t2 (c := c) (t := t) (q := q) y.1
      have mf := mgZ_fr (z := thZ y.2.1 (lgZ c t q z 29 y.1 y.1) y.1) (c := c) (t := t) (q := q) (n := y.1) y.1
      have fl : ∀ k', k' < y.1 → (gr c t q y.1 y.1).2.2.1 k' < y.1 := fun k' hk => w1.2.2.2.2.2 k' (by omega)
      let r : Int := if k = -1 then (if w = 0 then (gr c t q y.1 y.1).2.2.2.2.2.2.1 else (gr c t q y.1 y.1).2.2.2.2.2.2.2) else (if w = 0 then ((gr c t q y.1 y.1).2.2.1 k.toNat : Int) else (gr c t q y.1 y.1).2.2.2.1 ((gr c t q y.1 y.1).2.2.1 k.toNat))
      refine Both_r h (r := iv r) (z1 := lgZ c t q z 29 y.1 y.1) ?_ f1 (z2 := zI (mgZ c t q (thZ y.2.1 (lgZ c t q z 29 y.1 y.1) y.1) y.1 y.1) 68 19 (iv (gr c t q y.1 y.1).2.2.2.2.2.1)) ?_ ?_ ?_
      · unfold f_X10_greedy f_X10_greedy_0 f_X10_greedy_4 f_X10_greedy_12 f_X10_greedy_17 f_X10_greedy_31 f_X10_greedy_69 f_X10_greedy_86 f_X10_greedy_82 f_X10_greedy_94 f_X10_greedy_47 f_X10_greedy_61 f_X10_greedy_51 f_X10_greedy_68 f_X10_greedy_28 f_X10_greedy_9
        rw [r0_0, r0_4, r0_6, h.1.1.1, n_m1, n_1, lg]
        simp only [iv_lt0 sw, iv_lek sw 1, iv_ltk sk (-1), iv_lt sk (sm_k (show y.1 < 2147483648 by omega)), iv_eqk sk (-1), Option.bind_some]
        rw [if_neg (by omega), if_pos g1.2, if_neg (by omega), if_pos g2.2, n_0]
        simp only [iv_eqk sw 0]
        by_cases k1 : k = -1
        · show (if k = -1 then _ else _) = some (_, iv (if k = -1 then _ else _))
          rw [if_pos k1, if_pos k1, hY.1.2.2.2.1, hY.1.2.2.2.2]
          by_cases w0 : w = 0
          · rw [if_pos w0, if_pos w0]
          · rw [if_neg w0, if_neg w0]
        · obtain ⟨u, rfl⟩ : ∃ u : Nat, k = u := ⟨k.toNat, by omega⟩
          have hu : u < y.1 := by omega
          show (if (u : Int) = -1 then _ else _) = some (_, iv (if (u : Int) = -1 then _ else _))
          rw [if_neg k1, if_neg k1, ja_of h8 hY w1 sk, Option.bind_some, gj_in (by omega)]
          simp only [Int.toNat_natCast]
          by_cases w0 : w = 0
          · rw [if_pos w0, if_pos w0]
          · rw [if_neg w0, if_neg w0]
            show ((f_X3_beginOf _ 29 (iv ((gr c t q y.1 y.1).2.2.1 u : Int))).bind _) = _
            rw [bg_of h8 hY w1 (sm_k (by have := fl u hu; omega)), Option.bind_some, gt_in (by have := fl u hu; omega) (gr_mem hB h8 (fl u hu))]
      · show f_X11_greedy _ 68 _ _ = _
        unfold f_X11_greedy f_X11_greedy_0 f_X11_greedy_12 f_X11_greedy_29 f_X11_greedy_42 f_X11_greedy_50 f_X11_greedy_46 f_X11_greedy_59 f_X11_greedy_60 f_X11_greedy_73 f_X11_greedy_64 f_X11_greedy_84 f_X11_greedy_26 f_X11_greedy_9
        rw [n_m1, n_1, n_0, in_ob sw (sm_d 0) (sm_d 1), Option.bind_some, ← n_0]
        simp only [ob_0]
        rw [if_neg (fun e => e g1), hM.1.1, iv_sub, in_ob sk (sm_d (-1)) ⟨by omega, by omega⟩, Option.bind_some]
        simp only [ob_0]
        rw [if_neg (fun e => e ⟨g2.1, by omega⟩), t1, Option.bind_some, mg, Option.bind_some]
        have ge : (iv 0 ≤ iv k) ↔ 0 ≤ k := iv_kle sk 0
        have c19 : (zI (mgZ c t q (thZ y.2.1 (lgZ c t q z 29 y.1 y.1) y.1) y.1 y.1) 68 19 (iv (gr c t q y.1 y.1).2.2.2.2.2.1)).1 68 19 = iv (gr c t q y.1 y.1).2.2.2.2.2.1 := by rw [rI, if_pos ⟨rfl, rfl⟩]
        have mD2 : MD (zI (mgZ c t q (thZ y.2.1 (lgZ c t q z 29 y.1 y.1) y.1) y.1 y.1) 68 19 (iv (gr c t q y.1 y.1).2.2.2.2.2.1)) y.1 c t q := MD_fr mD (by rw [rI, if_neg (by decide)]) (fun a e1 e2 => by rw [zI_n (by omega)])
        rw [n_0]
        simp only [ge, iv_eqk sw 0, atk_of mD2 hB, Option.bind_some, c19, iv_sub]
        by_cases k1 : k = -1
        · show _ = some (_, iv (if k = -1 then _ else _))
          rw [if_neg (by omega), if_pos k1]
          by_cases w0 : w = 0
          · rw [if_pos w0, if_pos w0]
          · rw [if_neg w0, if_neg w0, gr_idle_all hB h8]
        · obtain ⟨u, rfl⟩ : ∃ u : Nat, k = u := ⟨k.toNat, by omega⟩
          have hu : u < y.1 := by omega
          have flu := fl u hu
          show _ = some (_, iv (if (u : Int) = -1 then _ else _))
          have m78 : (zI (mgZ c t q (thZ y.2.1 (lgZ c t q z 29 y.1 y.1) y.1) y.1 y.1) 68 19 (iv (gr c t q y.1 y.1).2.2.2.2.2.1)).1 78 u = iv ((gr c t q y.1 y.1).2.2.1 u : Int) := by
            rw [zI_n (by decide)]
            exact mM.1 u (by omega)
          have m79 : (zI (mgZ c t q (thZ y.2.1 (lgZ c t q z 29 y.1 y.1) y.1) y.1 y.1) 68 19 (iv (gr c t q y.1 y.1).2.2.2.2.2.1)).1 79 ((gr c t q y.1 y.1).2.2.1 u) = iv ((gr c t q y.1 y.1).2.2.2.1 ((gr c t q y.1 y.1).2.2.1 u)) := by
            rw [zI_n (by decide)]
            exact (mM.2 _ flu (gr_mem hB h8 flu)).1
          rw [if_pos (by omega), if_neg k1, r68_16, r68_17, inb_k (show u < 8 by omega) (by decide), tn (show u < 2147483648 by omega), m78, inb_k (show (gr c t q y.1 y.1).2.2.1 u < 8 by omega) (by decide), tn (show (gr c t q y.1 y.1).2.2.1 u < 2147483648 by omega), m79]
          simp only [Int.toNat_natCast, if_true]
          by_cases w0 : w = 0
          · rw [if_pos w0, if_pos w0]
          · rw [if_neg w0, if_neg w0]
      · refine Fr.zI ?_ (Or.inr rfl)
        exact (sM_75 t3).trans (mf.mono (fun a e => Or.inl (by unfold sM; omega)))
      · intro k' hk
        rw [rI, if_neg (by unfold k68 at hk; omega), (mf 68 (by decide)).1]
        exact k68_75 t3 k' hk
    · refine Both_s h (r := iv (-12)) ?_ ?_
      · unfold f_X10_greedy f_X10_greedy_0 f_X10_greedy_4 f_X10_greedy_12 f_X10_greedy_17 f_X10_greedy_31 f_X10_greedy_69 f_X10_greedy_86 f_X10_greedy_82 f_X10_greedy_94 f_X10_greedy_47 f_X10_greedy_61 f_X10_greedy_51 f_X10_greedy_68 f_X10_greedy_28 f_X10_greedy_9
        rw [r0_0, h.1.1.1, n_m1, n_1]
        simp only [iv_lt0 sw, iv_lek sw 1, iv_ltk sk (-1), iv_lt sk (sm_k (show y.1 < 2147483648 by omega))]
        rw [if_neg (by omega), if_pos g1.2]
        by_cases k1 : k < -1
        · rw [if_pos k1, n_m12]
        · rw [if_neg k1, if_neg (by omega), n_m12]
      · show f_X11_greedy _ 68 _ _ = _
        unfold f_X11_greedy f_X11_greedy_0 f_X11_greedy_12 f_X11_greedy_29 f_X11_greedy_42 f_X11_greedy_50 f_X11_greedy_46 f_X11_greedy_59 f_X11_greedy_60 f_X11_greedy_73 f_X11_greedy_64 f_X11_greedy_84 f_X11_greedy_26 f_X11_greedy_9
        rw [n_m1, n_1, n_0, in_ob sw (sm_d 0) (sm_d 1), Option.bind_some, ← n_0]
        simp only [ob_0]
        rw [if_neg (fun e => e g1), h.2.1.1.1, iv_sub, in_ob sk (sm_d (-1)) ⟨by omega, by omega⟩, Option.bind_some]
        simp only [ob_0]
        rw [if_pos (fun e => g2 ⟨e.1, by omega⟩), n_m12]
  · refine Both_s h (r := iv (-2)) ?_ ?_
    · unfold f_X10_greedy f_X10_greedy_0 f_X10_greedy_4 f_X10_greedy_12 f_X10_greedy_17 f_X10_greedy_31 f_X10_greedy_69 f_X10_greedy_86 f_X10_greedy_82 f_X10_greedy_94 f_X10_greedy_47 f_X10_greedy_61 f_X10_greedy_51 f_X10_greedy_68 f_X10_greedy_28 f_X10_greedy_9
      rw [n_1]
      simp only [iv_lt0 sw, iv_lek sw 1]
      by_cases w0 : w < 0
      · rw [if_pos w0, n_m2]
      · rw [if_neg w0, if_neg (by omega), n_m2]
    · show f_X11_greedy _ 68 _ _ = _
      unfold f_X11_greedy f_X11_greedy_0 f_X11_greedy_12 f_X11_greedy_29 f_X11_greedy_42 f_X11_greedy_50 f_X11_greedy_46 f_X11_greedy_59 f_X11_greedy_60 f_X11_greedy_73 f_X11_greedy_64 f_X11_greedy_84 f_X11_greedy_26 f_X11_greedy_9
      rw [n_1, n_0, in_ob sw (sm_d 0) (sm_d 1), Option.bind_some, ← n_0]
      simp only [ob_0]
      rw [if_pos g1, n_m2]
end CALLS
