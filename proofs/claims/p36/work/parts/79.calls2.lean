/-! BREAKING, BOUND, GO, CRITICAL -/
section CALLS2
variable {z z1 z2 : St} {y : Sy} {n : Nat} {c t q : Nat → Int} {v : Nat → Nat → Int}
theorem s_breaking (h : INV z y) (a : Int32) : Both (f_X10_breaking z 0 a) (fun z => f_X11_breaking z 68 a) := by
  obtain ⟨w, sw, rfl⟩ := ex_iv a
  have hB := BD_O h.2.2.1
  have h8 := h.1.1.2.1
  by_cases g1 : 0 ≤ w ∧ w ≤ 1
  · obtain ⟨z1, e1, e2, e3, e4⟩ := ru_of (o := 38) (u := 21) (by decide) (by decide) h.1.2.1 hB
    have f1 : Fr sC z z1 := e4.mono (fun a e => by
      have r : rf 38 0 = 39 := by decide
      unfold own1 at e
      unfold sC
      omega)
    have hM := XM_sC h f1
    obtain ⟨t1, t2, t3⟩ := th_of hM.1 h.2.2.1
    obtain ⟨z3, m1, m2, m3, m4⟩ := bk_of t2 hB
    refine Both_r h (r := iv (if w = 0 then (bi (cmO y.2.1) (tkO y.2.1) (clO y.2.1) y.1 16).2.2.2.1 else (bi (cmO y.2.1) (tkO y.2.1) (clO y.2.1) y.1 16).2.2.2.2)) (z1 := z1) ?_ f1 (z2 := z3) ?_ ?_ ?_
    · unfold f_X10_breaking f_X10_breaking_0 f_X10_breaking_4 f_X10_breaking_12 f_X10_breaking_37 f_X10_breaking_27 f_X10_breaking_44 f_X10_breaking_9
      rw [n_1, r0_4, r0_9, e1]
      simp only [iv_lt0 sw, iv_lek sw 1, Option.bind_some]
      rw [if_neg (by omega), if_pos g1.2, n_0, e2, e3]
      simp only [iv_eqk sw 0]
      by_cases w0 : w = 0
      · rw [if_pos w0, if_pos w0]
      · rw [if_neg w0, if_neg w0]
    · show f_X11_breaking _ 68 _ = _
      unfold f_X11_breaking f_X11_breaking_0 f_X11_breaking_12 f_X11_breaking_29 f_X11_breaking_25 f_X11_breaking_33 f_X11_breaking_9
      rw [n_1, n_0, in_ob sw (sm_d 0) (sm_d 1), Option.bind_some, ← n_0]
      simp only [ob_0]
      rw [if_neg (fun e => e g1), t1, Option.bind_some, m1, Option.bind_some, m2, n_0]
      simp only [iv_eqk sw 0]
      by_cases w0 : w = 0
      · rw [if_pos w0, if_pos w0]
      · rw [if_neg w0, if_neg w0]
    · exact (sM_75 t3).trans (m3.mono (fun a e => by
        rcases e with e | e
        · exact Or.inl (by unfold sM; omega)
        · exact Or.inr e))
    · intro k hk
      rw [m4 k (by unfold k68 at hk; omega)]
      exact k68_75 t3 k hk
  · refine Both_s h (r := iv (-2)) ?_ ?_
    · unfold f_X10_breaking f_X10_breaking_0 f_X10_breaking_4 f_X10_breaking_12 f_X10_breaking_37 f_X10_breaking_27 f_X10_breaking_44 f_X10_breaking_9
      rw [n_1]
      simp only [iv_lt0 sw, iv_lek sw 1]
      by_cases w0 : w < 0
      · rw [if_pos w0, n_m2]
      · rw [if_neg w0, if_neg (by omega), n_m2]
    · show f_X11_breaking _ 68 _ = _
      unfold f_X11_breaking f_X11_breaking_0 f_X11_breaking_12 f_X11_breaking_29 f_X11_breaking_25 f_X11_breaking_33 f_X11_breaking_9
      rw [n_1, n_0, in_ob sw (sm_d 0) (sm_d 1), Option.bind_some, ← n_0]
      simp only [ob_0]
      rw [if_pos g1, n_m2]
theorem p2_lt {n : Nat} (h : n ≤ 8) : 2 ^ n ≤ 256 := Nat.pow_le_pow_right (by decide) h
theorem s_bound (h : INV z y) (a : Int32) : Both (f_X10_bound z 0 a) (fun z => f_X11_bound z 68 a) := by
  obtain ⟨w, sw, rfl⟩ := ex_iv a
  have hB := BD_O h.2.2.1
  have h8 := h.1.1.2.1
  have p8 := p2_lt h8
  have p0 : 0 < 2 ^ y.1 := Nat.two_pow_pos y.1
  have e9 : ((1 : Int32) <<< ((iv (y.1 : Int)) &&& 31)) - 1 = iv ((2 ^ y.1 - 1 : Nat) : Int) := ev_all y.1 (by omega)
  by_cases g : 1 ≤ w ∧ w ≤ ((2 ^ y.1 - 1 : Nat) : Int)
  · obtain ⟨s, rfl⟩ : ∃ s : Nat, w = s := ⟨w.toNat, by omega⟩
    have hs : s < 2 ^ y.1 := by omega
    obtain ⟨t1, t2, t3⟩ := th_of h.2.1.1 h.2.2.1
    have be := bo_eq hB (n := y.1) (s := s) (by omega) hs
    refine Both_r h (z1 := z) (r := iv (mn (cmO y.2.1) (Nat.testBit s) y.1 + su (tkO y.2.1) (Nat.testBit s) y.1 + mn (clO y.2.1) (Nat.testBit s) y.1)) ?_ Fr.refl (z2 := thZ y.2.1 z y.1) ?_ (sM_75 t3) (k68_75 t3)
    · unfold f_X10_bound f_X10_bound_0 f_X10_bound_5 f_X10_bound_19 f_X10_bound_16
      rw [r0_4, ev_of h.1.2.1, Option.bind_some, n_1]
      simp only [iv_ltk sw 1, iv_le sw (sm_k (show 2 ^ y.1 - 1 < 2147483648 by omega))]
      rw [if_neg (by omega), if_pos g.2, bo_of h.1.2.1 hB (by omega), Option.bind_some]
    · show f_X11_bound _ 68 _ = _
      unfold f_X11_bound f_X11_bound_0 f_X11_bound_19 f_X11_bound_16
      rw [h.2.1.1.1, e9, n_1, in_ob sw (sm_d 1) (sm_k (by omega)), Option.bind_some]
      simp only [ob_0]
      rw [if_neg (fun e => e g), t1, Option.bind_some, mbo_of t2 hB (by omega), Option.bind_some, be.1, be.2]
  · refine Both_s h (r := iv (-2)) ?_ ?_
    · unfold f_X10_bound f_X10_bound_0 f_X10_bound_5 f_X10_bound_19 f_X10_bound_16
      rw [r0_4, ev_of h.1.2.1, Option.bind_some, n_1]
      simp only [iv_ltk sw 1, iv_le sw (sm_k (show 2 ^ y.1 - 1 < 2147483648 by omega))]
      by_cases w1 : w < 1
      · rw [if_pos w1, n_m2]
      · rw [if_neg w1, if_neg (by omega), n_m2]
    · show f_X11_bound _ 68 _ = _
      unfold f_X11_bound f_X11_bound_0 f_X11_bound_19 f_X11_bound_16
      rw [h.2.1.1.1, e9, n_1, in_ob sw (sm_d 1) (sm_k (by omega)), Option.bind_some]
      simp only [ob_0]
      rw [if_pos g, n_m2]
/-! go -/
noncomputable def goT (c t q : Nat → Int) (n : Nat) (x : Tr) : Nat → Tr
  | 0 => x
  | k + 1 => trP (trB c t q n (goT c t q n x k))
theorem trB_1 {x : Tr} : (trB c t q n x).1 = x.1 := by
  unfold trB
  split <;> rfl
theorem trP_1 {x : Tr} : (trP x).1 = x.1 + 1 := by
  unfold trP
  split
  · rfl
  · split <;> rfl
theorem goT_1 {x : Tr} : ∀ k : Nat, (goT c t q n x k).1 = x.1 + k
  | 0 => by
    show x.1 = x.1 + ((0 : Nat) : Int)
    omega
  | k + 1 => by
    show (trP (trB c t q n (goT c t q n x k))).1 = _
    rw [trP_1, trB_1, goT_1 k]
    omega
theorem goT_W (hB : BD n c t q) (hn : n ≤ 8) {x : Tr} (h : TW n x) {m : Nat} (hm : x.1 + m ≤ 1999) : ∀ k : Nat, k ≤ m → TW n (goT c t q n x k)
  | 0, _ => h
  | k + 1, hk => TW_P hn (TW_B hB hn (goT_W hB hn h hm k (by omega))) (by rw [trB_1, goT_1]; omega)
theorem go_c (hB : BD n c t q) {x : Tr} {m : Nat} (hm : m ≤ 60) (hx : x.1 + m ≤ 999) (hW : TW n x) : ∀ (d k F : Nat) (z : St), k + d = m → d < F → LD z 21 n c t q → CB z (goT c t q n x k) → ∃ z', f_X10_go_34 F z 0 (iv (m : Int)) (iv (k : Int)) = some (z', iv (goT c t q n x m).1) ∧ CB z' (goT c t q n x m) ∧ Fr (fun a => a = 57 ∨ a = 58) z z'
  | d, k, 0, z, _, hF, _, _ => absurd hF (Nat.not_lt_zero _)
  | 0, k, F + 1, z, e, _, hL, hC => by
    have e : k = m := e
    subst e
    refine ⟨z, ?_, hC, Fr.refl⟩
    rw [f_X10_go_34, if_pos sz_t]
    unfold f_X10_go_56
    rw [r0_12, hC.1]
  | d + 1, k, F + 1, z, e, hF, hL, hC => by
    have hn := hL.2.1
    obtain ⟨z', p1, p2, p3⟩ := ph_of hL hB (goT_W hB hn hW (m := m) (by omega) k (by omega)) hC
    obtain ⟨z'', q1, q2, q3⟩ := go_c hB hm hx hW d (k + 1) F z' (by omega) (by omega) (LD_57 hL p3) p2
    refine ⟨z'', ?_, q2, p3.trans q3⟩
    rw [f_X10_go_34, if_neg (sz_f (by omega) (by omega))]
    unfold f_X10_go_39
    rw [r0_12, r0_4, p1, Option.bind_some, iv_s]
    exact q1
theorem go_m (hB : BD n c t q) {x : Tr} {m : Nat} (hm : m ≤ 60) (hx : x.1 + m ≤ 999) (hW : TW n x) : ∀ (d k F : Nat) (z : St), k + d = m → d < F → MD z n c t q → MB z (goT c t q n x k) → ∃ z', f_X11_go_34 F z 68 (iv (m : Int)) (iv (k : Int)) = some (z', iv (goT c t q n x m).1) ∧ MB z' (goT c t q n x m) ∧ Fr (fun a => a = 68 ∨ a = 94) z z' ∧ ∀ k, (k < 45 ∨ 50 < k) → z'.1 68 k = z.1 68 k
  | d, k, 0, z, _, hF, _, _ => absurd hF (Nat.not_lt_zero _)
  | 0, k, F + 1, z, e, _, hL, hC => by
    have e : k = m := e
    subst e
    refine ⟨z, ?_, hC, Fr.refl, fun _ _ => rfl⟩
    rw [f_X11_go_34, if_pos sz_t]
    unfold f_X11_go_49
    rw [hC.1]
  | d + 1, k, F + 1, z, e, hF, hL, hC => by
    have hn := hL.2.1
    obtain ⟨z', p1, p2, p3, p4⟩ := mhr_of hL hB (goT_W hB hn hW (m := m) (by omega) k (by omega)) hC
    have hL' : MD z' n c t q := MD_fr hL (p4 5 (Or.inl (by decide))) (fun a e1 e2 => (p3 a (by omega)).1)
    obtain ⟨z'', q1, q2, q3, q4⟩ := go_m hB hm hx hW d (k + 1) F z' (by omega) (by omega) hL' p2
    refine ⟨z'', ?_, q2, p3.trans q3, fun k hk => (q4 k hk).trans (p4 k hk)⟩
    rw [f_X11_go_34, if_neg (sz_f (by omega) (by omega))]
    unfold f_X11_go_39
    rw [p1, Option.bind_some, iv_s]
    exact q1
def yT (y : Sy) (x : Tr) : Sy := (y.1, y.2.1, y.2.2.1, y.2.2.2.1, x, y.2.2.2.2.2)
theorem s_go (h : INV z y) (a : Int32) : Both (f_X10_go z 0 a) (fun z => f_X11_go z 68 a) := by
  obtain ⟨w, sw, rfl⟩ := ex_iv a
  have hB := BD_O h.2.2.1
  have h8 := h.1.1.2.1
  have hW := h.2.2.2.2.2.1.1
  have x9 := h.2.2.2.2.2.1.2
  have x0 := hW.1.1
  have c1 := h.1.2.2.2.2.1.1
  have m1 := h.2.1.2.2.2.1.1
  by_cases g : 1 ≤ w ∧ w ≤ 60
  · by_cases g2 : y.2.2.2.2.1.1 + w ≤ 999
    · obtain ⟨m, rfl⟩ : ∃ m : Nat, w = m := ⟨w.toNat, by omega⟩
      obtain ⟨z1, p1, p2, p3⟩ := go_c hB (m := m) (by omega) g2 hW m 0 FU z (by omega) (FU_8 (by omega)) h.1.2.1 h.1.2.2.2.2.1
      have hM := XM_c h.2.1 (p3.mono (fun a e => by omega))
      obtain ⟨t1, t2, t3⟩ := th_of hM.1 h.2.2.1
      have hMB : MB (thZ y.2.1 z1 y.1) y.2.2.2.2.1 := MB_fr hM.2.2.2.1 (fun k _ _ => by rw [(t3 68 (by decide)).1]) (t3 94 (by decide)).1
      obtain ⟨z2, q1, q2, q3, q4⟩ := go_m hB (m := m) (by omega) g2 hW m 0 FU (thZ y.2.1 z1 y.1) (by omega) (FU_8 (by omega)) t2 hMB
      refine ⟨z1, z2, iv (goT (cmO y.2.1) (tkO y.2.1) (clO y.2.1) y.1 y.2.2.2.2.1 m).1, ?_, ?_, yT y (goT (cmO y.2.1) (tkO y.2.1) (clO y.2.1) y.1 y.2.2.2.2.1 m), ⟨?_, ?_, h.2.2.1, h.2.2.2.1, h.2.2.2.2.1, ⟨goT_W hB h8 hW (m := m) (by omega) m (Nat.le_refl _), by show (goT _ _ _ _ _ m).1 ≤ 999; rw [goT_1]; exact g2⟩, h.2.2.2.2.2.2⟩⟩
      · unfold f_X10_go f_X10_go_0 f_X10_go_5 f_X10_go_14 f_X10_go_32
        rw [r0_12, c1, iv_add, n_1, show (60 : Int32) = iv 60 by decide, show (999 : Int32) = iv 999 by decide]
        rw [if_neg (fun e => by have := (iv_ltk sw 1).mp e; omega), if_pos ((iv_lek sw 60).mpr (by omega)), if_pos ((iv_lek ⟨by omega, by omega⟩ 999).mpr g2)]
        exact p1
      · show f_X11_go _ 68 _ = _
        unfold f_X11_go f_X11_go_0 f_X11_go_13 f_X11_go_28
        rw [n_1, show (60 : Int32) = iv 60 by decide, in_ob sw (sm_d 1) (sm_d 60), Option.bind_some]
        simp only [ob_0]
        rw [if_neg (fun e => e g), hM.2.2.2.1.1, iv_add, show (999 : Int32) = iv 999 by decide, if_pos ((iv_lek ⟨by omega, by omega⟩ 999).mpr g2), t1, Option.bind_some]
        exact q1
      · have hC : XC z1 (yT y (goT (cmO y.2.1) (tkO y.2.1) (clO y.2.1) y.1 y.2.2.2.2.1 m)) := by
          obtain ⟨h1, h2, h3, h4, h5, h6, h7⟩ := h.1
          have gg : ∀ a, a ≠ 57 → a ≠ 58 → z1.1 a = z.1 a ∧ z1.2 a = z.2 a := fun a e1 e2 => p3 a (by omega)
          refine ⟨JD_fr (by decide) h1 (fun a e1 e2 => (gg a (by omega) (by omega)).1), LD_fr h2 (fun a ha => ?_), CKe_fr h3 (by rw [(gg 0 (by decide) (by decide)).1]) (fun a e1 e2 => (gg a (by omega) (by omega)).1), CT_fr h4 (by rw [(gg 19 (by decide) (by decide)).1]) (gg 20 (by decide) (by decide)).1, p2, CS_fr h6 (fun a e1 e2 => gg a (by omega) (by omega)), CL_fr h7 (gg 0 (by decide) (by decide)).1 (fun a e1 e2 => (gg a (by omega) (by omega)).1)⟩
          have := own_rng (o := 21) (Or.inr (by decide)) ha
          exact (gg a (by omega) (by omega)).1
        exact XC_m hC ((sM_75 t3).mono (fun a e => by unfold sM at e; omega) |>.trans (q3.mono (fun a e => by omega)))
      · obtain ⟨h1, h2, h3, h4, h5⟩ := hM
        have gg : ∀ a, a ≠ 68 → a ≠ 94 → ¬ (75 ≤ a ∧ a ≤ 77) → z2.1 a = z1.1 a ∧ z2.2 a = z1.2 a := fun a e1 e2 e3 => ⟨((q3 a (by omega)).1).trans (t3 a e3).1, ((q3 a (by omega)).2).trans (t3 a e3).2⟩
        have g68 : ∀ k, (k < 45 ∨ 50 < k) → z2.1 68 k = z1.1 68 k := fun k hk => by rw [q4 k hk, (t3 68 (by decide)).1]
        exact ⟨MJ_fr h1 (g68 5 (by omega)) (fun a e1 e2 => (gg a (by omega) (by omega) (by omega)).1), MKe_fr h2 (g68 53 (by omega)) (gg 95 (by decide) (by decide) (by decide)).1, MT_fr h3 (g68 7 (by omega)) (gg 73 (by decide) (by decide) (by decide)).1, q2, MS_fr h5 (fun a e1 e2 => gg a (by omega) (by omega) (by omega))⟩
    · refine Both_s h (r := iv (-4)) ?_ ?_
      · unfold f_X10_go f_X10_go_0 f_X10_go_5 f_X10_go_14 f_X10_go_29
        rw [r0_12, c1, iv_add, n_1, show (60 : Int32) = iv 60 by decide, show (999 : Int32) = iv 999 by decide]
        rw [if_neg (fun e => by have := (iv_ltk sw 1).mp e; omega), if_pos ((iv_lek sw 60).mpr (by omega)), if_neg (fun e => g2 ((iv_lek ⟨by omega, by omega⟩ 999).mp e)), n_m4]
      · show f_X11_go _ 68 _ = _
        unfold f_X11_go f_X11_go_0 f_X11_go_13 f_X11_go_25
        rw [n_1, show (60 : Int32) = iv 60 by decide, in_ob sw (sm_d 1) (sm_d 60), Option.bind_some]
        simp only [ob_0]
        rw [if_neg (fun e => e g), m1, iv_add, show (999 : Int32) = iv 999 by decide, if_neg (fun e => g2 ((iv_lek ⟨by omega, by omega⟩ 999).mp e)), n_m4]
  · refine Both_s h (r := iv (-2)) ?_ ?_
    · unfold f_X10_go f_X10_go_0 f_X10_go_5 f_X10_go_11
      rw [n_1, show (60 : Int32) = iv 60 by decide]
      by_cases w1 : w < 1
      · rw [if_pos ((iv_ltk sw 1).mpr w1), n_m2]
      · rw [if_neg (fun e => w1 ((iv_ltk sw 1).mp e)), if_neg (fun e => by have := (iv_lek sw 60).mp e; omega), n_m2]
    · show f_X11_go _ 68 _ = _
      unfold f_X11_go f_X11_go_0 f_X11_go_10
      rw [n_1, show (60 : Int32) = iv 60 by decide, in_ob sw (sm_d 1) (sm_d 60), Option.bind_some]
      simp only [ob_0]
      rw [if_pos g, n_m2]
end CALLS2
