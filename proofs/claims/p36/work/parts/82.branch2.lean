/-! BRANCH, class beside model -/
section BRANCH3
variable {z z1 z2 : St} {y : Sy} {n o u b : Nat} {c t q : Nat → Int} {v : Nat → Nat → Int}
theorem O_b (hV : JV n v) : ∀ j, j < n → cmO v j ≤ 130 ∧ clO v j ≤ 130 := fun j hj => by
  obtain ⟨a, b, c, d⟩ := hV j hj
  unfold cmO clO
  refine ⟨?_, ?_⟩ <;> repeat' split
  all_goals omega
theorem gr_fin_b (hB : BD n c t q) (hn : n ≤ 8) : sm (gr c t q n n).2.2.2.2.2.2.1 := by
  obtain ⟨w1, w2, w3⟩ := gr_inv hB hn n (Nat.le_refl _)
  have := w1.2.2.2.1
  exact ⟨by omega, by omega⟩
/-- the class's findBlock on what is told, any number of jobs -/
theorem fbk_of (hL : LD z 21 n c t q) (hB : BD n c t q) : ∃ z', f_X10_findBlock z 0 = some z' ∧ z'.1 37 2 = iv (svV c t q n) ∧ (0 < n → BK z' 37 c t q n) ∧ Fr (fun a => (29 ≤ a ∧ a ≤ 32) ∨ a = 37) z z' := by
  have h8 := hL.2.1
  unfold f_X10_findBlock f_X10_findBlock_0
  rw [r0_4, r0_6, r0_8]
  rcases Nat.eq_zero_or_pos n with e0 | e0
  · subst e0
    have hY := lgZ_LY (z := z) (o := 29) (by decide) hB h8 0 (Nat.le_refl _)
    obtain ⟨z', e1, e2, e3⟩ := bk_find0 (z := lgZ c t q z 29 0 0) (o := 29) (u := 21) (b := 37) hY.1.1
    refine ⟨z', ?_, ?_, fun e => absurd e (by decide), ?_⟩
    · rw [lg_of (o := 29) (u := 21) (by decide) (by decide) hL hB, Option.bind_some, e1, Option.bind_some]
    · rw [e2]
      have e4 : bkB q 0 (gr c t q 0 0) = -1 := by
        unfold bkB
        show bp q ly0 _ _ 1 = -1
        unfold bp
        show (if (0 : Nat) < 0 then (-1 : Int) else if q 0 < q 0 then _ else bp q ly0 _ _ 0) = -1
        rw [if_neg (by omega), if_neg (by omega)]
        rfl
      unfold svV
      rw [e4, if_pos (by decide)]
    · exact ((lgZ_fr (o := 29) (by decide) 0).mono (fun a e => Or.inl (by have := own_rng (o := 29) (Or.inl (by decide)) e; omega))).trans (e3.mono (fun a e => Or.inr e))
  · obtain ⟨z', e1, e2, e3, -⟩ := bk_of2 (b := 37) (o := 29) (u := 21) (by decide) (by decide) (by decide) hL hB e0
    exact ⟨z', e1, e2.2.2.1, fun _ => e2, e3.mono (fun a e => by
      rcases e with e | e
      · exact Or.inl (by have := own_rng (o := 29) (Or.inl (by decide)) e; omega)
      · exact Or.inr e)⟩
noncomputable def brC (c t q : Nat → Int) (n : Nat) (s : Int) : Nat → Int := if s = 0 then c else up c (svB c t q n) (svR c t q n)
noncomputable def brQ (c t q : Nat → Int) (n : Nat) (s : Int) : Nat → Int := if s = 0 then up q (svB c t q n) (svQ c t q n) else q
noncomputable def brV (c t q : Nat → Int) (n : Nat) (s w : Int) : Int := if bkB q n (gr c t q n n) < 0 then -3 else if w = 2 then (if s = 0 then svQ c t q n else svR c t q n) else if w = 0 then (gr (brC c t q n s) t (brQ c t q n s) n n).2.2.2.2.2.2.1 else (bi (brC c t q n s) t (brQ c t q n s) n 16).2.2.2.1
theorem br_BD (hB : BD n c t q) (hn : n ≤ 8) (hb : ∀ j, j < n → c j ≤ 130 ∧ q j ≤ 130) (nb : 0 ≤ bkB q n (gr c t q n n)) {s : Int} : BD n (brC c t q n s) t (brQ c t q n s) := by
  have svb := svQR_b hB hn (M := 130) (by decide) (fun j hj => (hb j hj).2) (fun j hj => (hb j hj).1) nb
  unfold brC brQ
  by_cases s0 : s = 0
  · rw [if_pos s0, if_pos s0]
    exact BD_upq hB (by omega)
  · rw [if_neg s0, if_neg s0]
    exact BD_upc hB (by omega)
theorem svV_sm (hB : BD n c t q) (hn : n ≤ 8) : sm (svV c t q n) := by
  unfold svV
  by_cases nb : bkB q n (gr c t q n n) < 0
  · rw [if_pos nb]
    exact sm_d (-1)
  · rw [if_neg nb]
    have := (svB_lt hB hn (by omega)).1
    exact ⟨by omega, by omega⟩
theorem bk_neg0 (hB : BD 0 c t q) : bkB q 0 (gr c t q 0 0) < 0 := by
  rcases Int.lt_or_le (bkB q 0 (gr c t q 0 0)) 0 with e | e
  · exact e
  · exact absurd (svB_lt hB (by decide) e).1 (Nat.not_lt_zero _)
theorem brn_c (hL : LD z 21 n c t q) (hB : BD n c t q) (hb : ∀ j, j < n → c j ≤ 130 ∧ q j ≤ 130) {s w : Int} (ss : sm s) (sw : sm w) (gs : 0 ≤ s ∧ s ≤ 1) (gw : 0 ≤ w ∧ w ≤ 2) : ∃ z', f_X10_branch z 0 (iv s) (iv w) = some (z', iv (brV c t q n s w)) ∧ Fr sC z z' := by
  have h8 := hL.2.1
  obtain ⟨z1, e1, e2, e3, e4⟩ := fbk_of hL hB
  have f1 : Fr sC z z1 := e4.mono (fun a e => by unfold sC; omega)
  have sv := svV_sm hB h8
  have cls : f_X10_branch z 0 (iv s) (iv w) = if z1.1 37 2 = -1 then some (z1, -3) else f_X10_branch_39 z1 0 (iv s) (iv w) := by
    unfold f_X10_branch f_X10_branch_0 f_X10_branch_4 f_X10_branch_9 f_X10_branch_13 f_X10_branch_21 f_X10_branch_36
    rw [if_neg (fun e => by have := (iv_lt0 ss).mp e; omega), n_1, if_neg (fun e => by have := (iv_klt ss 1).mp e; omega), if_neg (fun e => by have := (iv_lt0 sw).mp e; omega), show (2 : Int32) = iv 2 by decide, if_pos ((iv_lek sw 2).mpr gw.2), e1, Option.bind_some, r0_8]
  have hm1 : (z1.1 37 2 = -1) ↔ bkB q n (gr c t q n n) < 0 := by
    rw [e2, n_m1, iv_eqk sv (-1)]
    unfold svV
    split <;> omega
  by_cases nb : bkB q n (gr c t q n n) < 0
  · refine ⟨z1, ?_, f1⟩
    unfold brV
    rw [cls, if_pos (hm1.mpr nb), if_pos nb, n_m3]
  · have hb0 : 0 ≤ bkB q n (gr c t q n n) := by omega
    obtain ⟨b1, b2, b3, b4⟩ := svB_lt hB h8 hb0
    have vv : svV c t q n = (svB c t q n : Int) := by
      unfold svV
      rw [if_neg nb]
    obtain ⟨k5, k6⟩ := (e3 (by omega)).2.2.2.2.2 hb0
    have c37 : z1.1 37 2 = iv (svB c t q n : Int) := by rw [e2, vv]
    have o25 : ∀ a, own 25 a → 25 ≤ a ∧ a ≤ 28 := fun a ha => by have := own_rng (o := 25) (Or.inr (by decide)) ha; omega
    have hL1 : LD z1 21 n c t q := LD_fr hL (fun a ha => (e4 a (by have := own_rng (o := 21) (Or.inr (by decide)) ha; omega)).1)
    have ba := ba_of (z := z1) (o := 25) (u := 21) (by decide) (by decide) (by decide) hL1
    have lb := ldZ_LD (c := c) (t := t) (q := q) (z := z1) (u := 25) (by decide) n h8
    have lf : Fr (own 25) z1 (ldZ c t q z1 25 n) := ldZ_fr n
    have c37' : ∀ k, (ldZ c t q z1 25 n).1 37 k = z1.1 37 k := fun k => by rw [(lf 37 (fun e => by have := o25 37 e; omega)).1]
    have f3a : Fr sC z (ldZ c t q z1 25 n) := f1.trans (lf.mono (fun a e => by have := o25 a e; unfold sC; omega))
    have hB' := br_BD hB h8 hb hb0 (s := s)
    rw [cls, if_neg (fun e => nb (hm1.mp e))]
    unfold f_X10_branch_39 f_X10_branch_44 f_X10_branch_48 f_X10_branch_58 f_X10_branch_65 f_X10_branch_66 f_X10_branch_81 f_X10_branch_106
    rw [show (2 : Int32) = iv 2 by decide, n_0, r0_4, r0_5, r0_8]
    simp only [iv_eqk sw 2, iv_eqk ss 0, k5, k6, ba, Option.bind_some, c37', c37]
    unfold brV
    rw [if_neg nb]
    by_cases w2 : w = 2
    · refine ⟨z1, ?_, f1⟩
      rw [if_pos w2, if_pos w2]
      by_cases s0 : s = 0
      · rw [if_pos s0, if_pos s0]
      · rw [if_neg s0, if_neg s0]
    · rw [if_neg w2, if_neg w2]
      have fin : ∀ z3 : St, LD z3 25 n (brC c t q n s) t (brQ c t q n s) → Fr sC z z3 → ∃ z5, f_X10_branch_128 z3 0 (iv w) = some (z5, iv (if w = 0 then (gr (brC c t q n s) t (brQ c t q n s) n n).2.2.2.2.2.2.1 else (bi (brC c t q n s) t (brQ c t q n s) n 16).2.2.2.1)) ∧ Fr sC z z5 := fun z3 hL' f3 => by
        unfold f_X10_branch_128 f_X10_branch_132 f_X10_branch_151
        rw [n_0, r0_5, r0_6, r0_9]
        simp only [iv_eqk sw 0]
        by_cases w0 : w = 0
        · have hY := lgZ_LY (z := z3) (o := 29) (by decide) hB' h8 n (Nat.le_refl _)
          refine ⟨lgZ (brC c t q n s) t (brQ c t q n s) z3 29 n n, ?_, f3.trans lgZ_sC⟩
          rw [if_pos w0, if_pos w0, lg_of (o := 29) (u := 25) (by decide) (by decide) hL' hB', Option.bind_some, hY.1.2.2.2.1]
        · obtain ⟨z5, p1, p2, p3, p4⟩ := ru_of (o := 38) (u := 25) (by decide) (by decide) hL' hB'
          refine ⟨z5, ?_, f3.trans (p4.mono (fun a e => ?_))⟩
          · rw [if_neg w0, if_neg w0, p1, Option.bind_some, p2]
          · have r : rf 38 0 = 39 := by decide
            unfold own1 at e
            unfold sC
            omega
      by_cases s0 : s = 0
      · obtain ⟨cc1, cc2, cc3⟩ := cc_of (u := 25) (by decide) lb b1 (x := svQ c t q n)
        rw [if_pos s0, cc1, Option.bind_some]
        refine fin _ ?_ (f3a.trans (cc3.mono (fun a e => by have := o25 a e; unfold sC; omega)))
        unfold brC brQ
        rw [if_pos s0, if_pos s0]
        exact cc2
      · obtain ⟨cc1, cc2, cc3⟩ := cm_of (u := 25) (by decide) lb b1 (x := svR c t q n)
        rw [if_neg s0, cc1, Option.bind_some]
        refine fin _ ?_ (f3a.trans (cc3.mono (fun a e => by have := o25 a e; unfold sC; omega)))
        unfold brC brQ
        rw [if_neg s0, if_neg s0]
        exact cc2
theorem brn_m (hJ : MJ z n v) (hV : JV n v) {s w : Int} (ss : sm s) (sw : sm w) (gs : 0 ≤ s ∧ s ≤ 1) (gw : 0 ≤ w ∧ w ≤ 2) : ∃ z', f_X11_branch z 68 (iv s) (iv w) = some (z', iv (brV (cmO v) (tkO v) (clO v) n s w)) ∧ Fr (fun a => sM a ∨ a = 68) z z' ∧ ∀ k, k68 k → z'.1 68 k = z.1 68 k := by
  have hB := BD_O hV
  have h8 := hJ.2.1
  have hb := O_b hV
  have mdl : f_X11_branch z 68 (iv s) (iv w) = if z.1 68 5 = 0 then some (z, -3) else f_X11_branch_31 z 68 (iv s) (iv w) := by
    unfold f_X11_branch f_X11_branch_0 f_X11_branch_9 f_X11_branch_21 f_X11_branch_28
    rw [n_1, n_0, in_ob ss (sm_d 0) (sm_d 1), Option.bind_some]
    show (if ob (0 ≤ s ∧ s ≤ 1) = iv 0 then _ else ((f_X11_in z (iv w) (iv 0) 2).bind _)) = _
    rw [← n_0, show (2 : Int32) = iv 2 by decide, if_neg (fun e => ob_0.mp e gs), n_0, in_ob sw (sm_d 0) (sm_d 2), Option.bind_some]
    show (if ob (0 ≤ w ∧ w ≤ 2) = iv 0 then _ else _) = _
    rw [← n_0, if_neg (fun e => ob_0.mp e gw)]
  by_cases n0 : n = 0
  · refine ⟨z, ?_, Fr.refl, fun _ _ => rfl⟩
    subst n0
    unfold brV
    rw [mdl, hJ.1, if_pos (by decide), if_pos (bk_neg0 hB), n_m3]
  · obtain ⟨t1, t2, t3⟩ := th_of hJ hV
    obtain ⟨z2, m1, m2, m3, m4⟩ := ml_of2 t2 hB (by omega)
    have f2 : Fr (fun a => sM a ∨ a = 68) z z2 := (sM_75 t3).trans (m3.mono (fun a e => by
      rcases e with e | e
      · exact Or.inr e
      · exact Or.inl (by unfold sM; omega)))
    have k2 : ∀ k, k68 k → z2.1 68 k = z.1 68 k := fun k hk => by
      rw [m4 k (by unfold k68 at hk; omega) (by unfold k68 at hk; omega)]
      exact k68_75 t3 k hk
    have nz : ¬ (z.1 68 5 = 0) := fun e => by
      rw [hJ.1, n_0] at e
      have := (iv_eqk (sm_k (by omega)) 0).mp e
      omega
    have m1' : ∀ K : St → Option (St × Int32), ((f_X11_greedily (thZ v z n) 68).bind fun r3 => (f_X11_looks r3.1 68 r3.2).bind K) = K z2 := fun K => by
      rw [← Option.bind_assoc, m1, Option.bind_some]
    have md31 : f_X11_branch z 68 (iv s) (iv w) = if 0 ≤ z2.1 68 24 then f_X11_branch_53 z2 68 (iv s) (iv w) else some (z2, -3) := by
      rw [mdl, if_neg nz]
      unfold f_X11_branch_31 f_X11_branch_50
      rw [t1, Option.bind_some, m1']
    have sv := svV_sm hB h8
    have h24 : (0 ≤ z2.1 68 24) ↔ 0 ≤ bkB (clO v) n (gr (cmO v) (tkO v) (clO v) n n) := by
      rw [m2.2.2.1, iv_ge0 sv]
      unfold svV
      split <;> omega
    by_cases nb : bkB (clO v) n (gr (cmO v) (tkO v) (clO v) n n) < 0
    · refine ⟨z2, ?_, f2, k2⟩
      unfold brV
      rw [md31, if_neg (fun e => by have := h24.mp e; omega), if_pos nb, n_m3]
    · have hb0 : 0 ≤ bkB (clO v) n (gr (cmO v) (tkO v) (clO v) n n) := by omega
      obtain ⟨b1, b2, b3, b4⟩ := svB_lt hB h8 hb0
      have vv : svV (cmO v) (tkO v) (clO v) n = (svB (cmO v) (tkO v) (clO v) n : Int) := by
        unfold svV
        rw [if_neg nb]
      have t2' : MD z2 n (cmO v) (tkO v) (clO v) := MD_fr t2 (m4 5 (by decide) (Or.inl (by decide))) (fun a h1 h2 => (m3 a (by omega)).1)
      obtain ⟨d0, d1⟩ := brd_of t2' hB m2 hb0
      have m24 : z2.1 68 24 = iv (svB (cmO v) (tkO v) (clO v) n : Int) := by rw [m2.2.2.1, vv]
      have i1 : inb (iv (svB (cmO v) (tkO v) (clO v) n : Int)) 8 = true := inb_k (by omega) (by decide)
      have i2 : (iv (svB (cmO v) (tkO v) (clO v) n : Int)).toNatClampNeg = svB (cmO v) (tkO v) (clO v) n := tn (by omega)
      have hB' := br_BD hB h8 hb hb0 (s := s)
      have fin : ∀ (z4 : St) (x : Int), x = (if s = 0 then svQ (cmO v) (tkO v) (clO v) n else svR (cmO v) (tkO v) (clO v) n) → MD z4 n (brC (cmO v) (tkO v) (clO v) n s) (tkO v) (brQ (cmO v) (tkO v) (clO v) n s) → Fr (fun a => sM a ∨ a = 68) z z4 → (∀ k, k68 k → z4.1 68 k = z.1 68 k) → ∃ z', f_X11_branch_86 z4 68 (iv w) (iv x) = some (z', iv (brV (cmO v) (tkO v) (clO v) n s w)) ∧ Fr (fun a => sM a ∨ a = 68) z z' ∧ ∀ k, k68 k → z'.1 68 k = z.1 68 k := fun z4 x hx hM' f4 k4 => by
        unfold f_X11_branch_86 f_X11_branch_91 f_X11_branch_95 f_X11_branch_99 f_X11_branch_106 f_X11_branch_110 brV
        rw [show (2 : Int32) = iv 2 by decide, n_0, if_neg nb]
        simp only [iv_eqk sw 2, iv_eqk sw 0]
        by_cases w2 : w = 2
        · rw [if_pos w2, if_pos w2, ← hx]
          exact ⟨z4, rfl, f4, k4⟩
        · rw [if_neg w2, if_neg w2]
          by_cases w0 : w = 0
          · rw [if_pos w0, if_pos w0, mg_of hM' hB', Option.bind_some]
            refine ⟨_, rfl, f4.trans (Fr.zI ((mgZ_fr n).mono (fun a e => Or.inl (by unfold sM; omega))) (Or.inr rfl)), fun k hk => ?_⟩
            rw [rI, if_neg (by unfold k68 at hk; omega), (mgZ_fr n 68 (by decide)).1]
            exact k4 k hk
          · obtain ⟨z6, r1, r2, r3, r4⟩ := bk_of hM' hB'
            rw [if_neg w0, if_neg w0, r1, Option.bind_some]
            refine ⟨z6, rfl, f4.trans (r3.mono (fun a e => ?_)), fun k hk => ?_⟩
            · rcases e with e | e
              · exact Or.inl (by unfold sM; omega)
              · exact Or.inr e
            · rw [r4 k (by unfold k68 at hk; omega)]
              exact k4 k hk
      rw [md31, if_pos (h24.mpr hb0)]
      unfold f_X11_branch_53
      by_cases s0 : s = 0
      · subst s0
        rw [← n_0, d0, Option.bind_some, if_pos rfl]
        unfold f_X11_branch_63
        show ∃ z', (if inb (z2.1 68 24) 8 = true then _ else none) = _ ∧ _
        rw [m24, i1, if_pos rfl, i2, r68_15]
        refine fin _ _ (by rw [if_pos rfl]) ?_ (f2.zI (Or.inl (by unfold sM; omega))) (fun k hk => by rw [zI_n (by decide)]; exact k2 k hk)
        unfold brC brQ
        rw [if_pos rfl, if_pos rfl]
        exact MD_upq t2'
      · have s1 : s = 1 := by omega
        subst s1
        rw [← n_1, d1, Option.bind_some, if_neg (by decide)]
        unfold f_X11_branch_76
        show ∃ z', (if inb (z2.1 68 24) 8 = true then _ else none) = _ ∧ _
        rw [m24, i1, if_pos rfl, i2, r68_13]
        refine fin _ _ (by rw [if_neg s0]) ?_ (f2.zI (Or.inl (by unfold sM; omega))) (fun k hk => by rw [zI_n (by decide)]; exact k2 k hk)
        unfold brC brQ
        rw [if_neg s0, if_neg s0]
        exact MD_upc t2'
theorem s_branch (h : INV z y) (a b : Int32) : Both (f_X10_branch z 0 a b) (fun z => f_X11_branch z 68 a b) := by
  obtain ⟨s, ss, rfl⟩ := ex_iv a
  obtain ⟨w, sw, rfl⟩ := ex_iv b
  by_cases g : (0 ≤ s ∧ s ≤ 1) ∧ (0 ≤ w ∧ w ≤ 2)
  · obtain ⟨z1, e1, e2⟩ := brn_c h.1.2.1 (BD_O h.2.2.1) (O_b h.2.2.1) ss sw g.1 g.2
    obtain ⟨z2, m1, m2, m3⟩ := brn_m (XM_sC h e2).1 h.2.2.1 ss sw g.1 g.2
    exact Both_r h e1 e2 m1 m2 m3
  · refine Both_s h (r := iv (-2)) ?_ ?_
    · unfold f_X10_branch f_X10_branch_0 f_X10_branch_4 f_X10_branch_9 f_X10_branch_13 f_X10_branch_18
      rw [n_m2, n_1, show (2 : Int32) = iv 2 by decide]
      simp only [iv_lt0 ss, iv_klt ss 1, iv_lt0 sw, iv_lek sw 2]
      by_cases g1 : s < 0
      · rw [if_pos g1]
      · rw [if_neg g1]
        by_cases g2 : 1 < s
        · rw [if_pos g2]
        · rw [if_neg g2]
          by_cases g3 : w < 0
          · rw [if_pos g3]
          · rw [if_neg g3, if_neg (by omega)]
    · show f_X11_branch z 68 (iv s) (iv w) = _
      unfold f_X11_branch f_X11_branch_0 f_X11_branch_9 f_X11_branch_18
      rw [n_m2, n_1, n_0, in_ob ss (sm_d 0) (sm_d 1), Option.bind_some]
      show (if ob (0 ≤ s ∧ s ≤ 1) = iv 0 then _ else ((f_X11_in z (iv w) (iv 0) 2).bind _)) = _
      rw [← n_0]
      by_cases g1 : 0 ≤ s ∧ s ≤ 1
      · rw [show (2 : Int32) = iv 2 by decide, if_neg (fun e => ob_0.mp e g1), n_0, in_ob sw (sm_d 0) (sm_d 2), Option.bind_some]
        show (if ob (0 ≤ w ∧ w ≤ 2) = iv 0 then _ else _) = _
        rw [← n_0, if_pos (ob_0.mpr (fun e => g ⟨g1, e⟩))]
      · rw [if_pos (ob_0.mpr g1)]
end BRANCH3
