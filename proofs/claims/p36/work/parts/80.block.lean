/-! THE BLOCK of GREEDY's row, class and model; CRITICAL -/
noncomputable def svL (c t q : Nat → Int) (n : Nat) : Nat := (gr c t q n n).2.2.1 (pl q (gr c t q n n) n).toNat
noncomputable def svF (c t q : Nat → Int) (n : Nat) : Nat := (gr c t q n n).2.2.1 (fp (gr c t q n n) (pl q (gr c t q n n) n).toNat)
noncomputable def svS (c t q : Nat → Int) (n : Nat) : Int := ((pl q (gr c t q n n) n).toNat : Int) - (fp (gr c t q n n) (pl q (gr c t q n n) n).toNat : Int) + 1
noncomputable def svM (c t q : Nat → Int) (n : Nat) : Nat := if bkB q n (gr c t q n n) < 0 then 0 else mkR (gr c t q n n).2.2.1 ((bkB q n (gr c t q n n)).toNat + 1) ((pl q (gr c t q n n) n).toNat + 1)
noncomputable def svV (c t q : Nat → Int) (n : Nat) : Int := if bkB q n (gr c t q n n) < 0 then -1 else (svB c t q n : Int)
def BK (z : St) (b : Nat) (c t q : Nat → Int) (n : Nat) : Prop := z.1 b 0 = iv (svL c t q n : Int) ∧ z.1 b 1 = iv (svF c t q n : Int) ∧ z.1 b 2 = iv (svV c t q n) ∧ z.1 b 3 = iv (svM c t q n : Int) ∧ z.1 b 4 = iv (svS c t q n) ∧ (0 ≤ bkB q n (gr c t q n n) → z.1 b 5 = iv (svQ c t q n) ∧ z.1 b 6 = iv (svR c t q n))
theorem fr1 {z z' : St} {b k : Nat} {v : Int32} (h : Fr (fun a => a = b) z z') : Fr (fun a => a = b) z (zI z' b k v) := h.zI (P := fun a => a = b) rfl
section BLOCK2
variable {z z1 z2 : St} {y : Sy} {n o u b : Nat} {c t q : Nat → Int} {v : Nat → Nat → Int}
theorem bk_find (hb : kd b = 0) (ho : kd o = 3) (hu : kd u = 4) (hL : LD z u n c t q) (hB : BD n c t q) (hY : LY z o n (gr c t q n n)) (hn : 0 < n) : ∃ z', f_X0_find z b u o = some z' ∧ BK z' b c t q n ∧ Fr (fun a => a = b) z z' := by
  obtain ⟨f1, f2⟩ := fdg_of hb ho hu hL hB hY hn
  refine ⟨_, f1, ?_, ?_⟩
  · unfold BK fbR fdZ svL svF svS svM svV svQ svR svB
    by_cases w : bkB q n (gr c t q n n) < 0
    · refine ⟨?_, ?_, ?_, ?_, ?_, fun e => absurd w (by omega)⟩ <;> simp [w, rI, n_m1, n_0]
    · refine ⟨?_, ?_, ?_, ?_, ?_, fun e => ⟨?_, ?_⟩⟩ <;> simp [w, rI]
  · unfold fbR fdZ
    split
    · exact fr1 (fr1 (fr1 (fr1 (fr1 Fr.refl))))
    · exact fr1 (fr1 (fr1 (fr1 (fr1 (fr1 (fr1 (fr1 Fr.refl)))))))
theorem bk_find0 (hY : z.1 o 3 = iv 0) : ∃ z', f_X0_find z b u o = some z' ∧ z'.1 b 2 = iv (-1) ∧ Fr (fun a => a = b) z z' := by
  obtain ⟨m, hm⟩ : ∃ m, FU = m + 1 := ⟨3999999, rfl⟩
  have p1 : f_X0_placeOfLast z u o = some (z, -1) := by
    unfold f_X0_placeOfLast f_X0_placeOfLast_0
    rw [hm, f_X0_placeOfLast_4, hY, if_pos (by decide)]
    rfl
  have j1 : ∀ z' : St, f_X3_jobAt z' o (-1) = some (z', -1) := fun z' => by
    unfold f_X3_jobAt f_X3_jobAt_0 f_X3_jobAt_30 f_X3_jobAt_31
    rw [if_pos (by decide)]
  refine ⟨zI (zI (zI (zI (zI (zI z b 0 (-1)) b 1 (-1)) b 4 (-1 - -1 + 1)) b 2 (-1)) b 3 0) b 3 0, ?_, ?_, ?_⟩
  · unfold f_X0_find f_X0_find_0
    rw [p1, Option.bind_some]
    show f_X0_find_9 FU z b u o (-1) (-1) = _
    rw [hm, f_X0_find_9, if_pos (by decide)]
    unfold f_X0_find_45 f_X0_findBar f_X0_findBar_0
    rw [j1, Option.bind_some]
    show ((f_X3_jobAt (zI z b 0 (-1)) o (-1)).bind _) = _
    rw [j1, Option.bind_some, hm, f_X0_findBar_20, if_neg (by decide)]
    unfold f_X0_findBar_26 f_X0_findBar_167
    rw [if_pos (by decide)]
    rfl
  · rw [rI, if_neg (by simp), rI, if_neg (by simp), rI, if_pos ⟨rfl, rfl⟩, n_m1]
  · exact fr1 (fr1 (fr1 (fr1 (fr1 (fr1 Fr.refl)))))
def ML (z : St) (c t q : Nat → Int) (n : Nat) : Prop := z.1 68 22 = iv (svL c t q n : Int) ∧ z.1 68 23 = iv (svF c t q n : Int) ∧ z.1 68 24 = iv (svV c t q n) ∧ z.1 68 25 = iv (svM c t q n : Int) ∧ z.1 68 26 = iv (svS c t q n)
theorem ml_looks (hL : MD z n c t q) (hB : BD n c t q) (hM : MG z n (gr c t q n n)) (hn : 0 < n) : ∃ z', f_X11_looks z 68 (iv (gr c t q n n).2.2.2.2.2.2.1) = some z' ∧ ML z' c t q n ∧ Fr (fun a => a = 68) z z' ∧ ∀ k, (k < 22 ∨ 26 < k) → z'.1 68 k = z.1 68 k := by
  refine ⟨_, lkg_of hL hB hM hn, ?_, ?_, fun k hk => ?_⟩
  · unfold ML lkZ lk0 svL svF svS svM svV svB
    by_cases w : bkB q n (gr c t q n n) < 0
    · refine ⟨?_, ?_, ?_, ?_, ?_⟩ <;> simp [w, rI]
    · refine ⟨?_, ?_, ?_, ?_, ?_⟩ <;> simp [w, rI]
  · unfold lkZ lk0
    split
    · exact fr1 (fr1 (fr1 (fr1 (fr1 Fr.refl))))
    · exact fr1 (fr1 (fr1 (fr1 (fr1 (fr1 (fr1 Fr.refl))))))
  · unfold lkZ lk0
    split
    · simp only [rI]
      rw [if_neg (by omega), if_neg (by omega), if_neg (by omega), if_neg (by omega), if_neg (by omega)]
    · simp only [rI]
      rw [if_neg (by omega), if_neg (by omega), if_neg (by omega), if_neg (by omega), if_neg (by omega), if_neg (by omega), if_neg (by omega)]
/-- the class lays GREEDY and finds the block -/
theorem bk_of2 (hb : kd b = 0) (ho : kd o = 3) (hu : kd u = 4) (hL : LD z u n c t q) (hB : BD n c t q) (hn : 0 < n) : ∃ z', ((f_X3_layGreedy z o u).bind fun r1 => (f_X0_find r1 b u o).bind fun r3 => some r3) = some z' ∧ BK z' b c t q n ∧ Fr (fun a => own o a ∨ a = b) z z' ∧ LY z' o n (gr c t q n n) := by
  have h8 := hL.2.1
  have k0 := kd0_in b (kd_lt hb (by decide)) hb
  have k3 := kd3_in o (kd_lt ho (by decide)) ho
  have hY := lgZ_LY (z := z) (o := o) ho hB h8 n (Nat.le_refl _)
  have hL1 := lgZ_LD (z := z) (o := o) (u := u) ho hu hL n
  obtain ⟨z', e1, e2, e3⟩ := bk_find hb ho hu hL1 hB hY hn
  refine ⟨z', ?_, e2, ((lgZ_fr ho n).mono (fun a e => Or.inl e)).trans (e3.mono (fun a e => Or.inr e)), LY_fr hY (fun a ha => (e3 a (fun x => by have := own_rng (Or.inl ho) ha; omega)).1)⟩
  rw [lg_of ho hu hL hB, Option.bind_some, e1, Option.bind_some]
/-- the model thinks, lays GREEDY and looks -/
theorem ml_of2 (hL : MD z n c t q) (hB : BD n c t q) (hn : 0 < n) : ∃ z', ((f_X11_greedily z 68).bind fun r3 => (f_X11_looks r3.1 68 r3.2)) = some z' ∧ ML z' c t q n ∧ Fr (fun a => a = 68 ∨ (78 ≤ a ∧ a ≤ 80)) z z' ∧ ∀ k, k ≠ 19 → (k < 22 ∨ 26 < k) → z'.1 68 k = z.1 68 k := by
  have h8 := hL.2.1
  have mM := mgZ_MG (z := z) (c := c) (t := t) (q := q) hB h8 n (Nat.le_refl _)
  have mD := mgZ_MD hL (c := c) (t := t) (q := q) n
  have mf := mgZ_fr (z := z) (c := c) (t := t) (q := q) (n := n) n
  have mD2 : MD (zI (mgZ c t q z n n) 68 19 (iv (gr c t q n n).2.2.2.2.2.1)) n c t q := MD_fr mD (by rw [rI, if_neg (by decide)]) (fun a e1 e2 => by rw [zI_n (by omega)])
  have mM2 : MG (zI (mgZ c t q z n n) 68 19 (iv (gr c t q n n).2.2.2.2.2.1)) n (gr c t q n n) := by
    unfold MG at mM ⊢
    rw [zI_n (by decide), zI_n (by decide), zI_n (by decide)]
    exact mM
  obtain ⟨z', e1, e2, e3, e4⟩ := ml_looks mD2 hB mM2 hn
  refine ⟨z', ?_, e2, ((mf.mono (Q := fun a => a = 68 ∨ (78 ≤ a ∧ a ≤ 80)) (fun a e => Or.inr e)).zI (Or.inl rfl)).trans (e3.mono (fun a e => Or.inl e)), fun k h1 h2 => ?_⟩
  · rw [mg_of hL hB, Option.bind_some]
    exact e1
  · rw [e4 k h2, rI, if_neg (fun e => h1 e.2), (mf 68 (by decide)).1]
theorem s_critical (h : INV z y) (a : Int32) : Both (f_X10_critical z 0 a) (fun z => f_X11_critical z 68 a) := by
  obtain ⟨w, sw, rfl⟩ := ex_iv a
  have hB := BD_O h.2.2.1
  have h8 := h.1.1.2.1
  by_cases g1 : 0 ≤ w ∧ w ≤ 4
  · by_cases g2 : y.1 = 0
    · refine Both_s h (r := iv (-3)) ?_ ?_
      · unfold f_X10_critical f_X10_critical_0 f_X10_critical_4 f_X10_critical_12 f_X10_critical_22
        rw [n_4, r0_0, h.1.1.1, g2, if_neg (fun e => by have := (iv_lt0 sw).mp e; omega), if_pos ((iv_lek sw 4).mpr g1.2), if_pos (by decide), n_m3]
      · show f_X11_critical _ 68 _ = _
        unfold f_X11_critical f_X11_critical_0 f_X11_critical_12 f_X11_critical_19
        rw [n_4, n_0, in_ob sw (sm_d 0) (sm_d 4), Option.bind_some, ← n_0]
        simp only [ob_0]
        rw [if_neg (fun e => e g1), h.2.1.1.1, g2, if_pos (by decide), n_m3]
    · obtain ⟨z1, e1, e2, e3, -⟩ := bk_of2 (b := 37) (o := 29) (u := 21) (by decide) (by decide) (by decide) h.1.2.1 hB (by omega)
      have f1 : Fr sC z z1 := e3.mono (fun a e => by
        rcases e with e | e
        · have := own_rng (o := 29) (Or.inl (by decide)) e
          unfold sC
          omega
        · unfold sC
          omega)
      have hM := XM_sC h f1
      obtain ⟨t1, t2, t3⟩ := th_of hM.1 h.2.2.1
      obtain ⟨z2, m1, m2, m3, m4⟩ := ml_of2 t2 hB (by omega)
      refine Both_r h (z1 := z1) (r := iv (if w = 0 then (svL (cmO y.2.1) (tkO y.2.1) (clO y.2.1) y.1 : Int) else if w = 1 then (svF (cmO y.2.1) (tkO y.2.1) (clO y.2.1) y.1 : Int) else if w = 2 then svV (cmO y.2.1) (tkO y.2.1) (clO y.2.1) y.1 else if w = 3 then (svM (cmO y.2.1) (tkO y.2.1) (clO y.2.1) y.1 : Int) else svS (cmO y.2.1) (tkO y.2.1) (clO y.2.1) y.1)) ?_ f1 (z2 := z2) ?_ ?_ ?_
      · unfold f_X10_critical f_X10_critical_0 f_X10_critical_4 f_X10_critical_12 f_X10_critical_25 f_X10_critical_92 f_X10_critical_84 f_X10_critical_76 f_X10_critical_68 f_X10_critical_60 f_X10_critical_22 f_X10_critical_9 f_X10_findBlock f_X10_findBlock_0
        have e1' : ((f_X3_layGreedy z 29 21).bind fun r1 => (f_X0_find r1 37 21 29).bind fun r3 => some r3) = some z1 := e1
        have nz : ¬ (iv (y.1 : Int) = 0) := fun e => by
          rw [n_0] at e
          have := (iv_eqk (sm_k (by omega)) 0).mp e
          omega
        rw [r0_0, r0_4, r0_6, r0_8, h.1.1.1, if_neg (fun e => by have := (iv_lt0 sw).mp e; omega), n_4, if_pos ((iv_lek sw 4).mpr g1.2), if_neg nz, e1', Option.bind_some]
        rw [e2.1, e2.2.1, e2.2.2.1, e2.2.2.2.1, e2.2.2.2.2.1, n_0, n_1, n_2, n_3]
        simp only [iv_eqk sw 0, iv_eqk sw 1, iv_eqk sw 2, iv_eqk sw 3]
        grind
      · show f_X11_critical _ 68 _ = _
        unfold f_X11_critical f_X11_critical_0 f_X11_critical_12 f_X11_critical_22 f_X11_critical_84 f_X11_critical_79 f_X11_critical_74 f_X11_critical_69 f_X11_critical_64 f_X11_critical_19 f_X11_critical_9
        have nz : ¬ (iv (y.1 : Int) = 0) := fun e => by
          rw [n_0] at e
          have := (iv_eqk (sm_k (by omega)) 0).mp e
          omega
        rw [n_4, n_0, in_ob sw (sm_d 0) (sm_d 4), Option.bind_some, ← n_0]
        simp only [ob_0]
        rw [if_neg (fun e => e g1), hM.1.1, if_neg nz, t1, Option.bind_some]
        have m1' : ∀ K : St → Option (St × Int32), ((f_X11_greedily (thZ y.2.1 z1 y.1) 68).bind fun r3 => (f_X11_looks r3.1 68 r3.2).bind K) = K z2 := fun K => by
          rw [← Option.bind_assoc, m1, Option.bind_some]
        rw [m1', m2.1, m2.2.1, m2.2.2.1, m2.2.2.2.1, m2.2.2.2.2, n_0, n_1, n_2, n_3]
        simp only [iv_eqk sw 0, iv_eqk sw 1, iv_eqk sw 2, iv_eqk sw 3]
        grind
      · exact (sM_75 t3).trans (m3.mono (fun a e => by
          rcases e with e | e
          · exact Or.inr e
          · exact Or.inl (by unfold sM; omega)))
      · intro k hk
        rw [m4 k (by unfold k68 at hk; omega) (by unfold k68 at hk; omega)]
        exact k68_75 t3 k hk
  · refine Both_s h (r := iv (-2)) ?_ ?_
    · unfold f_X10_critical f_X10_critical_0 f_X10_critical_4 f_X10_critical_9
      rw [n_4]
      by_cases w0 : w < 0
      · rw [if_pos ((iv_lt0 sw).mpr w0), n_m2]
      · rw [if_neg (fun e => w0 ((iv_lt0 sw).mp e)), if_neg (fun e => by have := (iv_lek sw 4).mp e; omega), n_m2]
    · show f_X11_critical _ 68 _ = _
      unfold f_X11_critical f_X11_critical_0 f_X11_critical_9
      rw [n_4, n_0, in_ob sw (sm_d 0) (sm_d 4), Option.bind_some, ← n_0]
      simp only [ob_0]
      rw [if_pos g1, n_m2]
end BLOCK2
