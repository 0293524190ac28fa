/-! JUDGE: the call -/
section JUDGE3
variable {z z1 z2 : St} {y : Sy} {n : Nat} {c t q w : Nat → Int} {v : Nat → Nat → Int} {s : Sh}
theorem s_judge (h : INV z y) (a b : Int32) : Both (f_X10_judge z 0 a b) (fun z => f_X11_judge z 68 a b) := by
  obtain ⟨i, si, rfl⟩ := ex_iv a
  obtain ⟨x, sx, rfl⟩ := ex_iv b
  have hB := BD_O h.2.2.1
  have h8 := h.1.1.2.1
  have hC := h.1.2.2.2.2.2.1
  have hM0 := h.2.1.2.2.2.2
  have hS := h.2.2.2.2.2.2
  have m3 : ∀ zz : St, f_X11_in zz (iv x) 0 3 = some (zz, ob (0 ≤ x ∧ x ≤ 3)) := fun zz => by
    rw [n_0, n_3]
    exact in_ob sx (sm_d 0) (sm_d 3)
  by_cases g1 : 0 ≤ i ∧ i < 4
  · by_cases g2 : 0 ≤ x ∧ x ≤ 3
    · obtain ⟨k, rfl⟩ : ∃ k : Nat, i = k := ⟨i.toNat, by omega⟩
      have hk : k < 4 := by omega
      have bS := hS k hk
      have cls : f_X10_judge z 0 (iv (k : Int)) (iv x) = if y.2.2.2.2.2.1 k = -1 then some (z, -11) else ((f_X10_layTold z 0 (60 + 2 * k)).bind fun r2 => if r2.2 = 0 then some (r2.1, -3) else f_X10_judge_54 r2.1 0 (iv x)) := by
        unfold f_X10_judge f_X10_judge_0 f_X10_judge_8 f_X10_judge_12 f_X10_judge_21 f_X10_judge_33 f_X10_judge_37 f_X10_judge_50
        rw [is_c si, Option.bind_some]
        show (if ob (0 ≤ (k : Int) ∧ (k : Int) < 4) = 0 then _ else _) = _
        rw [if_neg (fun e => ob_0.mp e g1), if_neg (fun e => by have := (iv_lt0 sx).mp e; omega), n_3, if_pos ((iv_lek sx 3).mpr g2.2), inb4 hk, if_pos rfl, tn (by omega), r0_13, (shA k hk).1, mi_c hC hS hk, Option.bind_some]
        show (if ob (y.2.2.2.2.2.1 k = -1) = 0 then _ else _) = _
        by_cases g3 : y.2.2.2.2.2.1 k = -1
        · rw [if_pos g3, if_neg (fun e => ob_0.mp e g3)]
        · rw [if_neg g3, if_pos (ob_0.mpr g3), if_pos rfl]
      have mdl : ∀ zz : St, XM zz y → f_X11_judge zz 68 (iv (k : Int)) (iv x) = if y.2.2.2.2.2.1 k = -1 then some (zz, -11) else f_X11_judge_33 zz 68 (iv (k : Int)) (iv x) := fun zz hz => by
        obtain ⟨q1, q2, q3, q4, q5, q6⟩ := MS_at hz.2.2.2.2 hS hk
        unfold f_X11_judge f_X11_judge_0 f_X11_judge_7 f_X11_judge_20 f_X11_judge_29
        rw [is_m si, Option.bind_some]
        show (if ob (0 ≤ (k : Int) ∧ (k : Int) < 4) = 0 then _ else _) = _
        rw [if_neg (fun e => ob_0.mp e g1)]
        show ((f_X11_in zz (iv x) 0 3).bind _) = _
        rw [m3 zz, Option.bind_some]
        show (if ob (0 ≤ x ∧ x ≤ 3) = 0 then _ else _) = _
        rw [if_neg (fun e => ob_0.mp e g2), inb4 hk, if_pos rfl]
        show (if 0 ≤ zz.1 (rf 68 54) ((iv (k : Int)).toNatClampNeg) then _ else _) = _
        rw [tn (by omega), r68_54, q1]
        by_cases g3 : y.2.2.2.2.2.1 k = -1
        · rw [if_pos g3, if_neg (fun e => q3.mp e g3)]
        · rw [if_neg g3, if_pos (q3.mpr g3)]
      by_cases g3 : y.2.2.2.2.2.1 k = -1
      · rw [if_pos g3] at cls
        refine Both_s h (r := -11) cls ?_
        show f_X11_judge z 68 _ _ = _
        rw [mdl z h.2.1, if_pos g3]
      · rw [if_neg g3] at cls
        have szc : (z.1 (60 + 2 * k) 2 = z.1 1 1) ↔ y.2.2.2.2.2.2.1 k = y.1 := by
          rw [(hC k hk).2.1, h.1.1.1, iv_eq (sm_k (by omega)) (sm_k (by omega))]
          omega
        have szm : ∀ zz : St, XM zz y → ((zz.1 97 k = zz.1 68 5) ↔ y.2.2.2.2.2.2.1 k = y.1) := fun zz hz => by
          rw [(hz.2.2.2.2 k hk).2.1, hz.1.1, iv_eq (sm_k (by omega)) (sm_k (by omega))]
          omega
        by_cases g4 : y.2.2.2.2.2.2.1 k = y.1
        · obtain ⟨w, hw⟩ : ∃ w : Nat → Int, w = fun m => (y.2.2.2.2.2.2.2 k m).toInt := ⟨_, rfl⟩
          have hw' : ∀ m, w m = (y.2.2.2.2.2.2.2 k m).toInt := fun m => by rw [hw]
          let zc : St := zI (zI (zI (zI (zI z 33 3 0) 33 4 0) 33 5 0) 33 6 0) 33 7 0
          have fc : Fr (own 33) z zc := ((((Fr.refl.zI (Or.inl rfl)).zI (Or.inl rfl)).zI (Or.inl rfl)).zI (Or.inl rfl)).zI (Or.inl rfl)
          have o33 : ∀ a, own 33 a → 33 ≤ a ∧ a ≤ 36 := fun a ha => by have := own_rng (o := 33) (Or.inl (by decide)) ha; omega
          have hYc : LY zc 33 y.1 (jl (cmO y.2.1) (tkO y.2.1) (clO y.2.1) w 0) := by
            refine ⟨⟨?_, ?_, ?_, ?_, ?_⟩, fun i hi => absurd hi (Nat.not_lt_zero _), fun j _ hb => ?_⟩
            · show (zI (zI (zI (zI (zI z 33 3 0) 33 4 0) 33 5 0) 33 6 0) 33 7 0).1 33 3 = iv 0
              simp [rI, n_0]
            · show (zI (zI (zI (zI (zI z 33 3 0) 33 4 0) 33 5 0) 33 6 0) 33 7 0).1 33 4 = iv 0
              simp [rI, n_0]
            · show (zI (zI (zI (zI (zI z 33 3 0) 33 4 0) 33 5 0) 33 6 0) 33 7 0).1 33 5 = iv 0
              simp [rI, n_0]
            · show (zI (zI (zI (zI (zI z 33 3 0) 33 4 0) 33 5 0) 33 6 0) 33 7 0).1 33 6 = iv 0
              simp [rI, n_0]
            · show (zI (zI (zI (zI (zI z 33 3 0) 33 4 0) 33 5 0) 33 6 0) 33 7 0).1 33 7 = iv 0
              simp [rI, n_0]
            · have hb : Nat.testBit 0 j = true := hb
              rw [Nat.zero_testBit] at hb
              exact absurd hb (by decide)
          have hLc : LD zc 21 y.1 (cmO y.2.1) (tkO y.2.1) (clO y.2.1) := LD_fr h.1.2.1 (fun a ha => (fc a (fun e => by have := own_rng (o := 21) (Or.inr (by decide)) ha; have := o33 a e; omega)).1)
          have hCc : CS zc y.2.2.2.2.2 := CS_fr hC (fun a e1 e2 => fc a (fun e => by have := o33 a e; omega))
          obtain ⟨z1, r1, p1, p2, p3⟩ := lt_loop h.1.2.1 hB hk hS g4 hw' y.1 0 FU zc (by omega) (FU_8 (by omega)) hLc hCc (by rw [(fc 1 (fun e => by have := o33 1 e; omega)).1]; exact h.1.1.1) (fun m hm => absurd hm (Nat.not_lt_zero _)) hYc
          have lt : f_X10_layTold z 0 (60 + 2 * k) = some (z1, r1) := by
            unfold f_X10_layTold f_X10_layTold_0 f_X10_layTold_16 f_X3_clear f_X3_clear_0
            rw [r0_0, r0_7, if_pos (szc.mpr g4), Option.bind_some]
            exact p1
          have f1 : Fr sC z z1 := (fc.trans p2).mono (fun a e => by have := o33 a e; unfold sC; omega)
          rw [lt, Option.bind_some] at cls
          -- the model's isOrder
          have io : ∀ zz : St, XM zz y → f_X11_isOrder zz 68 (iv (k : Int)) = some (zz, if (∀ m, m < y.1 → okJ (cmO y.2.1) (tkO y.2.1) (clO y.2.1) y.1 w m) then 1 else 0) := fun zz hz => by
            unfold f_X11_isOrder f_X11_isOrder_0 f_X11_isOrder_15
            rw [inb4 hk, if_pos rfl, tn (by omega), r68_55, if_pos ((szm zz hz).mpr g4)]
            exact io_of hz.1 hk hS hz.2.2.2.2 hw' g4 hB
          rcases p3 with ⟨p3, p4, p5⟩ | ⟨p3, p4⟩
          · -- it is an order
            rw [p3] at cls
            have hL1 : LD z1 21 y.1 (cmO y.2.1) (tkO y.2.1) (clO y.2.1) := LD_fr h.1.2.1 (fun a ha => (f1 a (by have := own_rng (o := 21) (Or.inr (by decide)) ha; unfold sC; omega)).1)
            have cl2 : ∃ z3, f_X10_judge_54 z1 0 (iv x) = some (z3, Int32.toInt64 (iv (juV (cmO y.2.1) (tkO y.2.1) (clO y.2.1) y.1 w x))) ∧ Fr sC z z3 := by
              unfold f_X10_judge_54 f_X10_judge_80 f_X10_judge_89 f_X10_judge_98 f_X10_judge_122 juV
              rw [n_0, n_1, n_2, r0_4, r0_6, r0_7]
              simp only [iv_eqk sx 0, iv_eqk sx 1, iv_eqk sx 2]
              by_cases x0 : x = 0
              · rw [if_pos x0, if_pos x0, p5.1.2.2.2.1]
                exact ⟨z1, rfl, f1⟩
              · by_cases x1 : x = 1
                · rw [if_neg x0, if_neg x0, if_pos x1, if_pos x1, p5.1.2.2.2.2]
                  exact ⟨z1, rfl, f1⟩
                · by_cases x2 : x = 2
                  · rw [if_neg x0, if_neg x0, if_neg x1, if_neg x1, if_pos x2, if_pos x2]
                    have hG := lgZ_LY (z := z1) (o := 29) (by decide) hB h8 y.1 (Nat.le_refl _)
                    have fz := lgZ_fr (c := cmO y.2.1) (t := tkO y.2.1) (q := clO y.2.1) (z := z1) (o := 29) (n := y.1) (by decide) y.1
                    have hY2 := LY_fr p5 (fun a ha => (fz a (fun e => by have := own_rng (o := 29) (Or.inl (by decide)) e; have := o33 a ha; omega)).1)
                    rw [lg_of (o := 29) (u := 21) (by decide) (by decide) hL1 hB, Option.bind_some, lat_c hB h8 p4 hY2 hG, Option.bind_some]
                    exact ⟨_, rfl, f1.trans lgZ_sC⟩
                  · rw [if_neg x0, if_neg x0, if_neg x1, if_neg x1, if_neg x2, if_neg x2, wt_c hL1 hB p4 p5, Option.bind_some]
                    exact ⟨z1, rfl, f1⟩
            obtain ⟨z3, c3, f3⟩ := cl2
            have hM := XM_sC h f3
            obtain ⟨t1, t2, t3⟩ := th_of hM.1 h.2.2.1
            have mM := mgZ_MG (z := thZ y.2.1 z3 y.1) (c := cmO y.2.1) (t := tkO y.2.1) (q := clO y.2.1) hB h8 y.1 (Nat.le_refl _)
            have mD := mgZ_MD t2 (c := cmO y.2.1) (t := tkO y.2.1) (q := clO y.2.1) y.1
            have mf := mgZ_fr (z := thZ y.2.1 z3 y.1) (c := cmO y.2.1) (t := tkO y.2.1) (q := clO y.2.1) (n := y.1) y.1
            let zm : St := zI (zI (zI (mgZ (cmO y.2.1) (tkO y.2.1) (clO y.2.1) (thZ y.2.1 z3 y.1) y.1 y.1) 68 19 (iv (gr (cmO y.2.1) (tkO y.2.1) (clO y.2.1) y.1 y.1).2.2.2.2.2.1)) 68 43 0) 68 44 0
            have fm : Fr (fun a => a = 68 ∨ (75 ≤ a ∧ a ≤ 80)) z3 zm := ((((t3.mono (Q := fun a => a = 68 ∨ (75 ≤ a ∧ a ≤ 80)) (fun a e => by omega)).trans (mf.mono (fun a e => by omega))).zI (Or.inl rfl)).zI (Or.inl rfl)).zI (Or.inl rfl)
            have km : ∀ q, q ≠ 19 → q ≠ 43 → q ≠ 44 → zm.1 68 q = z3.1 68 q := fun q h1 h2 h3 => by
              show (zI (zI (zI _ 68 19 _) 68 43 0) 68 44 0).1 68 q = _
              rw [rI, if_neg (fun e => h3 e.2), rI, if_neg (fun e => h2 e.2), rI, if_neg (fun e => h1 e.2), (mf 68 (by decide)).1, (t3 68 (by decide)).1]
            have mDm : MD zm y.1 (cmO y.2.1) (tkO y.2.1) (clO y.2.1) := MD_fr mD (by
              show (zI (zI (zI _ 68 19 _) 68 43 0) 68 44 0).1 68 5 = _
              rw [rI, if_neg (by decide), rI, if_neg (by decide), rI, if_neg (by decide)]) (fun a e1 e2 => by
              show (zI (zI (zI _ 68 19 _) 68 43 0) 68 44 0).1 a = _
              rw [zI_n (by omega), zI_n (by omega), zI_n (by omega)])
            have mMm : MG zm y.1 (gr (cmO y.2.1) (tkO y.2.1) (clO y.2.1) y.1 y.1) := by
              have e : ∀ a, a ≠ 68 → zm.1 a = (mgZ (cmO y.2.1) (tkO y.2.1) (clO y.2.1) (thZ y.2.1 z3 y.1) y.1 y.1).1 a := fun a ha => by
                show (zI (zI (zI _ 68 19 _) 68 43 0) 68 44 0).1 a = _
                rw [zI_n ha, zI_n ha, zI_n ha]
              unfold MG at mM ⊢
              rw [e 78 (by decide), e 79 (by decide), e 80 (by decide)]
              exact mM
            have mSm : MS zm y.2.2.2.2.2 := MS_fr hM.2.2.2.2 (fun a e1 e2 => fm a (by omega))
            have ju := mju_of mDm hB mMm hk hS mSm hw' g4 p4 (by
              show (zI (zI (zI _ 68 19 _) 68 43 0) 68 44 0).1 68 43 = _
              rw [rI, if_neg (by decide), rI, if_pos ⟨rfl, rfl⟩, n_0]) (by
              show (zI (zI (zI _ 68 19 _) 68 43 0) 68 44 0).1 68 44 = _
              rw [rI, if_pos ⟨rfl, rfl⟩, n_0]) sx
            refine Both_r h (z1 := z3) (z2 := mjZ (cmO y.2.1) (tkO y.2.1) (clO y.2.1) y.1 w zm y.1) (r := Int32.toInt64 (iv (juV (cmO y.2.1) (tkO y.2.1) (clO y.2.1) y.1 w x))) ?_ f3 ?_ ?_ ?_
            · rw [cls]
              show (if (1 : Int32) = 0 then _ else f_X10_judge_54 z1 0 (iv x)) = _
              rw [if_neg (by decide), c3]
            · show f_X11_judge z3 68 _ _ = _
              rw [mdl z3 hM, if_neg g3]
              unfold f_X11_judge_33 f_X11_judge_45
              rw [io z3 hM, Option.bind_some]
              show (if (if (∀ m, m < y.1 → okJ (cmO y.2.1) (tkO y.2.1) (clO y.2.1) y.1 w m) then (1 : Int32) else 0) = 0 then _ else _) = _
              rw [if_pos p4, if_neg (by decide)]
              show ((f_X11_thinks z3 68).bind _) = _
              rw [t1, Option.bind_some, mg_of t2 hB, Option.bind_some]
              exact ju
            · exact (fm.mono (fun a e => by
                rcases e with e | e
                · exact Or.inr e
                · exact Or.inl (by unfold sM; omega))).trans ((mjZ_fr y.1).mono (fun a e => Or.inr e))
            · intro q hq
              rw [mjZ_68 (by unfold k68 at hq; omega) (by unfold k68 at hq; omega)]
              exact km q (by unfold k68 at hq; omega) (by unfold k68 at hq; omega) (by unfold k68 at hq; omega)
          · -- it is none
            rw [p3] at cls
            have hM := XM_sC h f1
            refine Both_r h (z1 := z1) (z2 := z1) (r := -3) ?_ f1 ?_ Fr.refl (fun _ _ => rfl)
            · rw [cls]
              rfl
            · show f_X11_judge z1 68 _ _ = _
              rw [mdl z1 hM, if_neg g3]
              unfold f_X11_judge_33 f_X11_judge_41
              rw [io z1 hM, Option.bind_some]
              show (if (if (∀ m, m < y.1 → okJ (cmO y.2.1) (tkO y.2.1) (clO y.2.1) y.1 w m) then (1 : Int32) else 0) = 0 then _ else _) = _
              rw [if_neg p4, if_pos rfl]
        · refine Both_s h (r := -3) ?_ ?_
          · rw [cls]
            unfold f_X10_layTold f_X10_layTold_0 f_X10_layTold_14
            rw [r0_0, if_neg (fun e => g4 (szc.mp e)), Option.bind_some]
            rfl
          · show f_X11_judge z 68 _ _ = _
            rw [mdl z h.2.1, if_neg g3]
            unfold f_X11_judge_33 f_X11_judge_41 f_X11_isOrder f_X11_isOrder_0 f_X11_isOrder_13
            rw [inb4 hk, if_pos rfl, tn (by omega), r68_55, if_neg (fun e => g4 ((szm z h.2.1).mp e)), Option.bind_some]
            rfl
    · refine Both_s h (r := -2) ?_ ?_
      · unfold f_X10_judge f_X10_judge_0 f_X10_judge_8 f_X10_judge_12 f_X10_judge_17
        rw [is_c si, Option.bind_some]
        show (if ob (0 ≤ i ∧ i < 4) = 0 then _ else _) = _
        rw [if_neg (fun e => ob_0.mp e g1)]
        by_cases x0 : x < 0
        · rw [if_pos ((iv_lt0 sx).mpr x0)]
        · rw [if_neg (fun e => x0 ((iv_lt0 sx).mp e)), n_3, if_neg (fun e => by have := (iv_lek sx 3).mp e; omega)]
      · show f_X11_judge z 68 _ _ = _
        unfold f_X11_judge f_X11_judge_0 f_X11_judge_7 f_X11_judge_16
        rw [is_m si, Option.bind_some]
        show (if ob (0 ≤ i ∧ i < 4) = 0 then _ else _) = _
        rw [if_neg (fun e => ob_0.mp e g1)]
        show ((f_X11_in z (iv x) 0 3).bind _) = _
        rw [m3 z, Option.bind_some]
        show (if ob (0 ≤ x ∧ x ≤ 3) = 0 then _ else _) = _
        rw [if_pos (ob_0.mpr g2)]
  · refine Both_s h (r := -2) ?_ ?_
    · unfold f_X10_judge f_X10_judge_0 f_X10_judge_17
      rw [is_c si, Option.bind_some]
      show (if ob (0 ≤ i ∧ i < 4) = 0 then _ else _) = _
      rw [if_pos (ob_0.mpr g1)]
    · show f_X11_judge z 68 _ _ = _
      unfold f_X11_judge f_X11_judge_0 f_X11_judge_16
      rw [is_m si, Option.bind_some]
      show (if ob (0 ≤ i ∧ i < 4) = 0 then _ else _) = _
      rw [if_pos (ob_0.mpr g1)]
end JUDGE3
