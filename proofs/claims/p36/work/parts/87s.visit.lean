/-! SEARCH: a node of the class -/
theorem r40_0 : rf 40 0 = 41 := by decide
theorem r40_1 : rf 40 1 = 45 := by decide
theorem r40_2 : rf 40 2 = 46 := by decide
theorem r40_3 : rf 40 3 = 48 := by decide
theorem r40_4 : rf 40 4 = 49 := by decide
theorem r40_5 : rf 40 5 = 50 := by decide
theorem r40_6 : rf 40 6 = 51 := by decide
def SE (z : St) (s : Se) : Prop := z.1 40 8 = iv s.1 ∧ z.1 40 9 = iv s.2.1 ∧ z.1 40 10 = iv s.2.2
def SV (s : Se) : Prop := (-1 ≤ s.1 ∧ s.1 ≤ 9000) ∧ (0 ≤ s.2.1 ∧ s.2.1 ≤ 9000000)
section VISIT
variable {z z1 z2 : St} {n p : Nat} {c t q : Nat → Int} {s : Se}
theorem fi_c (hL : LD z 25 n c t q) (hB : BD n c t q) (hY : LY z 41 n (gr c t q n n)) : ∃ z', f_X0_find z 45 25 41 = some z' ∧ z'.1 45 2 = iv (svV c t q n) ∧ (0 ≤ bkB q n (gr c t q n n) → z'.1 45 5 = iv (svQ c t q n) ∧ z'.1 45 6 = iv (svR c t q n)) ∧ Fr (fun a => a = 45) z z' := by
  rcases Nat.eq_zero_or_pos n with e0 | e0
  · subst e0
    obtain ⟨z', e1, e2, e3⟩ := bk_find0 (z := z) (o := 41) (u := 25) (b := 45) hY.1.1
    have e4 := bk_neg0 hB
    refine ⟨z', e1, ?_, fun e => absurd e4 (by omega), e3⟩
    rw [e2]
    unfold svV
    rw [if_pos e4]
  · obtain ⟨z', e1, e2, e3⟩ := bk_find (b := 45) (o := 41) (u := 25) (by decide) (by decide) (by decide) hL hB hY e0
    exact ⟨z', e1, e2.2.2.1, e2.2.2.2.2.2, e3⟩
theorem LD_25 (hL : LD z 25 n c t q) (hf : Fr (fun a => a < 25 ∨ 28 < a) z z1) : LD z1 25 n c t q := LD_fr hL (fun a ha => by
  have := own_rng (o := 25) (Or.inr (by decide)) ha
  exact (hf a (by omega)).1)
theorem vi_c (hL : LD z 25 n c t q) (hB : BD n c t q) (hp : z.1 40 7 = iv (p : Int)) (p8 : p < 1650) (hs : SE z s) (hv : SV s) : ∃ z', f_X6_visitNode z 40 25 = some z' ∧ SE z' (svN (gr c t q n n).2.2.2.2.2.2.1 s) ∧ (bkB q n (gr c t q n n) < 0 → z'.1 40 7 = iv (p : Int)) ∧ (0 ≤ bkB q n (gr c t q n n) → z'.1 40 7 = iv ((p + 1 : Nat) : Int) ∧ z'.1 48 p = iv (svB c t q n : Int) ∧ z'.1 49 p = iv 0 ∧ z'.1 50 p = iv (svQ c t q n) ∧ z'.1 51 p = iv (svR c t q n)) ∧ Fr (fun a => 40 ≤ a ∧ a ≤ 51) z z' ∧ ∀ a, 48 ≤ a → a ≤ 51 → ∀ j, j < p → z'.1 a j = z.1 a j := by
  have h8 := hL.2.1
  obtain ⟨s1, s2, s3⟩ := hs
  obtain ⟨v1, v2⟩ := hv
  obtain ⟨f, hf⟩ : ∃ f, f = (gr c t q n n).2.2.2.2.2.2.1 := ⟨_, rfl⟩
  have sf : sm f := by rw [hf]; exact gr_fin_b hB h8
  have n1 : s.2.1 + 1 < 2147483648 := by omega
  obtain ⟨za, hza⟩ : ∃ za, za = zI z 40 9 (iv (s.2.1 + 1)) := ⟨_, rfl⟩
  have fa : Fr (fun a => 40 ≤ a ∧ a ≤ 51) z za := by
    rw [hza]
    exact Fr.refl.zI (by decide)
  have hLa : LD za 25 n c t q := LD_25 hL (fa.mono (fun a e => by omega))
  have hYb := lgZ_LY (z := za) (o := 41) (by decide) hB h8 n (Nat.le_refl _)
  obtain ⟨zb, hzb⟩ : ∃ zb, zb = lgZ c t q za 41 n n := ⟨_, rfl⟩
  rw [← hzb] at hYb
  have lg : f_X3_layGreedy za 41 25 = some zb := by
    rw [hzb]
    exact lg_of (o := 41) (u := 25) (by decide) (by decide) hLa hB
  have fb0 : Fr (fun a => 41 ≤ a ∧ a ≤ 44) za zb := by
    rw [hzb]
    exact (lgZ_fr (o := 41) (by decide) n).mono (fun a e => by have := own_rng (o := 41) (Or.inl (by decide)) e; omega)
  have e6 : zb.1 41 6 = iv f := by
    rw [hf]
    exact hYb.1.2.2.2.1
  have b40 : zb.1 40 = za.1 40 := (fb0 40 (by omega)).1
  have b8 : zb.1 40 8 = iv s.1 := by rw [b40, hza, rI, if_neg (by decide), s1]
  have b9 : zb.1 40 9 = iv (s.2.1 + 1) := by rw [b40, hza, rI, if_pos ⟨rfl, rfl⟩]
  have b10 : zb.1 40 10 = iv s.2.2 := by rw [b40, hza, rI, if_neg (by decide), s3]
  have b7 : zb.1 40 7 = iv (p : Int) := by rw [b40, hza, rI, if_neg (by decide), hp]
  -- the best is known: zg
  have hg : ∃ zg, ((f_X3_layGreedy za 41 25).bind fun r1 => if (r1.1 40 8) = (-1) then f_X6_visitNode_40 r1 40 25 else f_X6_visitNode_26 r1 40 25) = f_X6_visitNode_59 zg 40 25 ∧ SE zg (svN f s) ∧ zg.1 40 7 = iv (p : Int) ∧ Fr (fun a => a = 40) zb zg := by
    have k40 : f_X6_visitNode_40 zb 40 25 = f_X6_visitNode_59 (zI (zI zb 40 8 (iv f)) 40 10 (iv (s.2.1 + 1))) 40 25 := by
      unfold f_X6_visitNode_40
      rw [r40_0, e6, rI, if_neg (by decide), b9]
    have se : (s.1 = -1 ∨ f < s.1) → SE (zI (zI zb 40 8 (iv f)) 40 10 (iv (s.2.1 + 1))) (svN f s) := fun e => by
      unfold svN SE
      rw [if_pos e]
      refine ⟨?_, ?_, ?_⟩
      · rw [rI, if_neg (by decide), rI, if_pos ⟨rfl, rfl⟩]
      · rw [rI, if_neg (by decide), rI, if_neg (by decide), b9]
      · rw [rI, if_pos ⟨rfl, rfl⟩]
    have s7 : (zI (zI zb 40 8 (iv f)) 40 10 (iv (s.2.1 + 1))).1 40 7 = iv (p : Int) := by rw [rI, if_neg (by decide), rI, if_neg (by decide), b7]
    rw [lg, Option.bind_some, b8, n_m1]
    have ss : sm s.1 := ⟨by omega, by omega⟩
    by_cases g1 : s.1 = -1
    · rw [if_pos ((iv_eqk ss (-1)).mpr g1), k40]
      exact ⟨_, rfl, se (Or.inl g1), s7, fr1 (fr1 Fr.refl)⟩
    · rw [if_neg (fun e => g1 ((iv_eqk ss (-1)).mp e))]
      unfold f_X6_visitNode_26
      rw [r40_0, e6, b8]
      by_cases g2 : f < s.1
      · rw [if_neg (fun e => by have := (iv_le ss sf).mp e; omega), k40]
        exact ⟨_, rfl, se (Or.inr g2), s7, fr1 (fr1 Fr.refl)⟩
      · rw [if_pos ((iv_le ss sf).mpr (by omega))]
        refine ⟨zb, rfl, ?_, b7, Fr.refl⟩
        unfold svN SE
        rw [if_neg (fun e => by rcases e with e | e; exact g1 e; exact g2 e)]
        exact ⟨b8, b9, b10⟩
  obtain ⟨zg, g1, g2, g3, g4⟩ := hg
  have fg : Fr (fun a => 40 ≤ a ∧ a ≤ 51) z zg := (fa.trans (fb0.mono (fun a e => by omega))).trans (g4.mono (fun a e => by omega))
  have hLg : LD zg 25 n c t q := LD_25 hL (fg.mono (fun a e => by omega))
  have hYg : LY zg 41 n (gr c t q n n) := LY_fr hYb (fun a ha => by
    have := own_rng (o := 41) (Or.inl (by decide)) ha
    exact (g4 a (by omega)).1)
  obtain ⟨zf, f1, f2, f3, f4⟩ := fi_c hLg hB hYg
  have f40 : zf.1 40 = zg.1 40 := (f4 40 (by omega)).1
  have kz : ∀ a, 48 ≤ a → a ≤ 51 → zf.1 a = z.1 a := fun a e1 e2 => by
    rw [(f4 a (by omega)).1, (g4 a (by omega)).1, (fb0 a (by omega)).1, hza]
    exact zI_n (by omega)
  have ff : Fr (fun a => 40 ≤ a ∧ a ≤ 51) z zf := fg.trans (f4.mono (fun a e => by omega))
  have st : f_X6_visitNode z 40 25 = if bkB q n (gr c t q n n) < 0 then some zf else f_X6_visitNode_82 zf 40 := by
    unfold f_X6_visitNode f_X6_visitNode_0
    have e91 : z.1 40 9 + 1 = iv (s.2.1 + 1) := by rw [s2, n_1, iv_add]
    rw [r40_0, e91, ← hza, g1]
    unfold f_X6_visitNode_59
    rw [r40_0, r40_1, f1, Option.bind_some, f2, n_m1]
    by_cases nb : bkB q n (gr c t q n n) < 0
    · have e : svV c t q n = -1 := by
        unfold svV
        rw [if_pos nb]
      rw [e, if_pos rfl, if_pos nb]
      rfl
    · have lt := (svB_lt hB h8 (by omega)).1
      have e : svV c t q n = (svB c t q n : Int) := by
        unfold svV
        rw [if_neg nb]
      rw [e, if_neg (fun e => by have := (iv_eqk (sm_k (show svB c t q n < 2147483648 by omega)) (-1)).mp e; omega), if_neg nb]
  by_cases nb : bkB q n (gr c t q n n) < 0
  · rw [if_pos nb] at st
    refine ⟨zf, st, ?_, fun _ => by rw [f40, g3], fun e => by omega, ff, fun a e1 e2 j _ => by rw [kz a e1 e2]⟩
    rw [← hf]
    unfold SE at g2 ⊢
    rw [f40]
    exact g2
  · rw [if_neg nb] at st
    have e2 : zf.1 45 2 = iv (svB c t q n : Int) := by
      rw [f2]
      unfold svV
      rw [if_neg nb]
    obtain ⟨e5, e6'⟩ := f3 (by omega)
    have e7 : zf.1 40 7 = iv (p : Int) := by rw [f40, g3]
    obtain ⟨zr, hzr⟩ : ∃ zr, zr = zI (zI (zI (zI (zI zf 48 p (iv (svB c t q n : Int))) 49 p 0) 50 p (iv (svQ c t q n))) 51 p (iv (svR c t q n))) 40 7 (iv ((p + 1 : Nat) : Int)) := ⟨_, rfl⟩
    have rd : f_X6_visitNode_82 zf 40 = some zr := by
      have i1 : inb (iv (p : Int)) 1650 = true := inb_k p8 (by decide)
      have i2 : (iv (p : Int)).toNatClampNeg = p := tn (by omega)
      unfold f_X6_visitNode_82 f_X6_visitNode_89 f_X6_visitNode_99 f_X6_visitNode_167
      rw [e7, if_neg (fun e => by have := (iv_lt0 (sm_k (show p < 2147483648 by omega))).mp e; omega), show (1650 : Int32) = iv 1650 by decide, if_neg (fun e => by have := (iv_kle (sm_k (show p < 2147483648 by omega)) 1650).mp e; omega)]
      simp only [r40_3, r40_4, r40_5, r40_6, r40_1, rI, e7, e2, e5, e6', i1, i2, iv_s, reduceIte, Nat.reduceEqDiff, false_and, if_true]
      rw [hzr]
    refine ⟨zr, by rw [st, rd], ?_, fun e => absurd e nb, fun _ => ?_, ?_, fun a e1 e2 j hj => ?_⟩
    · rw [← hf]
      unfold SE at g2 ⊢
      rw [hzr]
      simp only [rI, reduceIte, Nat.reduceEqDiff, false_and, true_and]
      rw [f40]
      exact g2
    · rw [hzr]
      simp only [rI, reduceIte, Nat.reduceEqDiff, false_and, true_and, and_self]
      exact ⟨rfl, trivial⟩
    · rw [hzr]
      exact ((((ff.zI (by decide)).zI (by decide)).zI (by decide)).zI (by decide)).zI (by decide)
    · rw [hzr, rI, if_neg (by omega), rI, if_neg (by omega), rI, if_neg (by omega), rI, if_neg (by omega), rI, if_neg (by omega), kz a e1 e2]
end VISIT
