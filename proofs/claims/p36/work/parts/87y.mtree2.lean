/-! SEARCH: the whole tree of the model -/
section MTREE2
variable {z z1 z2 : St} {n p d j : Nat} {c t q : Nat → Int} {s : Se}
theorem se_s {F o : Nat} {z : St} : f_X11_search_23 (F + 1) z o = if (z.1 o 30) < 0 then f_X11_search_167 z else f_X11_search_30 (f_X11_search_23 F) z o := rfl
theorem se_p {F : Nat} (hp : z.1 68 30 = iv (p : Int)) (p8 : p < 400) : f_X11_search_23 (F + 1) z 68 = if 0 ≤ z.1 82 p then f_X11_search_59 (f_X11_search_23 F) z 68 (iv (p : Int)) (z.1 82 p) else f_X11_search_46 (f_X11_search_23 F) z 68 := by
  rw [se_s]
  unfold f_X11_search_30
  rw [hp, if_neg (fun e => by have := (iv_lt0 (sm_k (show p < 2147483648 by omega))).mp e; omega), inb_k p8 (by decide), if_pos rfl, r68_31, tn (by omega)]
theorem se_n {F : Nat} (hp : z.1 68 30 = iv (p : Int)) (p8 : p < 400) (h82 : z.1 82 p = iv (-1)) : f_X11_search_23 (F + 1) z 68 = f_X11_search_23 F (zI z 68 30 (iv ((p : Int) - 1))) 68 := by
  rw [se_p hp p8, h82, if_neg (by decide)]
  unfold f_X11_search_46 f_X11_search_164
  rw [hp, n_1, iv_sub]
theorem se_j {F : Nat} (hp : z.1 68 30 = iv (p : Int)) (p8 : p < 400) (h82 : z.1 82 p = iv (j : Int)) (hj : j < 8) : f_X11_search_23 (F + 1) z 68 = if z.1 83 p = 0 then f_X11_search_68 (f_X11_search_23 F) z 68 (iv (p : Int)) (iv (j : Int)) else if z.1 83 p = 1 then f_X11_search_104 (f_X11_search_23 F) z 68 (iv (p : Int)) (iv (j : Int)) else f_X11_search_142 (f_X11_search_23 F) z 68 (iv (p : Int)) (iv (j : Int)) := by
  have e : (0 : Int32) ≤ iv (j : Int) := by
    rw [n_0]
    exact (iv_le (sm_d 0) (sm_k (by omega))).mpr (by omega)
  rw [se_p hp p8, h82, if_pos e]
  unfold f_X11_search_59 f_X11_search_94
  rw [inb_k p8 (by decide), if_pos rfl, if_pos rfl, r68_32, tn (by omega)]
theorem se_0 {F : Nat} {x : Int} (hp : z.1 68 30 = iv (p : Int)) (p8 : p < 400) (h82 : z.1 82 p = iv (j : Int)) (hj : j < 8) (h83 : z.1 83 p = iv 0) (h86 : z.1 86 p = iv x) (hf : f_X11_follows (zI (zI z 83 p (iv 1)) 77 j (iv x)) 68 = some z1) : f_X11_search_23 (F + 1) z 68 = f_X11_search_23 F z1 68 := by
  rw [se_j hp p8 h82 hj, h83, if_pos (by decide)]
  unfold f_X11_search_68 f_X11_search_164
  rw [inb_k p8 (by decide), if_pos rfl, if_pos rfl, inb_k hj (by decide), if_pos rfl, r68_32, show rf 68 15 = 77 by decide, r68_35, tn (by omega), tn (by omega), zI_n (show (86 : Nat) ≠ 83 by decide), h86, n_1, hf, Option.bind_some]
theorem se_1 {F : Nat} {x y : Int} (hp : z.1 68 30 = iv (p : Int)) (p8 : p < 400) (h82 : z.1 82 p = iv (j : Int)) (hj : j < 8) (h83 : z.1 83 p = iv 1) (h84 : z.1 84 p = iv x) (h87 : z.1 87 p = iv y) (hf : f_X11_follows (zI (zI (zI z 83 p (iv 2)) 77 j (iv x)) 75 j (iv y)) 68 = some z1) : f_X11_search_23 (F + 1) z 68 = f_X11_search_23 F z1 68 := by
  rw [se_j hp p8 h82 hj, h83, if_neg (by decide), if_pos (by decide)]
  unfold f_X11_search_104 f_X11_search_164
  rw [inb_k p8 (by decide), if_pos rfl, if_pos rfl, inb_k hj (by decide), if_pos rfl, if_pos rfl, if_pos rfl, r68_32, show rf 68 15 = 77 by decide, show rf 68 13 = 75 by decide, r68_33, r68_36, tn (by omega), tn (by omega), zI_n (show (84 : Nat) ≠ 83 by decide), h84, zI_n (show (87 : Nat) ≠ 77 by decide), zI_n (show (87 : Nat) ≠ 83 by decide), h87, n_2, hf, Option.bind_some]
theorem se_2 {F : Nat} {x : Int} (hp : z.1 68 30 = iv (p : Int)) (p8 : p < 400) (h82 : z.1 82 p = iv (j : Int)) (hj : j < 8) (h83 : z.1 83 p = iv 2) (h85 : z.1 85 p = iv x) : f_X11_search_23 (F + 1) z 68 = f_X11_search_23 F (zI (zI z 75 j (iv x)) 68 30 (iv ((p : Int) - 1))) 68 := by
  rw [se_j hp p8 h82 hj, h83, if_neg (by decide), if_neg (by decide)]
  unfold f_X11_search_142 f_X11_search_164
  rw [inb_k p8 (by decide), if_pos rfl, inb_k hj (by decide), if_pos rfl, show rf 68 13 = 75 by decide, r68_34, tn (by omega), tn (by omega), h85, zI_n (show (68 : Nat) ≠ 75 by decide), hp, n_1, iv_sub]
theorem nn0 {a b : Int} (e : b = a + 1) : a ≤ b ∧ b ≤ a + ((1 : Nat) : Int) := by omega
theorem nn1 {a b : Int} {A B : Nat} (h : 0 ≤ a ∧ a + ((3 + A + B : Nat) : Int) ≤ 9000000) (e : b = a + 1) : 0 ≤ b ∧ b + (A : Int) ≤ 9000000 := by omega
theorem nn2 {a b f : Int} {A B : Nat} (h : 0 ≤ a ∧ a + ((3 + A + B : Nat) : Int) ≤ 9000000) (e : b = a + 1) (g1 : b ≤ f) (g2 : f ≤ b + (A : Int)) : 0 ≤ f ∧ f + (B : Int) ≤ 9000000 := by omega
theorem nn3 {a b f g : Int} {A B : Nat} (e : b = a + 1) (g1 : b ≤ f) (g2 : f ≤ b + (A : Int)) (g3 : f ≤ g) (g4 : g ≤ f + (B : Int)) : a ≤ g ∧ g ≤ a + ((3 + A + B : Nat) : Int) := by omega
theorem nn7 {p d : Nat} (h : p + (d + 1) ≤ 400) : p < 400 ∧ p + 1 + d ≤ 400 := by omega
theorem nn8 {G A B : Nat} : G + (3 + A + B) = G + 1 + B + 1 + A + 1 := by omega
theorem k6_I {a i : Nat} {x : Int32} (ha : a ≠ 68 ∨ i = 30) : k6 z (zI z a i x) := fun k hk => by
  rw [rI, if_neg (by unfold k68 at hk; omega)]
theorem kpm_I {a i : Nat} {x : Int32} (ha : a < 82 ∨ p ≤ i) : kpm z (zI z a i x) p := fun b _ _ k hk => by
  rw [rI, if_neg (by omega)]
theorem rt_m (t : Nat → Int) (n : Nat) : ∀ d, RTm t n d
  | 0 => fun c q s p z hG => hG.elim
  | d + 1 => fun c q s p z hG hA hd hS hs2 => by
    have ih := rt_m t n d
    obtain ⟨hb, hc⟩ := GT_s hG
    obtain ⟨hL, hSE, a30, a82, a83, a4⟩ := hA
    have hB := GT_BD hb
    have h8 := hL.2.1
    have p8 := (nn7 hd).1
    have hd' := (nn7 hd).2
    have s21 : (sN c t q n s).2.1 = s.2.1 + 1 := svN_2
    by_cases nb : bkB q n (gr c t q n n) < 0
    · have et : ms t n (d + 1) c q s = 1 := by rw [ms_s, if_pos nb]
      have ev : sv t n (d + 1) c q s = sN c t q n s := by rw [sv_s, if_pos nb]
      have em : svV c t q n = -1 := by
        unfold svV
        rw [if_pos nb]
      rw [em] at a82
      rw [et, ev]
      refine ⟨zI z 68 30 (iv ((p : Int) - 1)), fun G => se_n a30 p8 a82, ?_, MD_fr hL (by rw [rI, if_neg (by decide)]) (fun a e1 e2 => zI_n (Nat.ne_of_gt (Nat.lt_of_lt_of_le (by decide) e1))), by rw [rI, if_pos ⟨rfl, rfl⟩], kpm_I (Or.inl (by decide)), Fr.refl.zI (Or.inl rfl), k6_I (Or.inr rfl), hS, (nn0 s21).1, (nn0 s21).2⟩
      unfold SEm at hSE ⊢
      rw [rI, if_neg (by decide), rI, if_neg (by decide), rI, if_neg (by decide)]
      exact hSE
    · have nb' : 0 ≤ bkB q n (gr c t q n n) := Int.not_lt.mp nb
      obtain ⟨e84, e85, e86, e87⟩ := a4 nb'
      obtain ⟨hcl, hcr⟩ := hc nb'
      have lt := (svB_lt hB h8 nb').1
      have j8 : svB c t q n < 8 := Nat.lt_of_lt_of_le lt h8
      have sq := svQR_b hB h8 (M := 500) (by decide) (fun j hj => (hb j hj).2.2.2) (fun j hj => (hb j hj).1.2) nb'
      have em : svV c t q n = (svB c t q n : Int) := by
        unfold svV
        rw [if_neg nb]
      rw [em] at a82
      have ev : sv t n (d + 1) c q s = sub t n d (rC c t q n) q (sub t n d c (lQ c t q n) (sN c t q n s)) := by rw [sv_s, if_neg nb]
      have et : ms t n (d + 1) c q s = 3 + msS t n d c (lQ c t q n) (sN c t q n s) + msS t n d (rC c t q n) q (sub t n d c (lQ c t q n) (sN c t q n s)) := by rw [ms_s, if_neg nb]
      rw [ev]
      rw [et] at hs2 ⊢
      obtain ⟨A, hA⟩ : ∃ A, A = msS t n d c (lQ c t q n) (sN c t q n s) := ⟨_, rfl⟩
      obtain ⟨sl, hsl⟩ : ∃ sl, sl = sub t n d c (lQ c t q n) (sN c t q n s) := ⟨_, rfl⟩
      rw [← hsl] at hcr hs2 ⊢
      obtain ⟨B, hBB⟩ : ∃ B, B = msS t n d (rC c t q n) q sl := ⟨_, rfl⟩
      rw [← hA, ← hBB] at hs2 ⊢
      have hBl : BD n c t (lQ c t q n) := BD_upq hB (nm6 sq.1)
      have hBr : BD n (rC c t q n) t q := BD_upc hB (nm6 sq.2)
      -- to the left
      obtain ⟨za, hza⟩ : ∃ za, za = zI (zI z 83 p (iv 1)) 77 (svB c t q n) (iv (svQ c t q n)) := ⟨_, rfl⟩
      have hLa : MD za n c t (lQ c t q n) := by
        rw [hza]
        exact MD_upq (MD_fr hL (by rw [zI_n (by decide)]) (fun a e1 e2 => zI_n (Nat.ne_of_lt (Nat.lt_of_le_of_lt e2 (by decide)))))
      have a68 : za.1 68 = z.1 68 := by rw [hza, zI_n (by decide), zI_n (by decide)]
      have Sa : SEm za (sN c t q n s) := by
        unfold SEm at hSE ⊢
        rw [a68]
        exact hSE
      have ka : kpm z za p := by
        rw [hza]
        exact (kpm_I (Or.inr (Nat.le_refl p))).trans (kpm_I (Or.inl (by decide)))
      have fa : Fr fM z za := by
        rw [hza]
        exact (Fr.refl.zI (Or.inr (by decide))).zI (Or.inr (by decide))
      have qa : k6 z za := fun k _ => by rw [a68]
      obtain ⟨zf, z3, w0, h1, h2, h3, h4, h5, h6, h7, hs3, h8', h9⟩ := hf_m (z := za) (p := p) ih (c := c) (q := lQ c t q n) (s := sN c t q n s) (by rw [a68, a30]) hd' hLa hBl hcl Sa hS (by rw [← hA]; exact nn1 hs2 s21)
      rw [← hsl] at h2 hs3 h8' h9
      rw [← hA] at h1 h9
      rw [hza] at w0
      have r3 : ∀ a, 82 ≤ a → a ≤ 87 → a ≠ 83 → z3.1 a p = z.1 a p := fun a e1 e2 e3 => by
        rw [h5 a e1 e2 p (Nat.lt_succ_self p), hza, zI_n (Nat.ne_of_gt (Nat.lt_of_lt_of_le (by decide) e1)), zI_n e3]
      have f83 : z3.1 83 p = iv 1 := by rw [h5 83 (by decide) (by decide) p (Nat.lt_succ_self p), hza, zI_n (by decide), rI, if_pos ⟨rfl, rfl⟩]
      -- to the right
      obtain ⟨zb, hzb⟩ : ∃ zb, zb = zI (zI (zI z3 83 p (iv 2)) 77 (svB c t q n) (iv (q (svB c t q n)))) 75 (svB c t q n) (iv (svR c t q n)) := ⟨_, rfl⟩
      have hLb : MD zb n (rC c t q n) t q := by
        have m1 : MD (zI z3 83 p (iv 2)) n c t (lQ c t q n) := MD_fr h3 (by rw [zI_n (by decide)]) (fun a e1 e2 => zI_n (Nat.ne_of_lt (Nat.lt_of_le_of_lt e2 (by decide))))
        have m2 := MD_upq (j := svB c t q n) (x := q (svB c t q n)) m1
        have elQ : up (lQ c t q n) (svB c t q n) (q (svB c t q n)) = q := up_bk
        rw [elQ] at m2
        rw [hzb]
        exact MD_upc m2
      have b68 : zb.1 68 = z3.1 68 := by rw [hzb, zI_n (by decide), zI_n (by decide), zI_n (by decide)]
      have Sb : SEm zb sl := by
        unfold SEm at h2 ⊢
        rw [b68]
        exact h2
      have kb : kpm z3 zb p := by
        rw [hzb]
        exact ((kpm_I (Or.inr (Nat.le_refl p))).trans (kpm_I (Or.inl (by decide)))).trans (kpm_I (Or.inl (by decide)))
      have fb : Fr fM z3 zb := by
        rw [hzb]
        exact ((Fr.refl.zI (Or.inr (by decide))).zI (Or.inr (by decide))).zI (Or.inr (by decide))
      have qb : k6 z3 zb := fun k _ => by rw [b68]
      obtain ⟨zg, z5, x0, u1, u2, u3, u4, u5, u6, u7, us, u8, u9⟩ := hf_m (z := zb) (p := p) ih (c := rC c t q n) (q := q) (s := sl) (by rw [b68, h4]) hd' hLb hBr hcr Sb hs3 (by rw [← hBB]; exact nn2 hs2 s21 h8' h9)
      rw [← hBB] at u1 u9
      rw [hzb] at x0
      have r5 : ∀ a, 82 ≤ a → a ≤ 87 → a ≠ 83 → z5.1 a p = z.1 a p := fun a e1 e2 e3 => by
        rw [u5 a e1 e2 p (Nat.lt_succ_self p), hzb, zI_n (Nat.ne_of_gt (Nat.lt_of_lt_of_le (by decide) e1)), zI_n (Nat.ne_of_gt (Nat.lt_of_lt_of_le (by decide) e1)), zI_n e3, r3 a e1 e2 e3]
      have v83 : z5.1 83 p = iv 2 := by rw [u5 83 (by decide) (by decide) p (Nat.lt_succ_self p), hzb, zI_n (by decide), zI_n (by decide), rI, if_pos ⟨rfl, rfl⟩]
      -- and back
      obtain ⟨z6, hz6⟩ : ∃ z6, z6 = zI (zI z5 75 (svB c t q n) (iv (c (svB c t q n)))) 68 30 (iv ((p : Int) - 1)) := ⟨_, rfl⟩
      refine ⟨z6, fun G => ?_, ?_, ?_, by rw [hz6, rI, if_pos ⟨rfl, rfl⟩], ?_, ?_, ?_, us, (nn3 s21 h8' h9 u8 u9).1, (nn3 s21 h8' h9 u8 u9).2⟩
      · rw [nn8, se_0 a30 p8 a82 j8 a83 e86 w0, h1, se_1 h4 p8 (by rw [r3 82 (by decide) (by decide) (by decide), a82]) j8 f83 (by rw [r3 84 (by decide) (by decide) (by decide), e84]) (by rw [r3 87 (by decide) (by decide) (by decide), e87]) x0, u1, se_2 u4 p8 (by rw [r5 82 (by decide) (by decide) (by decide), a82]) j8 v83 (by rw [r5 85 (by decide) (by decide) (by decide), e85]), hz6]
      · unfold SEm at u2 ⊢
        have e68 : ∀ k, k ≠ 30 → z6.1 68 k = z5.1 68 k := fun k hk => by rw [hz6, rI, if_neg (fun e => hk e.2), zI_n (by decide)]
        rw [e68 27 (by decide), e68 28 (by decide), e68 29 (by decide)]
        exact u2
      · have m2 := MD_upc (j := svB c t q n) (x := c (svB c t q n)) u3
        have erC : up (rC c t q n) (svB c t q n) (c (svB c t q n)) = c := up_bk
        rw [erC] at m2
        rw [hz6]
        exact MD_fr m2 (by rw [rI, if_neg (by decide)]) (fun a e1 e2 => zI_n (Nat.ne_of_gt (Nat.lt_of_lt_of_le (by decide) e1)))
      · have k5 : kpm z5 z6 p := by
          rw [hz6]
          exact (kpm_I (Or.inl (by decide))).trans (kpm_I (Or.inl (by decide)))
        exact (((ka.trans (h5.mono (Nat.le_succ p))).trans kb).trans (u5.mono (Nat.le_succ p))).trans k5
      · have f5 : Fr fM z5 z6 := by
          rw [hz6]
          exact (Fr.refl.zI (Or.inr (by decide))).zI (Or.inl rfl)
        exact (((fa.trans h6).trans fb).trans u6).trans f5
      · have q5 : k6 z5 z6 := by
          rw [hz6]
          exact (k6_I (Or.inl (by decide))).trans (k6_I (Or.inr rfl))
        exact (((qa.trans h7).trans qb).trans u7).trans q5
end MTREE2
