/-! SEARCH: the whole tree of the class -/
section TREE2
variable {z z1 z2 : St} {n p x d : Nat} {c t q : Nat → Int} {s : Se}
theorem nm0 {a b : Int} (e : b = a + 1) : a ≤ b ∧ b ≤ a + 2 * ((0 : Nat) : Int) + 1 := by omega
theorem nm1 {a b : Int} {A B : Nat} (h : 0 ≤ a ∧ a + 2 * ((1 + A + B : Nat) : Int) + 1 ≤ 9000000) (e : b = a + 1) : 0 ≤ b ∧ b + 2 * (A : Int) + 1 ≤ 9000000 := by omega
theorem nm2 {a b f : Int} {A B : Nat} (h : 0 ≤ a ∧ a + 2 * ((1 + A + B : Nat) : Int) + 1 ≤ 9000000) (e : b = a + 1) (g1 : b ≤ f) (g2 : f ≤ b + 2 * (A : Int) + 1) : 0 ≤ f ∧ f + 2 * (B : Int) + 1 ≤ 9000000 := by omega
theorem nm3 {a b f g : Int} {A B : Nat} (e : b = a + 1) (g1 : b ≤ f) (g2 : f ≤ b + 2 * (A : Int) + 1) (g3 : f ≤ g) (g4 : g ≤ f + 2 * (B : Int) + 1) : a ≤ g ∧ g ≤ a + 2 * ((1 + A + B : Nat) : Int) + 1 := by omega
theorem nm4 {a : Int} (h : 0 ≤ a ∧ a ≤ 500) : sm a := ⟨by omega, by omega⟩
theorem nm6 {a : Int} (h : 0 ≤ a ∧ a ≤ 500 + 200) : 0 ≤ a ∧ a ≤ 900 := by omega
theorem nm7 {p d : Nat} (h : p + (d + 1) ≤ 1650) : p < 1650 ∧ p + 1 + d ≤ 1650 := by omega
theorem nm8 {G A B : Nat} : G + 3 * (1 + A + B) = G + 1 + 3 * B + 1 + 3 * A + 1 := by omega
theorem nm9 {x A B : Nat} : x + 3 * (1 + A + B) = x + 3 * A + 1 + 3 * B + 1 + 1 := by omega
theorem nm10 {x A B : Nat} (h : x + 3 * (1 + A + B) ≤ 1000000) : x + 3 * A + 1 ≤ 1000000 ∧ x + 3 * A + 1 + 3 * B + 1 ≤ 1000000 ∧ x + 3 * A + 1 + 3 * B + 1 < 1000000 := by omega
theorem nm11 {a : Nat} (h : 48 ≤ a) (g : a ≤ 51) : a = 48 ∨ a = 49 ∨ a = 50 ∨ a = 51 := by omega
theorem rt_all (t : Nat → Int) (n : Nat) : ∀ d, RT t n d
  | 0 => fun c q s p x z hG => hG.elim
  | d + 1 => fun c q s p x z hG hA hd hS hs2 hx => by
    have ih := rt_all t n d
    obtain ⟨hb, hc⟩ := GT_s hG
    obtain ⟨hL, hSE, a1, a2⟩ := hA
    have hB := GT_BD hb
    have h8 := hL.2.1
    have s21 : (sN c t q n s).2.1 = s.2.1 + 1 := svN_2
    by_cases nb : bkB q n (gr c t q n n) < 0
    · have et : tk t n (d + 1) c q s = 0 := by rw [tk_s, if_pos nb]
      have ev : sv t n (d + 1) c q s = sN c t q n s := by rw [sv_s, if_pos nb]
      rw [et, ev]
      exact ⟨z, fun G => rfl, hSE, hL, a1 nb, fun a _ _ i _ => rfl, Fr.refl, hS, (nm0 s21).1, (nm0 s21).2⟩
    · have nb' : 0 ≤ bkB q n (gr c t q n n) := Int.not_lt.mp nb
      obtain ⟨e7, e48, e49, e50, e51⟩ := a2 nb'
      obtain ⟨hcl, hcr⟩ := hc nb'
      have lt := (svB_lt hB h8 nb').1
      have sq := svQR_b hB h8 (M := 500) (by decide) (fun j hj => (hb j hj).2.2.2) (fun j hj => (hb j hj).1.2) nb'
      have ev : sv t n (d + 1) c q s = sub t n d (rC c t q n) q (sub t n d c (lQ c t q n) (sN c t q n s)) := by rw [sv_s, if_neg nb]
      have et : tk t n (d + 1) c q s = 1 + tkS t n d c (lQ c t q n) (sN c t q n s) + tkS t n d (rC c t q n) q (sub t n d c (lQ c t q n) (sN c t q n s)) := by rw [tk_s, if_neg nb]
      rw [ev]
      rw [et] at hs2 hx ⊢
      obtain ⟨A, hA⟩ : ∃ A, A = tkS t n d c (lQ c t q n) (sN c t q n s) := ⟨_, rfl⟩
      obtain ⟨sl, hsl⟩ : ∃ sl, sl = sub t n d c (lQ c t q n) (sN c t q n s) := ⟨_, rfl⟩
      rw [← hsl] at hcr hs2 hx ⊢
      obtain ⟨B, hBB⟩ : ∃ B, B = tkS t n d (rC c t q n) q sl := ⟨_, rfl⟩
      rw [← hA, ← hBB] at hs2 hx ⊢
      have hBl : BD n c t (lQ c t q n) := BD_upq hB (nm6 sq.1)
      have hBr : BD n (rC c t q n) t q := BD_upc hB (nm6 sq.2)
      have p8 := (nm7 hd).1
      have hd' := (nm7 hd).2
      obtain ⟨x1, x2, x3⟩ := nm10 hx
      -- to the left
      obtain ⟨z1, g1, g2, g3, g4, g5, g6, g7, g8, g9⟩ := go0_c (s1 := (sN c t q n s).1) hL (x := svQ c t q n) hBl lt e7 p8 e48 e49 e50 hSE.1 (nm4 hS)
      have elQ : up q (svB c t q n) (svQ c t q n) = lQ c t q n := rfl
      have erC : up c (svB c t q n) (svR c t q n) = rC c t q n := rfl
      rw [elQ] at g1 g2
      have k1 : kpt z z1 p := fun a e1 e2 i hi => by
        rcases nm11 e1 e2 with rfl | rfl | rfl | rfl
        · rw [g4]
        · exact (g8 i (Nat.ne_of_lt hi)).1
        · exact (g8 i (Nat.ne_of_lt hi)).2
        · rw [g5]
      obtain ⟨z3, h1, h2, h3, h4, h5, h6, h7, h8', h9⟩ := hf_c (z := z) (z1 := z1) (p := p) ih (c := c) (q := lQ c t q n) (s := sN c t q n s) (x := x) e7 hd' (by rw [← hA]; exact x1) g1 g2 hBl g3 hcl hSE hS (by rw [← hA]; exact nm1 hs2 s21) k1 g9
      rw [← hsl] at h2 h7 h8' h9
      rw [← hA] at h1 h9
      have hL3 : LD z3 25 n c t (up q (svB c t q n) (svQ c t q n)) := h3
      have f48 : z3.1 48 p = iv (svB c t q n : Int) := by rw [h5 48 (by decide) (by decide) p (Nat.lt_succ_self p), g4, e48]
      have f49 : z3.1 49 p = iv 1 := by rw [h5 49 (by decide) (by decide) p (Nat.lt_succ_self p), g6]
      have f50 : z3.1 50 p = iv (q (svB c t q n)) := by rw [h5 50 (by decide) (by decide) p (Nat.lt_succ_self p), g7]
      have f51 : z3.1 51 p = iv (svR c t q n) := by rw [h5 51 (by decide) (by decide) p (Nat.lt_succ_self p), g5, e51]
      -- to the right
      obtain ⟨z4, r1, r2, r3, r4, r5, r6, r7, r8⟩ := go1_c (s1 := sl.1) (y := svR c t q n) hL3 hBr lt h4 p8 f48 f49 f50 f51 h2.1 (nm4 h7)
      rw [erC] at r1 r2
      have k4 : kpt z3 z4 p := fun a e1 e2 i hi => by
        rcases nm11 e1 e2 with rfl | rfl | rfl | rfl
        · rw [r4]
        · exact (r7 i (Nat.ne_of_lt hi)).1
        · exact (r7 i (Nat.ne_of_lt hi)).2.1
        · exact (r7 i (Nat.ne_of_lt hi)).2.2
      obtain ⟨z5, u1, u2, u3, u4, u5, u6, u7, u8, u9⟩ := hf_c (z := z3) (z1 := z4) (p := p) ih (c := rC c t q n) (q := q) (s := sl) (x := x + 3 * A + 1) h4 hd' (by rw [← hBB]; exact x2) r1 r2 hBr r3 hcr h2 h7 (by rw [← hBB]; exact nm2 hs2 s21 h8' h9) k4 r8
      rw [← hBB] at u1 u9
      have hL5 : LD z5 25 n (up c (svB c t q n) (svR c t q n)) t q := u3
      have v48 : z5.1 48 p = iv (svB c t q n : Int) := by rw [u5 48 (by decide) (by decide) p (Nat.lt_succ_self p), r4, f48]
      have v49 : z5.1 49 p = iv 2 := by rw [u5 49 (by decide) (by decide) p (Nat.lt_succ_self p), r5]
      have v51 : z5.1 51 p = iv (c (svB c t q n)) := by rw [u5 51 (by decide) (by decide) p (Nat.lt_succ_self p), r6]
      -- and back
      obtain ⟨z6, w1, w2, w3, w4, w5, w6⟩ := go2_c hL5 lt u4 p8 v48 v49 v51
      have k6 : kpt z5 z6 p := fun a e1 e2 i hi => by
        have := w5 i (Nat.ne_of_lt hi)
        rcases nm11 e1 e2 with rfl | rfl | rfl | rfl
        · exact this.1
        · exact this.2.1
        · exact this.2.2.1
        · exact this.2.2.2
      refine ⟨z6, fun G => ?_, ?_, w2, w3, ((k1.trans (h5.mono (Nat.le_succ p))).trans (k4.trans (u5.mono (Nat.le_succ p)))).trans k6, (h6.trans u6).trans w6, u7, (nm3 s21 h8' h9 u8 u9).1, (nm3 s21 h8' h9 u8 u9).2⟩
      · have w1' : f_X6_goOn z5 40 25 = some (z6, ob False) := w1
        rw [nm8, h1, u1, (rn_st (z2 := z) u4 p8 x3 w1' G).2 (fun e => e), nm9]
      · unfold SE at u2 ⊢
        rw [w4 8 (by decide), w4 9 (by decide), w4 10 (by decide)]
        exact u2
/-- the class's SEARCH -/
theorem run_c (hL : LD z 25 n c t q) (hG : GT t n 400 c q (-1, 0, 0)) (hk : 3 * tk t n 400 c q (-1, 0, 0) ≤ 999999) (hf : (gr c t q n n).2.2.2.2.2.2.1 ≤ 500) : ∃ z', f_X6_run z 40 25 = some z' ∧ SE z' (SR c t q n) ∧ LD z' 25 n c t q ∧ Fr fS z z' ∧ (0 ≤ (SR c t q n).1 ∧ (SR c t q n).1 ≤ 500) ∧ 0 ≤ (SR c t q n).2.1 ∧ (SR c t q n).2.1 ≤ 1000000 := by
  have hB := GT_BD (GT_s (d := 399) hG).1
  have h8 := hL.2.1
  obtain ⟨za, hza⟩ : ∃ za, za = zI (zI (zI (zI z 40 7 0) 40 8 (-1)) 40 9 0) 40 10 0 := ⟨_, rfl⟩
  have fa : Fr fS z za := by
    rw [hza]
    exact (((Fr.refl.zI (by unfold fS; omega)).zI (by unfold fS; omega)).zI (by unfold fS; omega)).zI (by unfold fS; omega)
  have hLa : LD za 25 n c t q := LD_25 hL (by rw [hza]; exact (((Fr.refl.zI (by decide)).zI (by decide)).zI (by decide)).zI (by decide))
  have a7 : za.1 40 7 = iv ((0 : Nat) : Int) := by
    rw [hza]
    simp only [rI, reduceIte, Nat.reduceEqDiff, and_self, and_false]
    rfl
  have aS : SE za (-1, 0, 0) := by
    unfold SE
    rw [hza]
    simp only [rI, reduceIte, Nat.reduceEqDiff, and_self, and_false]
    exact ⟨rfl, rfl⟩
  obtain ⟨z2, v1, v2, v3, v4, v5, v6⟩ := vi_c hLa hB a7 (by decide) aS ⟨⟨by decide, by decide⟩, by decide, by decide⟩
  have n1 : (sN c t q n (-1, 0, 0)).1 = (gr c t q n n).2.2.2.2.2.2.1 := by
    unfold sN svN
    rw [if_pos (Or.inl rfl)]
  have f0 := gr_f0 hB h8
  obtain ⟨z3, r1, r2, r3, r4, r5, r6, r7, r8, r9⟩ := rt_all t n 400 c q (-1, 0, 0) 0 0 z2 hG ⟨LD_25 hLa (v5.mono (fun a e => by omega)), v2, v3, v4⟩ (by omega) (by rw [n1]; omega) ⟨by decide, by show (0 : Int) + _ + 1 ≤ _; omega⟩ (by omega)
  refine ⟨z3, ?_, r2, r3, (fa.trans (v5.mono (fun a e => by unfold fS; omega))).trans r6, r7, r8, by
    have e : (SR c t q n).2.1 ≤ 0 + 2 * (tk t n 400 c q (-1, 0, 0) : Int) + 1 := r9
    omega⟩
  unfold f_X6_run f_X6_run_0
  rw [← hza, v1, Option.bind_some]
  obtain ⟨G, hG'⟩ : ∃ G, FU = (G + 1) + 3 * tk t n 400 c q (-1, 0, 0) := ⟨FU - 1 - 3 * tk t n 400 c q (-1, 0, 0), by have := FU_8 (n := 999999 + 1) (by omega); omega⟩
  have r1' := r1 (G + 1)
  rw [← hG'] at r1'
  have r1'' : f_X6_run_27 FU z2 40 25 0 = f_X6_run_27 (G + 1) z3 40 25 (iv ((0 + 3 * tk t n 400 c q (-1, 0, 0) : Nat) : Int)) := r1'
  rw [r1'', rn_s]
  unfold f_X6_run_33 f_X6_run_59
  rw [r4, if_pos (show iv ((0 : Nat) : Int) ≤ 0 by decide)]
  split <;> rfl
end TREE2
