/-! SEARCH: one edge of the class -/
def fS (a : Nat) : Prop := (25 ≤ a ∧ a ≤ 28) ∨ (40 ≤ a ∧ a ≤ 51)
section GOON
variable {z z1 z2 : St} {n p j : Nat} {c t q : Nat → Int} {x s1 : Int}
theorem bi_sm (hB : BD n c t q) (hn : n ≤ 8) : sm (bi c t q n 16).2.2.2.1 := by
  have w := (bi_inv hB hn 16 (by decide)).1
  unfold BW at w
  exact ⟨by omega, by omega⟩
theorem up_bk {f : Nat → Int} {y : Int} : up (up f j y) j (f j) = f := by
  funext i
  unfold up
  by_cases e : i = j
  · rw [if_pos e, e]
  · rw [if_neg e, if_neg e]
theorem gor_c (hL : LD z 25 n c t q) (hB : BD n c t q) (h8 : z.1 40 8 = iv s1) (ss : sm s1) : ∃ z', f_X6_goOn_107 z 40 25 = some (z', ob ((bi c t q n 16).2.2.2.1 < s1)) ∧ Fr (fun a => a = 46 ∨ a = 47) z z' := by
  obtain ⟨z', e1, e2, -, e4⟩ := ru_of (o := 46) (u := 25) (by decide) (by decide) hL hB
  have f4 : Fr (fun a => a = 46 ∨ a = 47) z z' := e4.mono (fun a e => by
    rcases e with e | e
    · exact Or.inl e
    · exact Or.inr (by rw [e]; decide))
  refine ⟨z', ?_, f4⟩
  unfold f_X6_goOn_107
  rw [r40_2, e1, Option.bind_some]
  show (if z'.1 40 8 ≤ z'.1 46 1 then f_X6_goOn_133 z' else f_X6_goOn_129 z') = _
  rw [e2, (f4 40 (by decide)).1, h8]
  unfold f_X6_goOn_133 f_X6_goOn_129 f_X6_goOn_134
  unfold ob
  by_cases g : (bi c t q n 16).2.2.2.1 < s1
  · rw [if_neg (fun e => by have := (iv_le ss (bi_sm hB hL.2.1)).mp e; omega), if_pos g, zb_1, if_pos rfl]
  · rw [if_pos ((iv_le ss (bi_sm hB hL.2.1)).mpr (by omega)), if_neg g, zb_0, if_pos rfl]
theorem go_d (hp : z.1 40 7 = iv ((p + 1 : Nat) : Int)) (p8 : p < 1650) : f_X6_goOn z 40 25 = f_X6_goOn_20 z 40 25 (iv (p : Int)) := by
  have e : z.1 40 7 - 1 = iv (p : Int) := by
    rw [hp, n_1, iv_sub]
    congr 1
    omega
  have sp : sm (p : Int) := sm_k (by omega)
  unfold f_X6_goOn f_X6_goOn_0 f_X6_goOn_11
  rw [e, if_neg (fun w => by have := (iv_lt0 sp).mp w; omega), show (1650 : Int32) = iv 1650 by decide, if_pos ((iv_ltk sp 1650).mpr (by omega))]
/-- to the left: the bar cools longer -/
theorem go0_c (hL : LD z 25 n c t q) (hB : BD n c t (up q j x)) (hj : j < n) (hp : z.1 40 7 = iv ((p + 1 : Nat) : Int)) (p8 : p < 1650) (e48 : z.1 48 p = iv (j : Int)) (e49 : z.1 49 p = iv 0) (e50 : z.1 50 p = iv x) (h8 : z.1 40 8 = iv s1) (ss : sm s1) : ∃ z', f_X6_goOn z 40 25 = some (z', ob ((bi c t (up q j x) n 16).2.2.2.1 < s1)) ∧ LD z' 25 n c t (up q j x) ∧ z'.1 40 = z.1 40 ∧ z'.1 48 = z.1 48 ∧ z'.1 51 = z.1 51 ∧ z'.1 49 p = iv 1 ∧ z'.1 50 p = iv (q j) ∧ (∀ i, i ≠ p → z'.1 49 i = z.1 49 i ∧ z'.1 50 i = z.1 50 i) ∧ Fr fS z z' := by
  have i1 : inb (iv (p : Int)) 1650 = true := inb_k p8 (by decide)
  have i2 : (iv (p : Int)).toNatClampNeg = p := tn (by omega)
  obtain ⟨za, hza⟩ : ∃ za, za = zI z 49 p (iv 1) := ⟨_, rfl⟩
  have fa : Fr fS z za := by
    rw [hza]
    exact Fr.refl.zI (by unfold fS; omega)
  have hLa : LD za 25 n c t q := LD_25 hL (by rw [hza]; exact Fr.refl.zI (by decide))
  obtain ⟨b1, b2, b3⟩ := cc_of (u := 25) (by decide) hLa hj (x := x)
  obtain ⟨zb, hzb⟩ : ∃ zb, zb = zI za (rf 25 2) j (iv x) := ⟨_, rfl⟩
  rw [← hzb] at b1 b2 b3
  have b3' : Fr (fun a => 25 ≤ a ∧ a ≤ 28) za zb := b3.mono (fun a e => own_rng (o := 25) (Or.inr (by decide)) e)
  obtain ⟨zc, hzc⟩ : ∃ zc, zc = zI zb 50 p (iv (q j)) := ⟨_, rfl⟩
  have hLc : LD zc 25 n c t (up q j x) := LD_25 b2 (by rw [hzc]; exact Fr.refl.zI (by decide))
  have c40 : zc.1 40 = z.1 40 := by rw [hzc, zI_n (by decide), (b3' 40 (by decide)).1, hza, zI_n (by decide)]
  obtain ⟨zd, d1, d2⟩ := gor_c (s1 := s1) hLc hB (by rw [c40, h8]) ss
  refine ⟨zd, ?_, LD_25 hLc (d2.mono (fun a e => by omega)), ?_, ?_, ?_, ?_, ?_, fun i hi => ?_, ?_⟩
  · rw [go_d hp p8]
    unfold f_X6_goOn_20 f_X6_goOn_42 f_X6_goOn_64 f_X6_goOn_90
    simp only [r40_3, r40_4, r40_5, i1, i2, if_true, e49]
    rw [n_2, if_neg (show ¬ iv 2 ≤ iv 0 by decide), show iv 0 + 1 = iv 1 by decide, ← hza]
    have a48 : za.1 48 p = iv (j : Int) := by rw [hza, zI_n (by decide), e48]
    have a50 : za.1 50 p = iv x := by rw [hza, zI_n (by decide), e50]
    rw [a48, a50, b1, Option.bind_some, ← hzc, n_0, if_pos (show iv 0 ≤ iv 0 by decide), n_1, if_pos (show iv 0 ≤ iv 1 by decide), d1]
  · rw [(d2 40 (by decide)).1, c40]
  · rw [(d2 48 (by decide)).1, hzc, zI_n (by decide), (b3' 48 (by decide)).1, hza, zI_n (by decide)]
  · rw [(d2 51 (by decide)).1, hzc, zI_n (by decide), (b3' 51 (by decide)).1, hza, zI_n (by decide)]
  · rw [(d2 49 (by decide)).1, hzc, zI_n (by decide), (b3' 49 (by decide)).1, hza, rI, if_pos ⟨rfl, rfl⟩]
  · rw [(d2 50 (by decide)).1, hzc, rI, if_pos ⟨rfl, rfl⟩]
  · rw [(d2 49 (by decide)).1, (d2 50 (by decide)).1, hzc, zI_n (by decide), rI, if_neg (fun e => hi e.2), (b3' 49 (by decide)).1, (b3' 50 (by decide)).1, hza, rI, if_neg (fun e => hi e.2), zI_n (by decide)]
    exact ⟨rfl, rfl⟩
  · have fc : Fr fS zb zc := by
      rw [hzc]
      exact Fr.refl.zI (by unfold fS; omega)
    exact ((fa.trans (b3'.mono (fun a e => Or.inl e))).trans fc).trans (d2.mono (fun a e => by unfold fS; omega))
/-- to the right: its cools as before, it comes later -/
theorem go1_c {y : Int} (hL : LD z 25 n c t (up q j x)) (hB : BD n (up c j y) t q) (hj : j < n) (hp : z.1 40 7 = iv ((p + 1 : Nat) : Int)) (p8 : p < 1650) (e48 : z.1 48 p = iv (j : Int)) (e49 : z.1 49 p = iv 1) (e50 : z.1 50 p = iv (q j)) (e51 : z.1 51 p = iv y) (h8 : z.1 40 8 = iv s1) (ss : sm s1) : ∃ z', f_X6_goOn z 40 25 = some (z', ob ((bi (up c j y) t q n 16).2.2.2.1 < s1)) ∧ LD z' 25 n (up c j y) t q ∧ z'.1 40 = z.1 40 ∧ z'.1 48 = z.1 48 ∧ z'.1 49 p = iv 2 ∧ z'.1 51 p = iv (c j) ∧ (∀ i, i ≠ p → z'.1 49 i = z.1 49 i ∧ z'.1 50 i = z.1 50 i ∧ z'.1 51 i = z.1 51 i) ∧ Fr fS z z' := by
  have i1 : inb (iv (p : Int)) 1650 = true := inb_k p8 (by decide)
  have i2 : (iv (p : Int)).toNatClampNeg = p := tn (by omega)
  obtain ⟨za, hza⟩ : ∃ za, za = zI z 49 p (iv 2) := ⟨_, rfl⟩
  have fa : Fr fS z za := by
    rw [hza]
    exact Fr.refl.zI (by unfold fS; omega)
  have hLa : LD za 25 n c t (up q j x) := LD_25 hL (by rw [hza]; exact Fr.refl.zI (by decide))
  obtain ⟨b1, b2, b3⟩ := cc_of (u := 25) (by decide) hLa hj (x := q j)
  rw [up_bk] at b2
  obtain ⟨zb, hzb⟩ : ∃ zb, zb = zI za (rf 25 2) j (iv (q j)) := ⟨_, rfl⟩
  rw [← hzb] at b1 b2 b3
  have b3' : Fr (fun a => 25 ≤ a ∧ a ≤ 28) za zb := b3.mono (fun a e => own_rng (o := 25) (Or.inr (by decide)) e)
  obtain ⟨zc, hzc⟩ : ∃ zc, zc = zI zb 50 p (iv (up q j x j)) := ⟨_, rfl⟩
  have hLc : LD zc 25 n c t q := LD_25 b2 (by rw [hzc]; exact Fr.refl.zI (by decide))
  obtain ⟨m1, m2, m3⟩ := cm_of (u := 25) (by decide) hLc hj (x := y)
  obtain ⟨zm, hzm⟩ : ∃ zm, zm = zI zc (rf 25 0) j (iv y) := ⟨_, rfl⟩
  rw [← hzm] at m1 m2 m3
  have m3' : Fr (fun a => 25 ≤ a ∧ a ≤ 28) zc zm := m3.mono (fun a e => own_rng (o := 25) (Or.inr (by decide)) e)
  obtain ⟨ze, hze⟩ : ∃ ze, ze = zI zm 51 p (iv (c j)) := ⟨_, rfl⟩
  have hLe : LD ze 25 n (up c j y) t q := LD_25 m2 (by rw [hze]; exact Fr.refl.zI (by decide))
  have k : ∀ a, 40 ≤ a → a ≤ 48 → ze.1 a = z.1 a := fun a h1 h2 => by
    rw [hze, zI_n (by omega), (m3' a (by omega)).1, hzc, zI_n (by omega), (b3' a (by omega)).1, hza, zI_n (by omega)]
  obtain ⟨zd, d1, d2⟩ := gor_c (s1 := s1) hLe hB (by rw [k 40 (by decide) (by decide), h8]) ss
  refine ⟨zd, ?_, LD_25 hLe (d2.mono (fun a e => by omega)), ?_, ?_, ?_, ?_, fun i hi => ?_, ?_⟩
  · rw [go_d hp p8]
    unfold f_X6_goOn_20 f_X6_goOn_42 f_X6_goOn_64 f_X6_goOn_68 f_X6_goOn_90
    simp only [r40_3, r40_4, r40_5, r40_6, i1, i2, if_true, e49]
    rw [n_2, if_neg (show ¬ iv 2 ≤ iv 1 by decide), show iv 1 + 1 = iv 2 by decide, ← hza]
    have a48 : za.1 48 p = iv (j : Int) := by rw [hza, zI_n (by decide), e48]
    have a50 : za.1 50 p = iv (q j) := by rw [hza, zI_n (by decide), e50]
    have c48 : zc.1 48 p = iv (j : Int) := by rw [hzc, zI_n (by decide), (b3' 48 (by decide)).1, a48]
    have c51 : zc.1 51 p = iv y := by rw [hzc, zI_n (by decide), (b3' 51 (by decide)).1, hza, zI_n (by decide), e51]
    rw [a48, a50, b1, Option.bind_some, ← hzc, n_0, if_neg (show ¬ iv 1 ≤ iv 0 by decide), c48, c51, m1, Option.bind_some, ← hze, n_1, if_pos (show iv 1 ≤ iv 1 by decide), d1]
  · rw [(d2 40 (by decide)).1, k 40 (by decide) (by decide)]
  · rw [(d2 48 (by decide)).1, k 48 (by decide) (by decide)]
  · rw [(d2 49 (by decide)).1, hze, zI_n (by decide), (m3' 49 (by decide)).1, hzc, zI_n (by decide), (b3' 49 (by decide)).1, hza, rI, if_pos ⟨rfl, rfl⟩]
  · rw [(d2 51 (by decide)).1, hze, rI, if_pos ⟨rfl, rfl⟩]
  · refine ⟨?_, ?_, ?_⟩
    · rw [(d2 49 (by decide)).1, hze, zI_n (by decide), (m3' 49 (by decide)).1, hzc, zI_n (by decide), (b3' 49 (by decide)).1, hza, rI, if_neg (fun e => hi e.2)]
    · rw [(d2 50 (by decide)).1, hze, zI_n (by decide), (m3' 50 (by decide)).1, hzc, rI, if_neg (fun e => hi e.2), (b3' 50 (by decide)).1, hza, zI_n (by decide)]
    · rw [(d2 51 (by decide)).1, hze, rI, if_neg (fun e => hi e.2), (m3' 51 (by decide)).1, hzc, zI_n (by decide), (b3' 51 (by decide)).1, hza, zI_n (by decide)]
  · have fc : Fr fS zb zc := by
      rw [hzc]
      exact Fr.refl.zI (by unfold fS; omega)
    have fe : Fr fS zm ze := by
      rw [hze]
      exact Fr.refl.zI (by unfold fS; omega)
    exact ((((fa.trans (b3'.mono (fun a e => Or.inl e))).trans fc).trans (m3'.mono (fun a e => Or.inl e))).trans fe).trans (d2.mono (fun a e => by unfold fS; omega))
/-- and back: it comes as before -/
theorem go2_c {y : Int} (hL : LD z 25 n (up c j y) t q) (hj : j < n) (hp : z.1 40 7 = iv ((p + 1 : Nat) : Int)) (p8 : p < 1650) (e48 : z.1 48 p = iv (j : Int)) (e49 : z.1 49 p = iv 2) (e51 : z.1 51 p = iv (c j)) : ∃ z', f_X6_goOn z 40 25 = some (z', 0) ∧ LD z' 25 n c t q ∧ z'.1 40 7 = iv (p : Int) ∧ (∀ i, i ≠ 7 → z'.1 40 i = z.1 40 i) ∧ (∀ i, i ≠ p → z'.1 48 i = z.1 48 i ∧ z'.1 49 i = z.1 49 i ∧ z'.1 50 i = z.1 50 i ∧ z'.1 51 i = z.1 51 i) ∧ Fr fS z z' := by
  have i1 : inb (iv (p : Int)) 1650 = true := inb_k p8 (by decide)
  have i2 : (iv (p : Int)).toNatClampNeg = p := tn (by omega)
  obtain ⟨za, hza⟩ : ∃ za, za = zI z 49 p (iv 3) := ⟨_, rfl⟩
  have fa : Fr fS z za := by
    rw [hza]
    exact Fr.refl.zI (by unfold fS; omega)
  have hLa : LD za 25 n (up c j y) t q := LD_25 hL (by rw [hza]; exact Fr.refl.zI (by decide))
  obtain ⟨m1, m2, m3⟩ := cm_of (u := 25) (by decide) hLa hj (x := c j)
  rw [up_bk] at m2
  obtain ⟨zm, hzm⟩ : ∃ zm, zm = zI za (rf 25 0) j (iv (c j)) := ⟨_, rfl⟩
  rw [← hzm] at m1 m2 m3
  have m3' : Fr (fun a => 25 ≤ a ∧ a ≤ 28) za zm := m3.mono (fun a e => own_rng (o := 25) (Or.inr (by decide)) e)
  obtain ⟨ze, hze⟩ : ∃ ze, ze = zI zm 51 p (iv (up c j y j)) := ⟨_, rfl⟩
  have hLe : LD ze 25 n c t q := LD_25 m2 (by rw [hze]; exact Fr.refl.zI (by decide))
  have k : ∀ a, 40 ≤ a → a ≤ 48 → ze.1 a = z.1 a := fun a h1 h2 => by
    rw [hze, zI_n (by omega), (m3' a (by omega)).1, hza, zI_n (by omega)]
  have fe : Fr fS z ze := by
    have f1 : Fr fS zm ze := by
      rw [hze]
      exact Fr.refl.zI (by unfold fS; omega)
    exact (fa.trans (m3'.mono (fun a e => Or.inl e))).trans f1
  refine ⟨zI ze 40 7 (iv (p : Int)), ?_, LD_25 hLe (Fr.refl.zI (by decide)), by rw [rI, if_pos ⟨rfl, rfl⟩], fun i hi => by rw [rI, if_neg (fun e => hi e.2), k 40 (by decide) (by decide)], fun i hi => ⟨?_, ?_, ?_, ?_⟩, fe.zI (by unfold fS; omega)⟩
  · rw [go_d hp p8]
    unfold f_X6_goOn_20 f_X6_goOn_64 f_X6_goOn_68 f_X6_goOn_90 f_X6_goOn_95
    simp only [r40_3, r40_4, r40_6, i1, i2, if_true, e49]
    rw [n_2, if_pos (show iv 2 ≤ iv 2 by decide), show iv 2 + 1 = iv 3 by decide, ← hza]
    have a48 : za.1 48 p = iv (j : Int) := by rw [hza, zI_n (by decide), e48]
    have a51 : za.1 51 p = iv (c j) := by rw [hza, zI_n (by decide), e51]
    have e7 : ze.1 40 7 - 1 = iv (p : Int) := by
      rw [k 40 (by decide) (by decide), hp, n_1, iv_sub]
      congr 1
      omega
    rw [n_0, if_neg (show ¬ iv 2 ≤ iv 0 by decide), a48, a51, m1, Option.bind_some, ← hze, e7]
    rfl
  · rw [zI_n (by decide), k 48 (by decide) (by decide)]
  · rw [zI_n (by decide), hze, zI_n (by decide), (m3' 49 (by decide)).1, hza, rI, if_neg (fun e => hi e.2)]
  · rw [zI_n (by decide), hze, zI_n (by decide), (m3' 50 (by decide)).1, hza, zI_n (by decide)]
  · rw [zI_n (by decide), hze, rI, if_neg (fun e => hi e.2), (m3' 51 (by decide)).1, hza, zI_n (by decide)]
end GOON
