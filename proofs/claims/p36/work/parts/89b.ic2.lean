/-! P36: the class's calls, going on: those that search, the tape, text -/
section ICD
variable {z z' z1 : St} {y : Sy} {n : Nat} {v : Nat → Nat → Int}
theorem p_strongest (h : IK z y) : ∃ r, f_X10_strongest z 0 1 = some (z, r) := by
  have hB := BD_O h.2.1
  have h8 := h.1.1.2.1
  have p8 := p2_lt h8
  have sw : sm (1 : Int) := sm_d 1
  have nz : (iv (y.1 : Int) = 0) ↔ y.1 = 0 := by
    rw [n_0, iv_eqk (sm_k (by omega)) 0]
    omega
  by_cases g2 : y.1 = 0
  · refine ⟨iv (-3), ?_⟩
    unfold f_X10_strongest f_X10_strongest_0 f_X10_strongest_4 f_X10_strongest_12 f_X10_strongest_22
    rw [r0_0, h.1.1.1, if_pos (nz.mpr g2), n_1, if_neg (by decide), if_pos (by decide), n_m3]
  · have n0 : 0 < y.1 := by omega
    have sw1 := stF_w (c := cmO y.2.1) (t := tkO y.2.1) (q := clO y.2.1) (n := y.1) (k := 2 ^ y.1 - 2)
    have p2 := p2_ge n0
    refine ⟨iv (stF (cmO y.2.1) (tkO y.2.1) (clO y.2.1) y.1 (2 ^ y.1 - 2)).2, ?_⟩
    unfold f_X10_strongest f_X10_strongest_0 f_X10_strongest_4 f_X10_strongest_12 f_X10_strongest_25 f_X10_strongest_37 f_X10_strongest_41 f_X10_strongest_49
    rw [r0_0, h.1.1.1, if_neg (fun e => g2 (nz.mp e)), n_1, if_neg (by decide), if_pos (by decide), r0_4, ss_of h.1.2.1 hB n0, Option.bind_some]
    have bb : f_X4_boundOf z 21 (iv ((stF (cmO y.2.1) (tkO y.2.1) (clO y.2.1) y.1 (2 ^ y.1 - 2)).1 : Int)) = some (z, iv (bdS (cmO y.2.1) (tkO y.2.1) (clO y.2.1) y.1 (stF (cmO y.2.1) (tkO y.2.1) (clO y.2.1) y.1 (2 ^ y.1 - 2)).1)) := bo_of h.1.2.1 hB (by omega)
    show (if iv 1 = 0 then _ else ((f_X4_boundOf z 21 (iv ((stF (cmO y.2.1) (tkO y.2.1) (clO y.2.1) y.1 (2 ^ y.1 - 2)).1 : Int))).bind _)) = _
    rw [bb, Option.bind_some, ← sw1.2.2, if_neg (by decide)]
theorem IK_k (h : IK z y) (hf : Fr sK z z') (h14 : z'.1 0 14 = z.1 0 14) (hC : CL z' y.1 (cmO y.2.1) (tkO y.2.1) (clO y.2.1)) : IK z' y := by
  have s : ∀ a, a < 68 → ((0 < a ∧ a < 13) ∨ (19 ≤ a ∧ a ≤ 24) ∨ 57 ≤ a) → z'.1 a = z.1 a ∧ z'.2 a = z.2 a := fun a h1 h2 => hf a (by unfold sK sC; omega)
  obtain ⟨⟨h1, h2, h3, h4, h5, h6, h7⟩, hv⟩ := h
  refine ⟨⟨JD_fr (by decide) h1 (fun a e1 e2 => (s a (by omega) (by omega)).1), LD_fr h2 (fun a ha => ?_), CKe_fr h3 h14 (fun a e1 e2 => (s a (by omega) (by omega)).1), CT_fr h4 ?_ (s 20 (by decide) (by decide)).1, CB_fr h5 (s 57 (by decide) (by decide)).1 (s 58 (by decide) (by decide)).1, CS_fr h6 (fun a e1 e2 => s a (by omega) (by omega)), hC⟩, hv⟩
  · have := own_rng (o := 21) (Or.inr (by decide)) ha
    exact (s a (by omega) (by omega)).1
  · rw [(s 19 (by decide) (by decide)).1]
theorem pk_of (h : IK z y) : ∃ z', f_X10_knowLeast z 0 = some z' ∧ IK z' y ∧ z'.1 0 15 = iv 1 ∧ LKN z' y.1 (cmO y.2.1) (tkO y.2.1) (clO y.2.1) ∧ Fr sK z z' ∧ (0 ≤ (SR (cmO y.2.1) (tkO y.2.1) (clO y.2.1) y.1).1 ∧ (SR (cmO y.2.1) (tkO y.2.1) (clO y.2.1) y.1).1 ≤ 500) := by
  have h8 := h.1.1.2.1
  have hb := BD_I h.2.1
  have hB := BD_O h.2.1
  obtain ⟨z1, z3, a1, a2, a3, a4, a5, a6, a7, a8⟩ := bs_c h.1.2.1 hb (root_D h8 hb) (tk_le h8 hb)
  rcases h.1.2.2.2.2.2.2 with w | ⟨w1, w2⟩
  · obtain ⟨S, hS⟩ : ∃ S, S = SR (cmO y.2.1) (tkO y.2.1) (clO y.2.1) y.1 := ⟨_, rfl⟩
    rw [← hS] at a3 a6 a7 a8 ⊢
    obtain ⟨za, hza⟩ : ∃ za, za = zI (zI (zI z3 0 16 (iv S.1)) 0 17 (iv S.2.1)) 0 18 (iv S.2.2) := ⟨_, rfl⟩
    have fa : Fr (fun a => a = 0) z3 za := by
      rw [hza]
      exact ((Fr.refl.zI (P := fun a => a = 0) rfl).zI rfl).zI rfl
    have L21 : LD za 21 y.1 (cmO y.2.1) (tkO y.2.1) (clO y.2.1) := LD_fr h.1.2.1 (fun a ha => by
      have := own_rng (o := 21) (Or.inr (by decide)) ha
      rw [(fa a (by omega)).1, (a5 a (by unfold fS; omega)).1])
    obtain ⟨z5, g1, g2, g3, g4, g5⟩ := wg_LKN L21 hB (lim := S.1) ⟨a6.1, by omega⟩
    have k16 : za.1 0 16 = iv S.1 := by rw [hza, rI, if_neg (by decide), rI, if_neg (by decide), rI, if_pos ⟨rfl, rfl⟩]
    have k17 : za.1 0 17 = iv S.2.1 := by rw [hza, rI, if_neg (by decide), rI, if_pos ⟨rfl, rfl⟩]
    have k18 : za.1 0 18 = iv S.2.2 := by rw [hza, rI, if_pos ⟨rfl, rfl⟩]
    have k14 : za.1 0 14 = z.1 0 14 := by rw [hza, rI, if_neg (by decide), rI, if_neg (by decide), rI, if_neg (by decide), (a5 0 (by unfold fS; omega)).1]
    have z50 : z5.1 0 = za.1 0 := (g2 0 (by unfold fW; omega)).1
    have run : f_X10_knowLeast z 0 = some (zI z5 0 15 1) := by
      unfold f_X10_knowLeast f_X10_knowLeast_0
      rw [w, n_0, if_pos rfl]
      unfold f_X10_knowLeast_8
      rw [r0_4, r0_5, r0_10, r0_11, a1, Option.bind_some, a2, Option.bind_some]
      have e8 : z3.1 40 8 = iv S.1 := a3.1
      have e9 : (zI z3 0 16 (iv S.1)).1 40 9 = iv S.2.1 := by rw [rI, if_neg (by decide)]; exact a3.2.1
      have e10 : (zI (zI z3 0 16 (iv S.1)) 0 17 (iv S.2.1)).1 40 10 = iv S.2.2 := by rw [rI, if_neg (by decide), rI, if_neg (by decide)]; exact a3.2.2
      rw [e8, e9, e10, ← hza, k16, g1, Option.bind_some]
    have lk : LKN (zI z5 0 15 1) y.1 (cmO y.2.1) (tkO y.2.1) (clO y.2.1) := by
      unfold LKN
      rw [← hS]
      refine ⟨?_, ?_, ?_, ?_, ?_, fun s hs => ?_⟩
      · rw [rI, if_neg (by decide), z50, k16]
      · rw [rI, if_neg (by decide), z50, k17]
      · rw [rI, if_neg (by decide), z50, k18]
      · rw [zI_n (by decide)]
        exact g3
      · rw [zI_n (by decide)]
        exact g4
      · rw [zI_n (by decide), zI_n (by decide)]
        exact g5 s hs
    have f15 : (zI z5 0 15 1).1 0 15 = iv 1 := by rw [rI, if_pos ⟨rfl, rfl⟩]; exact n_1
    have fr : Fr sK z (zI z5 0 15 1) := (((a5.mono (Q := sK) (fun a e => by unfold fS at e; unfold sK sC; omega)).trans (fa.mono (Q := sK) (fun a e => Or.inl e))).trans (g2.mono (Q := sK) (fun a e => Or.inr (Or.inr e)))).zI (Or.inl rfl)
    refine ⟨_, run, IK_k h fr ?_ (Or.inr ⟨f15, lk⟩), f15, lk, fr, a6⟩
    rw [rI, if_neg (by decide), z50, k14]
  · refine ⟨z, ?_, h, w1, w2, Fr.refl, a6⟩
    unfold f_X10_knowLeast f_X10_knowLeast_0
    rw [w1, if_neg (by decide)]
    rfl
theorem p_least (h : IK z y) : ∃ z' r, f_X10_least z 0 1 = some (z', r) ∧ IK z' y := by
  obtain ⟨z1, k1, k2, k3, k4, k5, k6⟩ := pk_of h
  refine ⟨z1, z1.1 0 17, ?_, k2⟩
  unfold f_X10_least f_X10_least_0 f_X10_least_4
  rw [n_1, n_2, if_neg (by decide), if_pos (by decide)]
  unfold f_X10_least_12
  rw [k1, Option.bind_some]
  unfold f_X10_least_20 f_X10_least_25 f_X10_least_30
  rw [n_1, if_neg (by decide), if_pos (by decide)]
  rfl
theorem p_drawn (h : IK z y) {N : Int} {sd : Int32} (g : 0 ≤ N ∧ N ≤ 30) : ∃ z' r, f_X10_drawn z 0 sd (iv N) = some (z', r) ∧ IK z' y := by
  have sN : sm N := ⟨by omega, by omega⟩
  have h8 := h.1.1.2.1
  have hb := BD_J h.2.1 g (sd := sd) (k := y.1)
  obtain ⟨z1, z2, a1, a2, a3, a4⟩ := drc_of h.1.2.1 g (sd := sd)
  obtain ⟨z3, r1, r2, r3, r4, r5, r6, r7⟩ := run_c a3 (root_G h8 hb (root_D h8 hb)) (Nat.mul_le_mul_left 3 (tk_le h8 hb)) (root_f h8 hb).2.2
  have f1 : Fr sC z z3 := (a4.mono (Q := sC) (fun a e => by unfold sC; omega)).trans (r4.mono (Q := sC) (fun a e => by unfold fS at e; unfold sC; omega))
  refine ⟨z3, iv (SR (dc (cmO y.2.1) N sd y.1) (tkO y.2.1) (clO y.2.1) y.1).1, ?_, IK_c h f1⟩
  unfold f_X10_drawn f_X10_drawn_0 f_X10_drawn_4 f_X10_drawn_13
  rw [if_neg (fun e => by have := (iv_lt0 sN).mp e; omega), show (30 : Int32) = iv 30 by decide, if_pos ((iv_lek sN 30).mpr g.2), r0_5, r0_4, r0_10, a1, Option.bind_some, a2, Option.bind_some, r1, Option.bind_some, r2.1]
theorem p_many (h : IK z y) : ∃ z' r, f_X10_many z 0 = some (z', r) ∧ IK z' y := by
  have h8 := h.1.1.2.1
  have hb := BD_I h.2.1
  have hB := BD_O h.2.1
  obtain ⟨s1, s2, -⟩ := SR_ok h8 hb
  obtain ⟨z1, k1, k2, k3, k4, k5, k6⟩ := pk_of h
  obtain ⟨L, hL⟩ : ∃ L, L = (SR (cmO y.2.1) (tkO y.2.1) (clO y.2.1) y.1).1 := ⟨_, rfl⟩
  unfold LKN at k4
  rw [← hL] at k4 s1 s2
  have W : WG z1 y.1 (cmO y.2.1) (tkO y.2.1) (clO y.2.1) L := ⟨k4.2.2.2.1, k4.2.2.2.2.1, k4.2.2.2.2.2⟩
  obtain ⟨z2, w1, w2⟩ := ways_of k2.1.2.1 hB (lim := L) ⟨s1.1, by omega⟩ W
  refine ⟨z2, iv (wn (cmO y.2.1) (tkO y.2.1) (clO y.2.1) y.1 L y.1 (2 ^ y.1 - 1) 0 : Int), ?_, IK_c k2 (w2.mono (fun a e => by unfold f55 at e; unfold sC; omega))⟩
  unfold f_X10_many f_X10_many_0
  rw [k1, Option.bind_some, r0_11, r0_4, w1, Option.bind_some]
/-! the tape -/
def inF (n a b c d e : Int) : Prop := (1 ≤ n ∧ n ≤ 5) ∧ (0 ≤ a ∧ a ≤ 255) ∧ (0 ≤ b ∧ b ≤ 255) ∧ (0 ≤ c ∧ c ≤ 255) ∧ (0 ≤ d ∧ d ≤ 255) ∧ (0 ≤ e ∧ e ≤ 255)
theorem p_feed0 {n a b c d e : Int} (sn : sm n) (sa : sm a) (sb : sm b) (sc : sm c) (sd : sm d) (se : sm e) : f_X10_feed z 0 (iv n) (iv a) (iv b) (iv c) (iv d) (iv e) = if (1 ≤ n ∧ n ≤ 5) ∧ (0 ≤ a ∧ a ≤ 255) ∧ (0 ≤ b ∧ b ≤ 255) ∧ (0 ≤ c ∧ c ≤ 255) ∧ (0 ≤ d ∧ d ≤ 255) ∧ (0 ≤ e ∧ e ≤ 255) then f_X10_feed_51 z 0 (iv n) (iv a) (iv b) (iv c) (iv d) (iv e) else some (z, iv (-2)) := by
  unfold f_X10_feed f_X10_feed_0 f_X10_feed_5 f_X10_feed_10 f_X10_feed_17 f_X10_feed_24 f_X10_feed_32 f_X10_feed_40 f_X10_feed_48
  rw [n_m2, n_1, show (5 : Int32) = iv 5 by decide]
  simp only [iv_ltk sn 1, iv_klt sn 5, ib_of sa, ib_of sb, ib_of sc, ib_of sd, ib_of se, Option.bind_some, ob_0]
  grind
theorem p_feed2 {n a b c d e : Int} (sn : sm n) (sa : sm a) (sb : sm b) (sc : sm c) (sd : sm d) (se : sm e) (g : ¬ inF n a b c d e) : f_X10_feed z 0 (iv n) (iv a) (iv b) (iv c) (iv d) (iv e) = some (z, iv (-2)) := by
  rw [p_feed0 sn sa sb sc sd se]
  exact if_neg (fun q => g q)
def fdX (a b c d e : Int) : Nat → Int := fun w => if w = 0 then a else if w = 1 then b else if w = 2 then c else if w = 3 then d else e
theorem XC_t {b : Ta} (h : XC z y) (f1 : Fr (fun a => a = 19 ∨ a = 20) z z1) (hC : CT z1 b) : XC z1 (yB y b) := by
  obtain ⟨h1, h2, h3, h4, h5, h6, h7⟩ := h
  have g : ∀ a, a ≠ 19 → a ≠ 20 → z1.1 a = z.1 a ∧ z1.2 a = z.2 a := fun a e1 e2 => f1 a (by omega)
  refine ⟨JD_fr (by decide) h1 (fun a e1 e2 => (g a (by omega) (by omega)).1), LD_fr h2 (fun a ha => ?_), CKe_fr h3 (by rw [(g 0 (by decide) (by decide)).1]) (fun a e1 e2 => (g a (by omega) (by omega)).1), hC, CB_fr h5 (g 57 (by decide) (by decide)).1 (g 58 (by decide) (by decide)).1, CS_fr h6 (fun a e1 e2 => g a (by omega) (by omega)), CL_fr h7 (g 0 (by decide) (by decide)).1 (fun a e1 e2 => (g a (by omega) (by omega)).1)⟩
  have := own_rng (o := 21) (Or.inr (by decide)) ha
  exact (g a (by omega) (by omega)).1
theorem p_feed (h : IK z y) {k : Nat} {a b c d e : Int} (g : inF k a b c d e) (g2 : y.2.2.2.1.1 + k ≤ 60) : ∃ z', f_X10_feed z 0 (iv (k : Int)) (iv a) (iv b) (iv c) (iv d) (iv e) = some (z', iv ((y.2.2.2.1.1 + k : Nat) : Int)) ∧ IK z' (yB y (taF y.2.2.2.1 k (fdX a b c d e))) := by
  have hC := h.1.2.2.2.1
  have hT := h.2.2.2.1
  obtain ⟨gn, ga, gb, gc, gd, ge⟩ := g
  have cls := p_feed0 (z := z) (n := (k : Int)) (a := a) (b := b) (c := c) (d := d) (e := e) ⟨by omega, by omega⟩ ⟨by omega, by omega⟩ ⟨by omega, by omega⟩ ⟨by omega, by omega⟩ ⟨by omega, by omega⟩ ⟨by omega, by omega⟩
  rw [if_pos ⟨gn, ga, gb, gc, gd, ge⟩] at cls
  have sk : sm ((y.2.2.2.1.1 : Int) + (k : Int)) := ⟨by omega, by omega⟩
  obtain ⟨x, hx⟩ : ∃ x : Nat → Int, x = fdX a b c d e := ⟨_, rfl⟩
  have x0 : x 0 = a := by rw [hx]; rfl
  have x1 : x 1 = b := by rw [hx]; rfl
  have x2 : x 2 = c := by rw [hx]; rfl
  have x3 : x 3 = d := by rw [hx]; rfl
  have x4 : x 4 = e := by rw [hx]; rfl
  rw [← hx]
  have tc := fun k' => tcZ_CT (x := x) hC k'
  have hV : TV (taF y.2.2.2.1 k x) := ⟨g2, fun j hj => by
    show 0 ≤ (if j < y.2.2.2.1.1 then y.2.2.2.1.2 j else x (j - y.2.2.2.1.1)) ∧ (if j < y.2.2.2.1.1 then y.2.2.2.1.2 j else x (j - y.2.2.2.1.1)) ≤ 255
    by_cases w : j < y.2.2.2.1.1
    · rw [if_pos w]
      exact hT.2 j w
    · rw [if_neg w]
      generalize j - y.2.2.2.1.1 = i
      rw [hx]
      show 0 ≤ (if i = 0 then a else if i = 1 then b else if i = 2 then c else if i = 3 then d else e) ∧ (if i = 0 then a else if i = 1 then b else if i = 2 then c else if i = 3 then d else e) ≤ 255
      repeat' split
      all_goals omega⟩
  refine ⟨tcZ z y.2.2.2.1.1 x k, ?_, XC_t h.1 ((tcZ_fr k).mono (fun a e => by omega)) (tc k), h.2.1, h.2.2.1, hV, h.2.2.2.2⟩
  rw [cls]
  have st : ∀ i, i < k → f_X8_add (tcZ z y.2.2.2.1.1 x i) 19 (iv (x i)) = some (tcZ z y.2.2.2.1.1 x (i + 1)) := fun i hi => ad8_of (m := y.2.2.2.1.1 + i) (tc i).1 (by omega)
  unfold f_X10_feed_51 f_X8_hasRoom f_X8_hasRoom_0 f_X8_hasRoom_11 f_X8_hasRoom_15 f_X8_hasRoom_16
  rw [r0_3, hC.1, iv_add, show (60 : Int32) = iv 60 by decide, if_neg (fun q => by have := (iv_klt sk 60).mp q; omega), zb_1, if_pos rfl, Option.bind_some]
  show (if (1 : Int32) = 0 then _ else f_X10_feed_65 z 0 (iv (k : Int)) (iv a) (iv b) (iv c) (iv d) (iv e)) = _
  rw [if_neg (by decide)]
  unfold f_X10_feed_65 f_X10_feed_78 f_X10_feed_86 f_X10_feed_91 f_X10_feed_100 f_X10_feed_105 f_X10_feed_114 f_X10_feed_119 f_X10_feed_128
  have s0 := st 0 (by omega)
  rw [x0] at s0
  have s0' : f_X8_add z 19 (iv a) = some (tcZ z y.2.2.2.1.1 x 1) := s0
  have en : ∀ i, (tcZ z y.2.2.2.1.1 x i).1 19 1 = iv ((y.2.2.2.1.1 + i : Nat) : Int) := fun i => (tc i).1
  rw [r0_3, s0', Option.bind_some, n_1, n_2, n_3, n_4]
  rcases (show k = 1 ∨ k = 2 ∨ k = 3 ∨ k = 4 ∨ k = 5 by omega) with rfl | rfl | rfl | rfl | rfl
  · rw [if_pos (by decide), if_pos (by decide), if_pos (by decide), if_pos (by decide), en]
  · have s1 := st 1 (by omega)
    rw [x1] at s1
    rw [if_neg (by decide), s1, Option.bind_some, if_pos (by decide), if_pos (by decide), if_pos (by decide), en]
  · have s1 := st 1 (by omega)
    have s2 := st 2 (by omega)
    rw [x1] at s1
    rw [x2] at s2
    rw [if_neg (by decide), s1, Option.bind_some, if_neg (by decide), s2, Option.bind_some, if_pos (by decide), if_pos (by decide), en]
  · have s1 := st 1 (by omega)
    have s2 := st 2 (by omega)
    have s3 := st 3 (by omega)
    rw [x1] at s1
    rw [x2] at s2
    rw [x3] at s3
    rw [if_neg (by decide), s1, Option.bind_some, if_neg (by decide), s2, Option.bind_some, if_neg (by decide), s3, Option.bind_some, if_pos (by decide), en]
  · have s1 := st 1 (by omega)
    have s2 := st 2 (by omega)
    have s3 := st 3 (by omega)
    have s4 := st 4 (by omega)
    rw [x1] at s1
    rw [x2] at s2
    rw [x3] at s3
    rw [x4] at s4
    rw [if_neg (by decide), s1, Option.bind_some, if_neg (by decide), s2, Option.bind_some, if_neg (by decide), s3, Option.bind_some, if_neg (by decide), s4, Option.bind_some, en]
end ICD
