/-! THE TAPE: feed -/
def taF (b : Ta) (k : Nat) (x : Nat → Int) : Ta := (b.1 + k, fun j => if j < b.1 then b.2 j else x (j - b.1))
noncomputable def tpZ (z : St) (m : Nat) (x : Int) : St := zI (zI z 20 m (iv x)) 19 1 (iv ((m + 1 : Nat) : Int))
noncomputable def tcZ (z : St) (m : Nat) (x : Nat → Int) : Nat → St
  | 0 => z
  | k + 1 => tpZ (tcZ z m x k) (m + k) (x k)
noncomputable def tmZ (z : St) (m : Nat) (x : Nat → Int) : Nat → St
  | 0 => z
  | k + 1 => zI (zI (tmZ z m x k) 73 (m + k) (iv (x k))) 68 7 (iv ((m + k + 1 : Nat) : Int))
def yB (y : Sy) (b : Ta) : Sy := (y.1, y.2.1, y.2.2.1, b, y.2.2.2.2.1, y.2.2.2.2.2)
section FEED
variable {z z1 z2 : St} {y : Sy} {n : Nat} {b : Ta} {x : Nat → Int}
theorem ad8_of {m : Nat} (h : z.1 19 1 = iv (m : Int)) (hm : m < 60) {x : Int} : f_X8_add z 19 (iv x) = some (tpZ z m x) := by
  unfold f_X8_add f_X8_add_0 f_X8_add_7 f_X8_add_19 f_X8_add_39 tpZ
  have s1 : ¬ z.1 19 1 < 0 := by
    rw [h]
    exact fun e => by have := (iv_lt0 (sm_k (show m < 2147483648 by omega))).mp e; omega
  have s2 : ¬ 60 ≤ z.1 19 1 := by
    rw [h, show (60 : Int32) = iv 60 by decide]
    exact fun e => by have := (iv_kle (sm_k (show m < 2147483648 by omega)) 60).mp e; omega
  rw [if_neg s1, if_neg s2]
  rw [show rf 19 0 = 20 by decide, zI_n (show (19 : Nat) ≠ 20 by decide), h, inb_k hm (by decide), if_pos rfl, tn (by omega), iv_s]
theorem tcZ_CT (h : CT z b) : ∀ k, CT (tcZ z b.1 x k) (taF b k x)
  | 0 => ⟨h.1, fun j hj => by
    show z.1 20 j = iv (if j < b.1 then b.2 j else _)
    have hj : j < b.1 := hj
    rw [if_pos hj]
    exact h.2 j hj⟩
  | k + 1 => by
    have ih := tcZ_CT h k
    refine ⟨?_, fun j hj => ?_⟩
    · show (tpZ (tcZ z b.1 x k) (b.1 + k) (x k)).1 19 1 = _
      unfold tpZ
      rw [rI, if_pos ⟨rfl, rfl⟩]
      rfl
    · show (tpZ (tcZ z b.1 x k) (b.1 + k) (x k)).1 20 j = iv (if j < b.1 then b.2 j else x (j - b.1))
      unfold tpZ
      rw [zI_n (by decide), rI]
      have hj : j < b.1 + (k + 1) := hj
      by_cases e : j = b.1 + k
      · rw [if_pos ⟨rfl, e⟩, if_neg (by omega), show j - b.1 = k by omega]
      · rw [if_neg (fun w => e w.2)]
        exact ih.2 j (by show j < b.1 + k; omega)
theorem tcZ_fr {m : Nat} : ∀ k, Fr (fun a => a = 19 ∨ a = 20) z (tcZ z m x k)
  | 0 => Fr.refl
  | k + 1 => by
    show Fr _ z (tpZ (tcZ z m x k) (m + k) (x k))
    unfold tpZ
    exact ((tcZ_fr k).zI (Or.inr rfl)).zI (Or.inl rfl)
theorem tmZ_MT (h : MT z b) : ∀ k, MT (tmZ z b.1 x k) (taF b k x)
  | 0 => ⟨h.1, fun j hj => by
    show z.1 73 j = iv (if j < b.1 then b.2 j else _)
    have hj : j < b.1 := hj
    rw [if_pos hj]
    exact h.2 j hj⟩
  | k + 1 => by
    have ih := tmZ_MT h k
    refine ⟨?_, fun j hj => ?_⟩
    · show (zI (zI (tmZ z b.1 x k) 73 (b.1 + k) (iv (x k))) 68 7 _).1 68 7 = _
      rw [rI, if_pos ⟨rfl, rfl⟩]
      rfl
    · show (zI (zI (tmZ z b.1 x k) 73 (b.1 + k) (iv (x k))) 68 7 _).1 73 j = iv (if j < b.1 then b.2 j else x (j - b.1))
      rw [zI_n (by decide), rI]
      have hj : j < b.1 + (k + 1) := hj
      by_cases e : j = b.1 + k
      · rw [if_pos ⟨rfl, e⟩, if_neg (by omega), show j - b.1 = k by omega]
      · rw [if_neg (fun w => e w.2)]
        exact ih.2 j (by show j < b.1 + k; omega)
theorem tmZ_fr {m : Nat} : ∀ k, Fr (fun a => a = 68 ∨ a = 73) z (tmZ z m x k)
  | 0 => Fr.refl
  | k + 1 => ((tmZ_fr k).zI (Or.inr rfl)).zI (Or.inl rfl)
theorem tmZ_68 {m : Nat} : ∀ k q, q ≠ 7 → (tmZ z m x k).1 68 q = z.1 68 q
  | 0, _, _ => rfl
  | k + 1, q, h => by
    show (zI (zI (tmZ z m x k) 73 (m + k) (iv (x k))) 68 7 _).1 68 q = _
    rw [rI, if_neg (fun e => h e.2), zI_n (by decide), tmZ_68 k q h]
/-- a new tape -/
theorem INV_b {b' : Ta} (h : INV z y) (f1 : Fr (fun a => a = 19 ∨ a = 20) z z1) (hC : CT z1 b') (f2 : Fr (fun a => a = 68 ∨ a = 73 ∨ sM a) z1 z2) (h68 : ∀ k, k68 k → k ≠ 7 → z2.1 68 k = z1.1 68 k) (hM : MT z2 b') (hV : TV b') : INV z2 (yB y b') := by
  have cx : XC z1 (yB y b') := by
    obtain ⟨h1, h2, h3, h4, h5, h6, h7⟩ := h.1
    have g : ∀ a, a ≠ 19 → a ≠ 20 → z1.1 a = z.1 a ∧ z1.2 a = z.2 a := fun a e1 e2 => f1 a (by omega)
    refine ⟨JD_fr (by decide) h1 (fun a e1 e2 => (g a (by omega) (by omega)).1), LD_fr h2 (fun a ha => ?_), CKe_fr h3 (by rw [(g 0 (by decide) (by decide)).1]) (fun a e1 e2 => (g a (by omega) (by omega)).1), hC, CB_fr h5 (g 57 (by decide) (by decide)).1 (g 58 (by decide) (by decide)).1, CS_fr h6 (fun a e1 e2 => g a (by omega) (by omega)), CL_fr h7 (g 0 (by decide) (by decide)).1 (fun a e1 e2 => (g a (by omega) (by omega)).1)⟩
    have := own_rng (o := 21) (Or.inr (by decide)) ha
    exact (g a (by omega) (by omega)).1
  have mx : XM z2 (yB y b') := by
    obtain ⟨h1, h2, h3, h4, h5⟩ := XM_c h.2.1 (f1.mono (fun a e => by omega))
    have g : ∀ a, a ≠ 68 → a ≠ 73 → ¬ sM a → z2.1 a = z1.1 a ∧ z2.2 a = z1.2 a := fun a e1 e2 e3 => f2 a (fun x => by
      rcases x with x | x | x
      · exact e1 x
      · exact e2 x
      · exact e3 x)
    exact ⟨MJ_fr h1 (h68 5 (Or.inl rfl) (by decide)) (fun a e1 e2 => (g a (by omega) (by omega) (by unfold sM; omega)).1), MKe_fr h2 (h68 53 (by unfold k68; omega) (by decide)) (g 95 (by decide) (by decide) (by unfold sM; omega)).1, hM, MB_fr h4 (fun k e1 e2 => h68 k (by unfold k68; omega) (by omega)) (g 94 (by decide) (by decide) (by unfold sM; omega)).1, MS_fr h5 (fun a e1 e2 => g a (by omega) (by omega) (by unfold sM; omega))⟩
  exact ⟨XC_m cx (f2.mono (fun a e => by unfold sM at e; omega)), mx, h.2.2.1, h.2.2.2.1, hV, h.2.2.2.2.2.1, h.2.2.2.2.2.2⟩
theorem ib_of {w : Int} (sw : sm w) : f_X10_isByte z (iv w) = some (z, ob (0 ≤ w ∧ w ≤ 255)) := by
  unfold f_X10_isByte f_X10_isByte_0 f_X10_isByte_4 f_X10_isByte_11 f_X10_isByte_15 f_X10_isByte_16 ob
  rw [show (255 : Int32) = iv 255 by decide]
  simp only [iv_lt0 sw, iv_klt sw 255, zb_0, zb_1, if_true]
  grind
theorem iby_of {w : Int} (sw : sm w) : f_X11_in z (iv w) 0 255 = some (z, ob (0 ≤ w ∧ w ≤ 255)) := by
  rw [n_0, show (255 : Int32) = iv 255 by decide]
  exact in_ob sw (sm_d 0) (sm_d 255)
theorem s_feed (h : INV z y) (n0 a0 b0 c0 d0 e0 : Int32) : Both (f_X10_feed z 0 n0 a0 b0 c0 d0 e0) (fun z => f_X11_feed z 68 n0 a0 b0 c0 d0 e0) := by
  obtain ⟨n, sn, rfl⟩ := ex_iv n0
  obtain ⟨a, sa, rfl⟩ := ex_iv a0
  obtain ⟨b, sb, rfl⟩ := ex_iv b0
  obtain ⟨c, sc, rfl⟩ := ex_iv c0
  obtain ⟨d, sd, rfl⟩ := ex_iv d0
  obtain ⟨e, se, rfl⟩ := ex_iv e0
  have hC := h.1.2.2.2.1
  have hM := h.2.1.2.2.1
  have hT := h.2.2.2.2.1
  have m60 := hT.1
  obtain ⟨x, hx⟩ : ∃ x : Nat → Int, x = fun w => if w = 0 then a else if w = 1 then b else if w = 2 then c else if w = 3 then d else e := ⟨_, rfl⟩
  have x0 : x 0 = a := by rw [hx]; rfl
  have x1 : x 1 = b := by rw [hx]; rfl
  have x2 : x 2 = c := by rw [hx]; rfl
  have x3 : x 3 = d := by rw [hx]; rfl
  have x4 : x 4 = e := by rw [hx]; rfl
  have cls : f_X10_feed z 0 (iv n) (iv a) (iv b) (iv c) (iv d) (iv e) = if (1 ≤ n ∧ n ≤ 5) ∧ (0 ≤ a ∧ a ≤ 255) ∧ (0 ≤ b ∧ b ≤ 255) ∧ (0 ≤ c ∧ c ≤ 255) ∧ (0 ≤ d ∧ d ≤ 255) ∧ (0 ≤ e ∧ e ≤ 255) then f_X10_feed_51 z 0 (iv n) (iv a) (iv b) (iv c) (iv d) (iv e) else some (z, iv (-2)) := by
    unfold f_X10_feed f_X10_feed_0 f_X10_feed_5 f_X10_feed_10 f_X10_feed_17 f_X10_feed_24 f_X10_feed_32 f_X10_feed_40 f_X10_feed_48
    rw [n_m2, n_1, show (5 : Int32) = iv 5 by decide]
    simp only [iv_ltk sn 1, iv_klt sn 5, ib_of sa, ib_of sb, ib_of sc, ib_of sd, ib_of se, Option.bind_some, ob_0]
    grind
  have mdl : ∀ zz : St, f_X11_feed zz 68 (iv n) (iv a) (iv b) (iv c) (iv d) (iv e) = if (1 ≤ n ∧ n ≤ 5) ∧ (0 ≤ a ∧ a ≤ 255) ∧ (0 ≤ b ∧ b ≤ 255) ∧ (0 ≤ c ∧ c ≤ 255) ∧ (0 ≤ d ∧ d ≤ 255) ∧ (0 ≤ e ∧ e ≤ 255) then f_X11_feed_70 zz 68 (iv n) (iv a) (iv b) (iv c) (iv d) (iv e) else some (zz, iv (-2)) := fun zz => by
    unfold f_X11_feed f_X11_feed_0 f_X11_feed_9 f_X11_feed_20 f_X11_feed_31 f_X11_feed_43 f_X11_feed_55 f_X11_feed_67
    have q1 : f_X11_in zz (iv n) 1 5 = some (zz, ob (1 ≤ n ∧ n ≤ 5)) := by
      rw [n_1, show (5 : Int32) = iv 5 by decide]
      exact in_ob sn (sm_d 1) (sm_d 5)
    rw [q1, Option.bind_some, n_m2]
    simp only [iby_of sa, iby_of sb, iby_of sc, iby_of sd, iby_of se, Option.bind_some, ob_0]
    grind
  by_cases g : (1 ≤ n ∧ n ≤ 5) ∧ (0 ≤ a ∧ a ≤ 255) ∧ (0 ≤ b ∧ b ≤ 255) ∧ (0 ≤ c ∧ c ≤ 255) ∧ (0 ≤ d ∧ d ≤ 255) ∧ (0 ≤ e ∧ e ≤ 255)
  · rw [if_pos g] at cls
    obtain ⟨gn, ga, gb, gc, gd, ge⟩ := g
    obtain ⟨k, rfl⟩ : ∃ k : Nat, n = k := ⟨n.toNat, by omega⟩
    have sk : sm ((y.2.2.2.1.1 : Int) + (k : Int)) := ⟨by omega, by omega⟩
    by_cases g2 : y.2.2.2.1.1 + k ≤ 60
    · have tc := fun k' => tcZ_CT (x := x) hC k'
      have hM1 : MT (tcZ z y.2.2.2.1.1 x k) y.2.2.2.1 := MT_fr hM (by rw [(tcZ_fr k 68 (by decide)).1]) (tcZ_fr k 73 (by decide)).1
      have tm := tmZ_MT (x := x) hM1 k
      have hV : TV (taF y.2.2.2.1 k x) := ⟨g2, fun j hj => by
        show 0 ≤ (if j < y.2.2.2.1.1 then y.2.2.2.1.2 j else x (j - y.2.2.2.1.1)) ∧ (if j < y.2.2.2.1.1 then y.2.2.2.1.2 j else x (j - y.2.2.2.1.1)) ≤ 255
        by_cases w : j < y.2.2.2.1.1
        · rw [if_pos w]
          exact hT.2 j w
        · rw [if_neg w]
          generalize j - y.2.2.2.1.1 = i
          rw [hx]
          show 0 ≤ (if i = 0 then a else if i = 1 then b else if i = 2 then c else if i = 3 then d else e) ∧ (if i = 0 then a else if i = 1 then b else if i = 2 then c else if i = 3 then d else e) ≤ 255
          repeat' split
          all_goals omega⟩
      refine ⟨tcZ z y.2.2.2.1.1 x k, tmZ (tcZ z y.2.2.2.1.1 x k) y.2.2.2.1.1 x k, iv ((y.2.2.2.1.1 + k : Nat) : Int), ?_, ?_, _, INV_b h (tcZ_fr k) (tc k) ((tmZ_fr k).mono (fun a e => by omega)) (fun q _ hq => tmZ_68 k q hq) tm hV⟩
      · rw [cls]
        have st : ∀ i, i < k → f_X8_add (tcZ z y.2.2.2.1.1 x i) 19 (iv (x i)) = some (tcZ z y.2.2.2.1.1 x (i + 1)) := fun i hi => ad8_of (m := y.2.2.2.1.1 + i) (tc i).1 (by omega)
        unfold f_X10_feed_51 f_X8_hasRoom f_X8_hasRoom_0 f_X8_hasRoom_11 f_X8_hasRoom_15 f_X8_hasRoom_16
        rw [r0_3, hC.1, iv_add, show (60 : Int32) = iv 60 by decide, if_neg (fun q => by have := (iv_klt sk 60).mp q; omega), zb_1, if_pos rfl, Option.bind_some]
        show (if (1 : Int32) = 0 then _ else f_X10_feed_65 z 0 (iv (k : Int)) (iv a) (iv b) (iv c) (iv d) (iv e)) = _
        rw [if_neg (by decide)]
        unfold f_X10_feed_65 f_X10_feed_78 f_X10_feed_86 f_X10_feed_91 f_X10_feed_100 f_X10_feed_105 f_X10_feed_114 f_X10_feed_119 f_X10_feed_128
        have s0 := st 0 (by omega)
        rw [x0] at s0
        have s0' : f_X8_add z 19 (iv a) = some (tcZ z y.2.2.2.1.1 x 1) := s0
        have en : ∀ i, (tcZ z y.2.2.2.1.1 x i).1 19 1 = iv ((y.2.2.2.1.1 + i : Nat) : Int) := fun i => (tc i).1
        rw [r0_3, s0', Option.bind_some, n_1, n_2, n_3, n_4]
        rcases (show k = 1 ∨ k = 2 ∨ k = 3 ∨ k = 4 ∨ k = 5 by omega) with rfl | rfl | rfl | rfl | rfl
        · rw [if_pos (by decide), if_pos (by decide), if_pos (by decide), if_pos (by decide), en]
        · have s1 := st 1 (by omega)
          rw [x1] at s1
          rw [if_neg (by decide), s1, Option.bind_some, if_pos (by decide), if_pos (by decide), if_pos (by decide), en]
        · have s1 := st 1 (by omega)
          have s2 := st 2 (by omega)
          rw [x1] at s1
          rw [x2] at s2
          rw [if_neg (by decide), s1, Option.bind_some, if_neg (by decide), s2, Option.bind_some, if_pos (by decide), if_pos (by decide), en]
        · have s1 := st 1 (by omega)
          have s2 := st 2 (by omega)
          have s3 := st 3 (by omega)
          rw [x1] at s1
          rw [x2] at s2
          rw [x3] at s3
          rw [if_neg (by decide), s1, Option.bind_some, if_neg (by decide), s2, Option.bind_some, if_neg (by decide), s3, Option.bind_some, if_pos (by decide), en]
        · have s1 := st 1 (by omega)
          have s2 := st 2 (by omega)
          have s3 := st 3 (by omega)
          have s4 := st 4 (by omega)
          rw [x1] at s1
          rw [x2] at s2
          rw [x3] at s3
          rw [x4] at s4
          rw [if_neg (by decide), s1, Option.bind_some, if_neg (by decide), s2, Option.bind_some, if_neg (by decide), s3, Option.bind_some, if_neg (by decide), s4, Option.bind_some, en]
      · show f_X11_feed _ 68 _ _ _ _ _ _ = _
        rw [mdl, if_pos ⟨gn, ga, gb, gc, gd, ge⟩]
        unfold f_X11_feed_70 f_X11_feed_84
        rw [hM1.1, iv_add, show (60 : Int32) = iv 60 by decide, if_pos ((iv_lek sk 60).mpr (by omega))]
        refine loop_up (n := k) (fun F i b' => f_X11_feed_87 F b' 68 (iv (k : Int)) (iv a) (iv b) (iv c) (iv d) (iv e) (iv (i : Int))) (tmZ (tcZ z y.2.2.2.1.1 x k) y.2.2.2.1.1 x) (fun F => ?_) (fun F i hi => ?_) k 0 FU (by omega) (FU_8 (by omega))
        · show f_X11_feed_87 _ _ _ _ _ _ _ _ _ _ = _
          rw [f_X11_feed_87, if_pos sz_t]
          unfold f_X11_feed_161
          rw [tm.1]
          rfl
        · have ti := (tmZ_MT (x := x) hM1 i).1
          have ti' : (tmZ (tcZ z y.2.2.2.1.1 x k) y.2.2.2.1.1 x i).1 68 7 = iv ((y.2.2.2.1.1 + i : Nat) : Int) := ti
          show f_X11_feed_87 _ _ _ _ _ _ _ _ _ _ = f_X11_feed_87 F (zI (zI (tmZ (tcZ z y.2.2.2.1.1 x k) y.2.2.2.1.1 x i) 73 (y.2.2.2.1.1 + i) (iv (x i))) 68 7 (iv ((y.2.2.2.1.1 + i + 1 : Nat) : Int))) 68 _ _ _ _ _ _ (iv ((i + 1 : Nat) : Int))
          rw [f_X11_feed_87, if_neg (sz_f hi (by omega))]
          unfold f_X11_feed_93 f_X11_feed_106 f_X11_feed_110 f_X11_feed_116 f_X11_feed_120 f_X11_feed_126 f_X11_feed_131 f_X11_feed_137 f_X11_feed_142 f_X11_feed_144
          rw [ti', inb_k (show y.2.2.2.1.1 + i < 60 by omega) (by decide), if_pos rfl, tn (by omega), r68_6, iv_s]
          have e7 : ∀ w : Int32, (zI (tmZ (tcZ z y.2.2.2.1.1 x k) y.2.2.2.1.1 x i) 73 (y.2.2.2.1.1 + i) w).1 68 7 + 1 = iv ((y.2.2.2.1.1 + i + 1 : Nat) : Int) := fun w => by
            rw [zI_n (by decide), ti', iv_s]
          simp only [e7, if_true]
          rcases (show i = 0 ∨ i = 1 ∨ i = 2 ∨ i = 3 ∨ i = 4 by omega) with rfl | rfl | rfl | rfl | rfl
          · rw [if_pos (by decide), x0]
          · rw [if_neg (by decide), if_pos (by decide), x1]
          · rw [if_neg (by decide), if_neg (by decide), if_pos (by decide), x2]
          · rw [if_neg (by decide), if_neg (by decide), if_neg (by decide), if_pos (by decide), x3]
          · rw [if_neg (by decide), if_neg (by decide), if_neg (by decide), if_neg (by decide), x4]
    · refine Both_s h (r := iv (-4)) ?_ ?_
      · rw [cls]
        unfold f_X10_feed_51 f_X8_hasRoom f_X8_hasRoom_0 f_X8_hasRoom_11 f_X8_hasRoom_15 f_X8_hasRoom_16 f_X10_feed_62
        rw [r0_3, hC.1, iv_add, show (60 : Int32) = iv 60 by decide, if_pos ((iv_klt sk 60).mpr (by omega)), zb_0, if_pos rfl, Option.bind_some]
        show (if (0 : Int32) = 0 then some (z, -4) else _) = _
        rw [if_pos rfl, n_m4]
      · show f_X11_feed z 68 _ _ _ _ _ _ = _
        rw [mdl, if_pos ⟨gn, ga, gb, gc, gd, ge⟩]
        unfold f_X11_feed_70 f_X11_feed_81
        rw [hM.1, iv_add, show (60 : Int32) = iv 60 by decide, if_neg (fun q => by have := (iv_lek sk 60).mp q; omega), n_m4]
  · rw [if_neg g] at cls
    exact Both_s h cls (by
      show f_X11_feed z 68 _ _ _ _ _ _ = _
      rw [mdl, if_neg g])
end FEED
