/-! P36: THE CLASS ALONE: what holds of its picture, call by call -/
def IK (z : St) (y : Sy) : Prop := XC z y ∧ XV y
section ICC
variable {z z' z1 : St} {y : Sy} {n : Nat} {v : Nat → Nat → Int}
theorem IK_c (h : IK z y) (hf : Fr sC z z') : IK z' y := ⟨XC_fr h.1 (hf.mono (fun a e => Or.inl e)), h.2⟩
theorem IK_n {z2 : St} (h : IK z y) (hV : JV n v) (hC : XC z2 (yN y n v)) : IK z2 (yN y n v) := ⟨hC, hV, h.2.2.1, h.2.2.2.1, ⟨TW_0, by show (0 : Int) ≤ 999; decide⟩, h.2.2.2.2.2⟩
theorem p_told (h : IK z y) {j w : Int} (sj : sm j) (sw : sm w) : f_X10_told z 0 (iv j) (iv w) = some (z, iv (if (0 ≤ j ∧ j < y.1) ∧ 0 ≤ w ∧ w ≤ 6 then itsV y.2.1 w j.toNat else -2)) := told_c h.1.1 h.2.1 sj sw
theorem p_taken (h : IK z y) {j w : Int} (sj : sm j) (sw : sm w) : f_X10_taken z 0 (iv j) (iv w) = some (z, iv (if (0 ≤ j ∧ j < y.1) ∧ 0 ≤ w ∧ w ≤ 5 then (if isU (y.2.1 0 j.toNat).toNat w.toNat = true then tkO y.2.1 j.toNat + clO y.2.1 j.toNat else -13) else -2)) := taken_c h.1.1 h.2.1 sj sw
def beV (x : Tr) (w : Int) : Int := if w = 0 then x.1 else if w = 1 then x.2.1 else if w = 2 then (x.2.2.2.2.1 : Int) else if w = 3 then x.2.2.2.2.2.1 else -2
theorem p_bench (h : IK z y) {w : Int} (sw : sm w) : f_X10_bench z 0 (iv w) = some (z, iv (beV y.2.2.2.2.1 w)) := by
  obtain ⟨c1, c2, -, -, c5, c6, -⟩ := h.1.2.2.2.2.1
  unfold f_X10_bench f_X10_bench_0 f_X10_bench_64 f_X10_bench_56 f_X10_bench_48 f_X10_bench_40 f_X10_bench_32 beV
  rw [r0_12, c1, c2, c5, c6, n_m2, n_0, n_1, n_2, n_3]
  simp only [iv_eqk sw 0, iv_eqk sw 1, iv_eqk sw 2, iv_eqk sw 3]
  grind
def bgV (n : Nat) (x : Tr) (j : Int) : Int := if 0 ≤ j ∧ j < n then (if Nat.testBit x.2.2.2.1 j.toNat = true then x.2.2.2.2.2.2 j.toNat else -1) else -2
theorem p_began (h : IK z y) {j : Int} (sj : sm j) : f_X10_began z 0 (iv j) = some (z, iv (bgV y.1 y.2.2.2.2.1 j)) := by
  obtain ⟨-, -, -, c4, -, -, c7⟩ := h.1.2.2.2.2.1
  have h8 := h.1.1.2.1
  have tw := h.2.2.2.2.1.1.2.2.2.1
  unfold bgV
  unfold f_X10_began f_X10_began_0 f_X10_began_14 f_X10_began_11
  rw [r0_0, ho_of h.1.1.1 h8 sj, Option.bind_some]
  by_cases hj : 0 ≤ j ∧ j < y.1
  · obtain ⟨k, rfl⟩ : ∃ k : Nat, j = k := ⟨j.toNat, by omega⟩
    have hk : k < 8 := by omega
    have i1 : inb (iv (k : Int)) 8 = true := inb_k hk (by decide)
    have i2 : (iv (k : Int)).toNatClampNeg = k := iv_natN (by omega)
    have bs := bit_all y.2.2.2.2.1.2.2.2.1 (lt_256 h8 tw) k hk
    simp only [ob_0, hj, not_true_eq_false, if_false, and_self, if_true, r0_12]
    unfold f_X9_hourOf f_X9_hourOf_0 f_X9_hourOf_4 f_X9_hourOf_13 f_X9_hourOf_24 f_X9_hourOf_33 f_X9_hourOf_34
    rw [c4]
    simp only [iv_lt0 sj, iv_8le sj, bs, i1, i2, show rf 57 0 = 58 by decide, Int.toNat_natCast]
    rw [if_neg (by omega), if_neg (by omega)]
    cases hb : Nat.testBit y.2.2.2.2.1.2.2.2.1 k with
    | false => simp [n_m1]
    | true => simp [c7 k hk hb]
  · simp only [ob_0, hj, not_false_eq_true, if_true, if_false, n_m2]
def xA (a b c d : Int) : Nat → Int := fun w => if w = 0 then a else if w = 1 then b else if w = 2 then c else d
theorem p_job (h : IK z y) {a b c d : Int} (sa : sm a) (sb : sm b) (sc : sm c) (sd : sm d) (g : inJ a b c d) (gr : y.1 < 8) : ∃ z', f_X10_job z 0 (iv a) (iv b) (iv c) (iv d) = some (z', iv (y.1 : Int)) ∧ IK z' (yN y (y.1 + 1) (vA y.2.1 y.1 (xA a b c d))) := by
  have hJ := h.1.1
  have h8 := hJ.2.1
  have e0 : ∀ (z : St), f_X2_mayBe z 0 (iv a) = some (z, ob (loT 0 ≤ a ∧ a ≤ hiT 0)) := fun z => cm_k (w := 0) sa (by decide)
  have e1 : ∀ (z : St), f_X2_mayBe z 1 (iv b) = some (z, ob (loT 1 ≤ b ∧ b ≤ hiT 1)) := fun z => cm_k (w := 1) sb (by decide)
  have e2 : ∀ (z : St), f_X2_mayBe z 2 (iv c) = some (z, ob (loT 2 ≤ c ∧ c ≤ hiT 2)) := fun z => cm_k (w := 2) sc (by decide)
  have e3 : ∀ (z : St), f_X2_mayBe z 3 (iv d) = some (z, ob (loT 3 ≤ d ∧ d ≤ hiT 3)) := fun z => cm_k (w := 3) sd (by decide)
  have r1 : f_X2_hasRoom z 1 1 = some (z, ob (y.1 + 1 ≤ 8)) := hm_c (k := 1) hJ.1 h8 (by decide)
  obtain ⟨x, hx⟩ : ∃ x : Nat → Int, x = xA a b c d := ⟨_, rfl⟩
  have x0 : x 0 = a := by rw [hx]; rfl
  have x1 : x 1 = b := by rw [hx]; rfl
  have x2 : x 2 = c := by rw [hx]; rfl
  have x3 : x 3 = d := by rw [hx]; rfl
  have hV := JV_vA h.2.1 (x := x) (by rw [x0]; exact g.1) (by rw [x1]; exact g.2.1) (by rw [x2]; exact g.2.2.1) (by rw [x3]; exact g.2.2.2)
  obtain ⟨c1, c2⟩ := ad_of (o := 1) (by decide) hJ gr (x := x)
  obtain ⟨c3, c4, c5, c6⟩ := ta_XC h.1 ((adZ_fr1 (o := 1) (by decide)).mono (fun a e => e)) c2 hV
  rw [x0, x1, x2, x3] at c1
  rw [← hx]
  refine ⟨taZ (vA y.2.1 y.1 x) (y.1 + 1) (adZ z 1 y.1 x), ?_, IK_n h hV c4⟩
  have ee : iv (y.1 : Int) = iv ((y.1 + 1 : Nat) : Int) - 1 := by
    rw [n_1, iv_sub]
    congr 1
    omega
  rw [ee]
  unfold f_X10_job f_X10_job_0 f_X10_job_8 f_X10_job_16 f_X10_job_24 f_X10_job_36 f_X10_job_50 f_X10_job_47 f_X10_job_33
  obtain ⟨g0, g1, g2, g3⟩ := g
  rw [e0, Option.bind_some]
  simp only [e1, e2, e3, Option.bind_some, ob_0, r0_0, r1]
  rw [if_neg (by unfold loT hiT; simp; omega), if_neg (by unfold loT hiT; simp; omega), if_neg (by unfold loT hiT; simp; omega), if_neg (by unfold loT hiT; simp; omega), if_neg (by omega), c1, Option.bind_some, c3, Option.bind_some, c6]
theorem p_job4 (h : IK z y) {a b c d : Int} (sa : sm a) (sb : sm b) (sc : sm c) (sd : sm d) (g : inJ a b c d) (gr : ¬ y.1 < 8) : f_X10_job z 0 (iv a) (iv b) (iv c) (iv d) = some (z, iv (-4)) := by
  have hJ := h.1.1
  have h8 := hJ.2.1
  have e0 : ∀ (z : St), f_X2_mayBe z 0 (iv a) = some (z, ob (loT 0 ≤ a ∧ a ≤ hiT 0)) := fun z => cm_k (w := 0) sa (by decide)
  have e1 : ∀ (z : St), f_X2_mayBe z 1 (iv b) = some (z, ob (loT 1 ≤ b ∧ b ≤ hiT 1)) := fun z => cm_k (w := 1) sb (by decide)
  have e2 : ∀ (z : St), f_X2_mayBe z 2 (iv c) = some (z, ob (loT 2 ≤ c ∧ c ≤ hiT 2)) := fun z => cm_k (w := 2) sc (by decide)
  have e3 : ∀ (z : St), f_X2_mayBe z 3 (iv d) = some (z, ob (loT 3 ≤ d ∧ d ≤ hiT 3)) := fun z => cm_k (w := 3) sd (by decide)
  have r1 : f_X2_hasRoom z 1 1 = some (z, ob (y.1 + 1 ≤ 8)) := hm_c (k := 1) hJ.1 h8 (by decide)
  unfold f_X10_job f_X10_job_0 f_X10_job_8 f_X10_job_16 f_X10_job_24 f_X10_job_36 f_X10_job_50 f_X10_job_47 f_X10_job_33
  obtain ⟨g0, g1, g2, g3⟩ := g
  rw [e0, Option.bind_some]
  simp only [e1, e2, e3, Option.bind_some, ob_0, r0_0, r1]
  rw [if_neg (by unfold loT hiT; simp; omega), if_neg (by unfold loT hiT; simp; omega), if_neg (by unfold loT hiT; simp; omega), if_neg (by unfold loT hiT; simp; omega), if_pos (by omega), n_m4]
theorem p_job2 (h : IK z y) {a b c d : Int} (sa : sm a) (sb : sm b) (sc : sm c) (sd : sm d) (g : ¬ inJ a b c d) : f_X10_job z 0 (iv a) (iv b) (iv c) (iv d) = some (z, iv (-2)) := by
  have hJ := h.1.1
  have h8 := hJ.2.1
  have e0 : ∀ (z : St), f_X2_mayBe z 0 (iv a) = some (z, ob (loT 0 ≤ a ∧ a ≤ hiT 0)) := fun z => cm_k (w := 0) sa (by decide)
  have e1 : ∀ (z : St), f_X2_mayBe z 1 (iv b) = some (z, ob (loT 1 ≤ b ∧ b ≤ hiT 1)) := fun z => cm_k (w := 1) sb (by decide)
  have e2 : ∀ (z : St), f_X2_mayBe z 2 (iv c) = some (z, ob (loT 2 ≤ c ∧ c ≤ hiT 2)) := fun z => cm_k (w := 2) sc (by decide)
  have e3 : ∀ (z : St), f_X2_mayBe z 3 (iv d) = some (z, ob (loT 3 ≤ d ∧ d ≤ hiT 3)) := fun z => cm_k (w := 3) sd (by decide)
  have r1 : f_X2_hasRoom z 1 1 = some (z, ob (y.1 + 1 ≤ 8)) := hm_c (k := 1) hJ.1 h8 (by decide)
  unfold f_X10_job f_X10_job_0 f_X10_job_8 f_X10_job_16 f_X10_job_24 f_X10_job_36 f_X10_job_50 f_X10_job_47 f_X10_job_33
  rw [e0, Option.bind_some]
  simp only [e1, e2, e3, Option.bind_some, ob_0, r0_0, r1]
  by_cases g0 : 0 ≤ a ∧ a ≤ 5
  · rw [if_neg (by unfold loT hiT; simp; omega)]
    by_cases g1 : 0 ≤ b ∧ b ≤ 60
    · rw [if_neg (by unfold loT hiT; simp; omega)]
      by_cases g2 : 1 ≤ c ∧ c ≤ 20
      · rw [if_neg (by unfold loT hiT; simp; omega), if_pos (by have g3 : ¬ (0 ≤ d ∧ d ≤ 60) := (fun q => g ⟨g0, g1, g2, q⟩); unfold loT hiT; simp; omega), n_m2]
      · rw [if_pos (by unfold loT hiT; simp; omega), n_m2]
    · rw [if_pos (by unfold loT hiT; simp; omega), n_m2]
  · rw [if_pos (by unfold loT hiT; simp; omega), n_m2]
theorem p_set (h : IK z y) {k u : Nat} {x : Int} (sx : sm x) (hk : k < y.1) (hu : u < 4) (hx : loT u ≤ x ∧ x ≤ hiT u) : ∃ z', f_X10_set z 0 (iv (k : Int)) (iv (u : Int)) (iv x) = some (z', iv (y.2.1 u k)) ∧ IK z' (yN y y.1 (vS y.2.1 u k x)) := by
  have hJ := h.1.1
  have h8 := hJ.2.1
  have hV := JV_vS h.2.1 hu hk hx
  have c1 := ch_set (o := 1) (by decide) hJ.1 h8 hu hk (y := iv x)
  have c2 := JD_S (o := 1) (by decide) hJ hu hk (x := x)
  have r1 : rf (rf 1 0) u = 3 + u := by
    rcases (show u = 0 ∨ u = 1 ∨ u = 2 ∨ u = 3 by omega) with rfl | rfl | rfl | rfl <;> decide
  have f1 : Fr (fun a => 1 ≤ a ∧ a ≤ 6) z (zI z (rf (rf 1 0) u) k (iv x)) := Fr.refl.zI (by rw [r1]; omega)
  obtain ⟨c3, c4, c5, c6⟩ := ta_XC h.1 f1 c2 hV
  refine ⟨taZ (vS y.2.1 u k x) y.1 (zI z (rf (rf 1 0) u) k (iv x)), ?_, IK_n h hV c4⟩
  unfold f_X10_set f_X10_set_0 f_X10_set_11 f_X10_set_22 f_X10_set_19
  rw [r0_0, ho_of hJ.1 h8 (sm_k (by omega)), Option.bind_some]
  simp only [ob_0, cm_k sx (show 0 ≤ (u : Int) ∧ (u : Int) < 4 from ⟨by omega, by omega⟩), Option.bind_some]
  rw [if_neg (fun q => q ⟨by omega, by omega⟩), if_neg (fun q => q hx), va_of hJ hu hk, Option.bind_some]
  show ((f_X2_change z 1 (iv (u : Int)) (iv (k : Int)) (iv x)).bind _) = _
  rw [c1, Option.bind_some, c3]
  rfl
theorem p_set2 (h : IK z y) {j w x : Int} (sj : sm j) (sw : sm w) (sx : sm x) (g : ¬ (0 ≤ j ∧ j < y.1)) : f_X10_set z 0 (iv j) (iv w) (iv x) = some (z, iv (-2)) := by
  have hJ := h.1.1
  have h8 := hJ.2.1
  unfold f_X10_set f_X10_set_0 f_X10_set_11 f_X10_set_22 f_X10_set_19
  rw [r0_0, ho_of hJ.1 h8 sj, Option.bind_some]
  simp only [ob_0, Option.bind_some]
  rw [if_pos g, n_m2]
theorem p_drop2 (h : IK z y) {j : Int} (sj : sm j) (g : ¬ (0 ≤ j ∧ j < y.1)) : f_X10_drop z 0 (iv j) = some (z, iv (-2)) := by
  unfold f_X10_drop f_X10_drop_0 f_X10_drop_14 f_X10_drop_11
  rw [r0_0, ho_of h.1.1.1 h.1.1.2.1 sj, Option.bind_some]
  simp only [ob_0, g, not_false_eq_true, if_true, n_m2]
theorem p_must2 (h : IK z y) {j : Int} (sj : sm j) (g : ¬ (0 ≤ j ∧ j < y.1)) : f_X10_must z 0 (iv j) = some (z, iv (-2)) := by
  unfold f_X10_must f_X10_must_0
  rw [r0_0, ho_of h.1.1.1 h.1.1.2.1 sj, Option.bind_some]
  show (if ob (0 ≤ j ∧ j < (y.1 : Int)) = 0 then _ else _) = _
  rw [if_pos (ob_0.mpr g)]
  rfl
theorem p_room2 (h : IK z y) {j : Int} (sj : sm j) (g : ¬ (0 ≤ j ∧ j < y.1)) : f_X10_room z 0 (iv j) = some (z, iv (-2)) := by
  unfold f_X10_room f_X10_room_0
  rw [r0_0, ho_of h.1.1.1 h.1.1.2.1 sj, Option.bind_some]
  show (if ob (0 ≤ j ∧ j < (y.1 : Int)) = 0 then _ else _) = _
  rw [if_pos (ob_0.mpr g)]
  rfl
theorem p_gain2 (h : IK z y) {j : Int} (sj : sm j) (g : ¬ (0 ≤ j ∧ j < y.1)) : f_X10_gain z 0 (iv j) = some (z, iv (-2)) := by
  unfold f_X10_gain f_X10_gain_0
  rw [r0_0, ho_of h.1.1.1 h.1.1.2.1 sj, Option.bind_some]
  show (if ob (0 ≤ j ∧ j < (y.1 : Int)) = 0 then _ else _) = _
  rw [if_pos (ob_0.mpr g)]
  rfl
theorem p_film2 : f_X10_film z 0 (-1) = some (z, iv (-2)) := by
  unfold f_X10_film f_X10_film_0
  rw [n_m1, is_c (sm_d (-1)), Option.bind_some]
  show (if ob (0 ≤ (-1 : Int) ∧ (-1 : Int) < 4) = 0 then _ else _) = _
  rw [if_pos (ob_0.mpr (by decide))]
  rfl
theorem p_judge2 : f_X10_judge z 0 4 0 = some (z, -2) := by
  unfold f_X10_judge f_X10_judge_0 f_X10_judge_17
  rw [n_4, is_c (sm_d 4), Option.bind_some]
  show (if ob (0 ≤ (4 : Int) ∧ (4 : Int) < 4) = 0 then _ else _) = _
  rw [if_pos (ob_0.mpr (by decide))]
def yI (y : Sy) : Sy := (y.1, y.2.1, (true, y.1, y.2.1), y.2.2.2.1, y.2.2.2.2.1, y.2.2.2.2.2)
theorem p_image (h : IK z y) : ∃ z1, f_X10_image z 0 = some (z1, iv (y.1 : Int)) ∧ IK z1 (yI y) := by
  have hJ := h.1.1
  have h8 := hJ.2.1
  have b := jb_of (z := z) (o := 7) (u := 1) (by decide) (by decide) (by decide) hJ
  have b2 := jbZ_JD (z := z) (o := 7) (v := y.2.1) (by decide) y.1 h8
  have fb : Fr (fun a => 7 ≤ a ∧ a ≤ 12) z (jbZ y.2.1 z 7 y.1) := (jbZ_fr (by decide) y.1).mono (fun a e => e)
  let z1 : St := zI (jbZ y.2.1 z 7 y.1) 0 14 1
  have f1 : Fr (fun a => (7 ≤ a ∧ a ≤ 12) ∨ a = 0) z z1 := (fb.mono (fun a e => Or.inl e)).zI (Or.inr rfl)
  have f0 : ∀ k, k ≠ 14 → z1.1 0 k = z.1 0 k := fun k hk => by
    show (zI _ 0 14 1).1 0 k = _
    rw [rI, if_neg (fun e => hk e.2), (fb 0 (by decide)).1]
  have hC : XC z1 (yI y) := by
    obtain ⟨h1, h2, h3, h4, h5, h6, h7⟩ := h.1
    have g : ∀ a, 0 < a → a < 7 ∨ 12 < a → z1.1 a = z.1 a ∧ z1.2 a = z.2 a := fun a e1 e2 => f1 a (by omega)
    refine ⟨JD_fr (by decide) h1 (fun a e1 e2 => (g a (by omega) (by omega)).1), LD_fr h2 (fun a ha => ?_), ⟨fun _ => ⟨?_, ?_⟩, fun e => absurd e (by show ¬ (true = false); decide)⟩, CT_fr h4 (by rw [(g 19 (by decide) (by decide)).1]) (g 20 (by decide) (by decide)).1, CB_fr h5 (g 57 (by decide) (by decide)).1 (g 58 (by decide) (by decide)).1, CS_fr h6 (fun a e1 e2 => g a (by omega) (by omega)), ?_⟩
    · have := own_rng (o := 21) (Or.inr (by decide)) ha
      exact (g a (by omega) (by omega)).1
    · show (zI _ 0 14 1).1 0 14 = _
      rw [rI, if_pos ⟨rfl, rfl⟩, n_1]
    · exact JD_fr (by decide) b2 (fun a e1 e2 => by
        show (zI _ 0 14 1).1 a = _
        rw [zI_n (by omega)])
    · unfold CL LKN at h7 ⊢
      rw [f0 15 (by decide), f0 16 (by decide), f0 17 (by decide), f0 18 (by decide), (g 52 (by decide) (by decide)).1, (g 53 (by decide) (by decide)).1, (g 54 (by decide) (by decide)).1]
      exact h7
  refine ⟨z1, ?_, hC, h.2.1, fun _ => ⟨h8, h.2.1⟩, h.2.2.2.1, h.2.2.2.2.1, h.2.2.2.2.2⟩
  unfold f_X10_image f_X10_image_0
  rw [r0_0, r0_1, b, Option.bind_some, rI, if_neg (by decide), b2.1]
theorem p_back3 (h : IK z y) (hk : y.2.2.1.1 = false) : f_X10_back z 0 = some (z, iv (-3)) := by
  unfold f_X10_back f_X10_back_0 f_X10_back_7
  rw [h.1.2.2.1.2 hk, n_0, if_pos rfl, n_m3]
theorem p_back (h : IK z y) (hk : y.2.2.1.1 = true) : ∃ z', f_X10_back z 0 = some (z', iv (y.2.2.1.2.1 : Int)) ∧ IK z' (yN y y.2.2.1.2.1 y.2.2.1.2.2) := by
  obtain ⟨c14, cK⟩ := h.1.2.2.1.1 hk
  obtain ⟨kn8, kV⟩ := h.2.2.1 hk
  have b := jb_of (z := z) (o := 1) (u := 7) (by decide) (by decide) (by decide) cK
  have b2 := jbZ_JD (z := z) (o := 1) (v := y.2.2.1.2.2) (by decide) y.2.2.1.2.1 kn8
  have fb : Fr (fun a => 1 ≤ a ∧ a ≤ 6) z (jbZ y.2.2.1.2.2 z 1 y.2.2.1.2.1) := (jbZ_fr (by decide) y.2.2.1.2.1).mono (fun a e => e)
  obtain ⟨c3, c4, c5, c6⟩ := ta_XC h.1 fb b2 kV
  refine ⟨taZ y.2.2.1.2.2 y.2.2.1.2.1 (jbZ y.2.2.1.2.2 z 1 y.2.2.1.2.1), ?_, IK_n h kV c4⟩
  unfold f_X10_back f_X10_back_0 f_X10_back_10
  rw [c14, if_neg (by decide), r0_0, r0_1, b, Option.bind_some, c3, Option.bind_some, c6]
noncomputable def coV (y : Sy) (w : Int) : Int := if w = 0 then (y.1 : Int) else if w = 1 then su (tkO y.2.1) (fun _ => true) y.1 else if w = 2 then (y.2.2.2.1.1 : Int) else -2
theorem p_count (h : IK z y) {w : Int} (sw : sm w) : f_X10_count z 0 (iv w) = some (z, iv (coV y w)) := by
  have hB := BD_O h.2.1
  unfold f_X10_count f_X10_count_0 f_X10_count_52 f_X10_count_44 f_X10_count_36 f_X10_count_28 coV
  rw [n_m2, n_0, n_1, n_2, r0_0, r0_3, r0_4, h.1.1.1, h.1.2.2.2.1.1, tall_of h.1.2.1 hB, Option.bind_some]
  simp only [iv_eqk sw 0, iv_eqk sw 1, iv_eqk sw 2]
  grind
noncomputable def gdV (y : Sy) (k w : Int) : Int := if k = -1 then (if w = 0 then (gr (cmO y.2.1) (tkO y.2.1) (clO y.2.1) y.1 y.1).2.2.2.2.2.2.1 else (gr (cmO y.2.1) (tkO y.2.1) (clO y.2.1) y.1 y.1).2.2.2.2.2.2.2) else (if w = 0 then ((gr (cmO y.2.1) (tkO y.2.1) (clO y.2.1) y.1 y.1).2.2.1 k.toNat : Int) else (gr (cmO y.2.1) (tkO y.2.1) (clO y.2.1) y.1 y.1).2.2.2.1 ((gr (cmO y.2.1) (tkO y.2.1) (clO y.2.1) y.1 y.1).2.2.1 k.toNat))
theorem p_greedy (h : IK z y) {k w : Int} (sk : sm k) (sw : sm w) (g1 : 0 ≤ w ∧ w ≤ 1) (g2 : -1 ≤ k ∧ k < y.1) : ∃ z', f_X10_greedy z 0 (iv k) (iv w) = some (z', iv (gdV y k w)) ∧ IK z' y := by
  have hB := BD_O h.2.1
  have h8 := h.1.1.2.1
  unfold gdV
  obtain ⟨c, hc⟩ : ∃ c, c = cmO y.2.1 := ⟨_, rfl⟩
  obtain ⟨t, ht⟩ : ∃ t, t = tkO y.2.1 := ⟨_, rfl⟩
  obtain ⟨q, hq⟩ : ∃ q, q = clO y.2.1 := ⟨_, rfl⟩
  have hL := h.1.2.1
  rw [← hc, ← ht, ← hq] at hB hL ⊢
  have lg := lg_of (o := 29) (u := 21) (by decide) (by decide) hL hB
  have hY := lgZ_LY (z := z) (o := 29) (by decide) hB h8 y.1 (Nat.le_refl _)
  obtain ⟨w1, w2, w3⟩ := gr_inv hB h8 y.1 (Nat.le_refl _)
  have f1 : Fr sC z (lgZ c t q z 29 y.1 y.1) := lgZ_sC
  have fl : ∀ k', k' < y.1 → (gr c t q y.1 y.1).2.2.1 k' < y.1 := fun k' hk => w1.2.2.2.2.2 k' (by omega)
  refine ⟨lgZ c t q z 29 y.1 y.1, ?_, IK_c h f1⟩
  unfold f_X10_greedy f_X10_greedy_0 f_X10_greedy_4 f_X10_greedy_12 f_X10_greedy_17 f_X10_greedy_31 f_X10_greedy_69 f_X10_greedy_86 f_X10_greedy_82 f_X10_greedy_94 f_X10_greedy_47 f_X10_greedy_61 f_X10_greedy_51 f_X10_greedy_68 f_X10_greedy_28 f_X10_greedy_9
  rw [r0_0, r0_4, r0_6, h.1.1.1, n_m1, n_1, lg]
  simp only [iv_lt0 sw, iv_lek sw 1, iv_ltk sk (-1), iv_lt sk (sm_k (show y.1 < 2147483648 by omega)), iv_eqk sk (-1), Option.bind_some]
  rw [if_neg (by omega), if_pos g1.2, if_neg (by omega), if_pos g2.2, n_0]
  simp only [iv_eqk sw 0]
  by_cases k1 : k = -1
  · rw [if_pos k1, if_pos k1, hY.1.2.2.2.1, hY.1.2.2.2.2]
    by_cases w0 : w = 0
    · rw [if_pos w0, if_pos w0]
    · rw [if_neg w0, if_neg w0]
  · obtain ⟨u, rfl⟩ : ∃ u : Nat, k = u := ⟨k.toNat, by omega⟩
    have hu : u < y.1 := by omega
    rw [if_neg k1, if_neg k1, ja_of h8 hY w1 sk, Option.bind_some, gj_in (by omega)]
    simp only [Int.toNat_natCast]
    by_cases w0 : w = 0
    · rw [if_pos w0, if_pos w0]
    · rw [if_neg w0, if_neg w0]
      show ((f_X3_beginOf _ 29 (iv ((gr c t q y.1 y.1).2.2.1 u : Int))).bind _) = _
      rw [bg_of h8 hY w1 (sm_k (by have := fl u hu; omega)), Option.bind_some, gt_in (by have := fl u hu; omega) (gr_mem hB h8 (fl u hu))]
theorem p_breaking (h : IK z y) : ∃ z' r, f_X10_breaking z 0 0 = some (z', r) ∧ IK z' y := by
  have hB := BD_O h.2.1
  obtain ⟨z1, e1, e2, e3, e4⟩ := ru_of (o := 38) (u := 21) (by decide) (by decide) h.1.2.1 hB
  have f1 : Fr sC z z1 := e4.mono (fun a e => by
    have r : rf 38 0 = 39 := by decide
    unfold own1 at e
    unfold sC
    omega)
  refine ⟨z1, iv (bi (cmO y.2.1) (tkO y.2.1) (clO y.2.1) y.1 16).2.2.2.1, ?_, IK_c h f1⟩
  unfold f_X10_breaking f_X10_breaking_0 f_X10_breaking_4 f_X10_breaking_12 f_X10_breaking_37 f_X10_breaking_27 f_X10_breaking_44 f_X10_breaking_9
  rw [n_1, r0_4, r0_9, e1, n_0]
  simp only [iv_lt0 (sm_d 0), iv_lek (sm_d 0) 1, Option.bind_some]
  rw [if_neg (by decide), if_pos (by decide), e2, if_pos trivial]
theorem p_go2 (h : IK z y) {w : Int} (sw : sm w) (g : ¬ (1 ≤ w ∧ w ≤ 60)) : f_X10_go z 0 (iv w) = some (z, iv (-2)) := by
  unfold f_X10_go f_X10_go_0 f_X10_go_5 f_X10_go_11
  rw [n_1, show (60 : Int32) = iv 60 by decide]
  by_cases w1 : w < 1
  · rw [if_pos ((iv_ltk sw 1).mpr w1), n_m2]
  · rw [if_neg (fun e => w1 ((iv_ltk sw 1).mp e)), if_neg (fun e => by have := (iv_lek sw 60).mp e; omega), n_m2]
noncomputable def goY (y : Sy) (m : Nat) : Tr := goT (cmO y.2.1) (tkO y.2.1) (clO y.2.1) y.1 y.2.2.2.2.1 m
theorem p_go (h : IK z y) {m : Nat} (g : 1 ≤ m ∧ m ≤ 60) (g2 : y.2.2.2.2.1.1 + m ≤ 999) : ∃ z', f_X10_go z 0 (iv (m : Int)) = some (z', iv (y.2.2.2.2.1.1 + m)) ∧ IK z' (yT y (goY y m)) := by
  have hB := BD_O h.2.1
  have h8 := h.1.1.2.1
  have hW := h.2.2.2.2.1.1
  have x9 := h.2.2.2.2.1.2
  have x0 := hW.1.1
  have c1 := h.1.2.2.2.2.1.1
  have sw : sm (m : Int) := sm_k (by omega)
  obtain ⟨z1, p1, p2, p3⟩ := go_c hB (m := m) (by omega) g2 hW m 0 FU z (by omega) (FU_8 (by omega)) h.1.2.1 h.1.2.2.2.2.1
  rw [goT_1] at p1
  refine ⟨z1, ?_, ?_, h.2.1, h.2.2.1, h.2.2.2.1, ⟨goT_W hB h8 hW (m := m) (by omega) m (Nat.le_refl _), by show (goT _ _ _ _ _ m).1 ≤ 999; rw [goT_1]; exact g2⟩, h.2.2.2.2.2⟩
  · unfold f_X10_go f_X10_go_0 f_X10_go_5 f_X10_go_14 f_X10_go_32
    rw [r0_12, c1, iv_add, n_1, show (60 : Int32) = iv 60 by decide, show (999 : Int32) = iv 999 by decide]
    rw [if_neg (fun e => by have := (iv_ltk sw 1).mp e; omega), if_pos ((iv_lek sw 60).mpr (by omega)), if_pos ((iv_lek ⟨by omega, by omega⟩ 999).mpr g2)]
    exact p1
  · obtain ⟨h1, h2, h3, h4, h5, h6, h7⟩ := h.1
    have gg : ∀ a, a ≠ 57 → a ≠ 58 → z1.1 a = z.1 a ∧ z1.2 a = z.2 a := fun a e1 e2 => p3 a (by omega)
    refine ⟨JD_fr (by decide) h1 (fun a e1 e2 => (gg a (by omega) (by omega)).1), LD_fr h2 (fun a ha => ?_), CKe_fr h3 (by rw [(gg 0 (by decide) (by decide)).1]) (fun a e1 e2 => (gg a (by omega) (by omega)).1), CT_fr h4 (by rw [(gg 19 (by decide) (by decide)).1]) (gg 20 (by decide) (by decide)).1, p2, CS_fr h6 (fun a e1 e2 => gg a (by omega) (by omega)), CL_fr h7 (gg 0 (by decide) (by decide)).1 (fun a e1 e2 => (gg a (by omega) (by omega)).1)⟩
    have := own_rng (o := 21) (Or.inr (by decide)) ha
    exact (gg a (by omega) (by omega)).1
end ICC
