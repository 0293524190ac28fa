/-! TOLD ANEW: job, set, drop, image, back -/
def yN (y : Sy) (n : Nat) (v : Nat → Nat → Int) : Sy := (n, v, y.2.2.1, y.2.2.2.1, tr0, y.2.2.2.2.2)
section TOLD
variable {z z1 : St} {y : Sy} {n : Nat} {v : Nat → Nat → Int}
theorem ta_XC (h : XC z y) (hf : Fr (fun a => 1 ≤ a ∧ a ≤ 6) z z1) (hJ : JD z1 1 n v) (hV : JV n v) : f_X10_tellAnew z1 0 = some (taZ v n z1) ∧ XC (taZ v n z1) (yN y n v) ∧ Fr (fun a => a < 68) z (taZ v n z1) ∧ (taZ v n z1).1 1 1 = iv (n : Int) := by
  obtain ⟨t1, t2, t3, t4, t5, t6⟩ := ta_of hJ hV
  have g : ∀ a, 7 ≤ a → ¬ (21 ≤ a ∧ a ≤ 24) → a ≠ 57 → (taZ v n z1).1 a = z.1 a ∧ (taZ v n z1).2 a = z.2 a := fun a e1 e2 e3 => ⟨((t5 a (by omega)).1).trans (hf a (by omega)).1, ((t5 a (by omega)).2).trans (hf a (by omega)).2⟩
  have j1 : JD (taZ v n z1) 1 n v := JD_fr (by decide) hJ (fun a e1 e2 => (t5 a (by omega)).1)
  obtain ⟨h1, h2, h3, h4, h5, h6, h7⟩ := h
  refine ⟨t1, ⟨j1, t2, CKe_fr h3 ?_ (fun a e1 e2 => (g a (by omega) (by omega) (by omega)).1), CT_fr h4 (by rw [(g 19 (by decide) (by decide) (by decide)).1]) (g 20 (by decide) (by decide) (by decide)).1, t3, CS_fr h6 (fun a e1 e2 => g a (by omega) (by omega) (by omega)), Or.inl t4⟩, fun a ha => ?_, j1.1⟩
  · rw [t6 14 (by decide), (hf 0 (by decide)).1]
  · exact g a (by omega) (by omega) (by omega)
theorem an_XM (h : XM z y) (hf : Fr (fun a => 68 ≤ a ∧ a ≤ 72) z z1) (h68 : ∀ k, k ≠ 5 → z1.1 68 k = z.1 68 k) (hJ : MJ z1 n v) : f_X11_anew z1 68 = some (anZ z1 8) ∧ XM (anZ z1 8) (yN y n v) ∧ Fr (fun a => 68 ≤ a) z (anZ z1 8) ∧ (anZ z1 8).1 68 5 = iv (n : Int) := by
  have fa := an_fr (z := z1) 8
  have g : ∀ a, 73 ≤ a → a ≠ 94 → (anZ z1 8).1 a = z.1 a ∧ (anZ z1 8).2 a = z.2 a := fun a e1 e2 => ⟨((fa a (by omega)).1).trans (hf a (by omega)).1, ((fa a (by omega)).2).trans (hf a (by omega)).2⟩
  obtain ⟨h1, h2, h3, h4, h5⟩ := h
  refine ⟨an_of z1, ⟨an_MJ hJ, MKe_fr h2 ?_ (g 95 (by decide) (by decide)).1, MT_fr h3 ?_ (g 73 (by decide) (by decide)).1, an_MB, MS_fr h5 (fun a e1 e2 => g a (by omega) (by omega))⟩, fun a ha => ?_, ?_⟩
  · rw [an_68k (by omega), h68 53 (by decide)]
  · rw [an_68k (by omega), h68 7 (by decide)]
  · exact ⟨((fa a (by omega)).1).trans (hf a (by omega)).1, ((fa a (by omega)).2).trans (hf a (by omega)).2⟩
  · rw [an_68k (by omega)]
    exact hJ.1
/-- the class told anew, then the model -/
theorem INV_n {z2 z3 : St} (h : INV z y) (hV : JV n v) (hC : XC z2 (yN y n v)) (f2 : Fr (fun a => a < 68) z z2) (hM : XM z3 (yN y n v)) (f3 : Fr (fun a => 68 ≤ a) z2 z3) : INV z3 (yN y n v) :=
  ⟨XC_m hC f3, hM, hV, h.2.2.2.1, h.2.2.2.2.1, ⟨TW_0, by show (0 : Int) ≤ 999; decide⟩, h.2.2.2.2.2.2⟩
theorem JV_vA (hV : JV n v) {x : Nat → Int} (h0 : 0 ≤ x 0 ∧ x 0 ≤ 5) (h1 : 0 ≤ x 1 ∧ x 1 ≤ 60) (h2 : 1 ≤ x 2 ∧ x 2 ≤ 20) (h3 : 0 ≤ x 3 ∧ x 3 ≤ 60) : JV (n + 1) (vA v n x) := fun j hj => by
  unfold vA
  by_cases e : j = n
  · simp only [e, if_true]
    exact ⟨h0, h1, h2, h3⟩
  · simp only [e, if_false]
    exact hV j (by omega)
def inJ (a b c d : Int) : Prop := (0 ≤ a ∧ a ≤ 5) ∧ (0 ≤ b ∧ b ≤ 60) ∧ (1 ≤ c ∧ c ≤ 20) ∧ (0 ≤ d ∧ d ≤ 60)
theorem cm_k {w : Int} {x : Int} (sx : sm x) (hw : 0 ≤ w ∧ w < 4) : f_X2_mayBe z (iv w) (iv x) = some (z, ob (loT w ≤ x ∧ x ≤ hiT w)) := by
  rw [cmb_of ⟨by omega, by omega⟩ sx]
  unfold ob
  simp only [hw, and_self, true_and]
theorem mm_k {w : Int} {x : Int} (sx : sm x) (hw : 0 ≤ w ∧ w < 4) : f_X11_mayBe z (iv w) (iv x) = some (z, ob (loT w ≤ x ∧ x ≤ hiT w)) := mmb_of hw sx
theorem hm_c {o : Nat} (hJ : z.1 o 1 = iv (n : Int)) (h8 : n ≤ 8) {k : Nat} (hk : k ≤ 100) : f_X2_hasRoom z o (iv (k : Int)) = some (z, ob (n + k ≤ 8)) := by
  unfold f_X2_hasRoom f_X2_hasRoom_0 f_X2_hasRoom_11 f_X2_hasRoom_15 f_X2_hasRoom_16 ob
  rw [hJ, iv_add, n_8]
  simp only [iv_klt (show sm ((n : Int) + (k : Int)) from ⟨by omega, by omega⟩) 8, zb_0, zb_1, if_true]
  by_cases e : n + k ≤ 8
  · rw [if_neg (by omega), if_pos e]
  · rw [if_pos (by omega), if_neg e]
theorem adZ_fr1 {o : Nat} (ho : kd o = 2) {k : Nat} {x : Nat → Int} : Fr (fun a => o ≤ a ∧ a ≤ o + 5) z (adZ z o k x) := (adZ_fr ho).mono (fun a e => e)
theorem maZ_fr {k : Nat} {x : Nat → Int} : Fr (fun a => 68 ≤ a ∧ a ≤ 72) z (maZ z k x) := by
  unfold maZ
  exact ((((Fr.refl.zI (by decide)).zI (by decide)).zI (by decide)).zI (by decide)).zI (by decide)
theorem maZ_68 {j : Nat} {x : Nat → Int} : ∀ k, k ≠ 5 → (maZ z j x).1 68 k = z.1 68 k := fun k hk => by
  unfold maZ
  simp only [rI]
  rw [if_neg (fun e => hk e.2), if_neg (by omega), if_neg (by omega), if_neg (by omega), if_neg (by omega)]
theorem s_job (h : INV z y) (a b c d : Int32) : Both (f_X10_job z 0 a b c d) (fun z => f_X11_job z 68 a b c d) := by
  obtain ⟨a, sa, rfl⟩ := ex_iv a
  obtain ⟨b, sb, rfl⟩ := ex_iv b
  obtain ⟨c, sc, rfl⟩ := ex_iv c
  obtain ⟨d, sd, rfl⟩ := ex_iv d
  have hJ := h.1.1
  have hM := h.2.1.1
  have h8 := hJ.2.1
  have e0 : ∀ (z : St), f_X2_mayBe z 0 (iv a) = some (z, ob (loT 0 ≤ a ∧ a ≤ hiT 0)) := fun z => cm_k (w := 0) sa (by decide)
  have e1 : ∀ (z : St), f_X2_mayBe z 1 (iv b) = some (z, ob (loT 1 ≤ b ∧ b ≤ hiT 1)) := fun z => cm_k (w := 1) sb (by decide)
  have e2 : ∀ (z : St), f_X2_mayBe z 2 (iv c) = some (z, ob (loT 2 ≤ c ∧ c ≤ hiT 2)) := fun z => cm_k (w := 2) sc (by decide)
  have e3 : ∀ (z : St), f_X2_mayBe z 3 (iv d) = some (z, ob (loT 3 ≤ d ∧ d ≤ hiT 3)) := fun z => cm_k (w := 3) sd (by decide)
  have m0 : ∀ (z : St), f_X11_mayBe z 0 (iv a) = some (z, ob (loT 0 ≤ a ∧ a ≤ hiT 0)) := fun z => mm_k (w := 0) sa (by decide)
  have m1 : ∀ (z : St), f_X11_mayBe z 1 (iv b) = some (z, ob (loT 1 ≤ b ∧ b ≤ hiT 1)) := fun z => mm_k (w := 1) sb (by decide)
  have m2 : ∀ (z : St), f_X11_mayBe z 2 (iv c) = some (z, ob (loT 2 ≤ c ∧ c ≤ hiT 2)) := fun z => mm_k (w := 2) sc (by decide)
  have m3 : ∀ (z : St), f_X11_mayBe z 3 (iv d) = some (z, ob (loT 3 ≤ d ∧ d ≤ hiT 3)) := fun z => mm_k (w := 3) sd (by decide)
  have r1 : f_X2_hasRoom z 1 1 = some (z, ob (y.1 + 1 ≤ 8)) := hm_c (k := 1) hJ.1 h8 (by decide)
  have mn : (z.1 68 5 = 8) ↔ y.1 = 8 := by
    rw [hM.1, n_8, iv_eqk (sm_k (by omega)) 8]
    omega
  by_cases g : inJ a b c d
  · by_cases gr : y.1 < 8
    · obtain ⟨x, hx⟩ : ∃ x : Nat → Int, x = fun w => if w = 0 then a else if w = 1 then b else if w = 2 then c else d := ⟨_, rfl⟩
      have x0 : x 0 = a := by rw [hx]; rfl
      have x1 : x 1 = b := by rw [hx]; rfl
      have x2 : x 2 = c := by rw [hx]; rfl
      have x3 : x 3 = d := by rw [hx]; rfl
      have hV := JV_vA h.2.2.1 (x := x) (by rw [x0]; exact g.1) (by rw [x1]; exact g.2.1) (by rw [x2]; exact g.2.2.1) (by rw [x3]; exact g.2.2.2)
      obtain ⟨c1, c2⟩ := ad_of (o := 1) (by decide) hJ gr (x := x)
      obtain ⟨c3, c4, c5, c6⟩ := ta_XC h.1 ((adZ_fr1 (o := 1) (by decide)).mono (fun a e => e)) c2 hV
      have hM2 := XM_c h.2.1 c5
      obtain ⟨k1, k2⟩ := ma_of hM2.1 gr (x := x)
      obtain ⟨k3, k4, k5, k6⟩ := an_XM hM2 maZ_fr maZ_68 k2
      rw [x0, x1, x2, x3] at c1 k1
      refine ⟨taZ (vA y.2.1 y.1 x) (y.1 + 1) (adZ z 1 y.1 x), anZ (maZ (taZ (vA y.2.1 y.1 x) (y.1 + 1) (adZ z 1 y.1 x)) y.1 x) 8, iv ((y.1 + 1 : Nat) : Int) - 1, ?_, ?_, _, INV_n h hV c4 c5 k4 k5⟩
      · unfold f_X10_job f_X10_job_0 f_X10_job_8 f_X10_job_16 f_X10_job_24 f_X10_job_36 f_X10_job_50 f_X10_job_47 f_X10_job_33
        obtain ⟨g0, g1, g2, g3⟩ := g
        rw [e0, Option.bind_some]
        simp only [e1, e2, e3, Option.bind_some, ob_0, r0_0, r1]
        rw [if_neg (by unfold loT hiT; simp; omega), if_neg (by unfold loT hiT; simp; omega), if_neg (by unfold loT hiT; simp; omega), if_neg (by unfold loT hiT; simp; omega), if_neg (by omega), c1, Option.bind_some, c3, Option.bind_some, c6]
      · show f_X11_job _ 68 _ _ _ _ = _
        unfold f_X11_job f_X11_job_0 f_X11_job_8 f_X11_job_16 f_X11_job_24 f_X11_job_36 f_X11_job_48 f_X11_job_45 f_X11_job_33
        obtain ⟨g0, g1, g2, g3⟩ := g
        have mn2 : ((taZ (vA y.2.1 y.1 x) (y.1 + 1) (adZ z 1 y.1 x)).1 68 5 = 8) ↔ y.1 = 8 := by
          rw [hM2.1.1, n_8, iv_eqk (sm_k (by omega)) 8]
          omega
        rw [m0, Option.bind_some]
        simp only [m1, m2, m3, Option.bind_some, ob_0, mn2]
        rw [if_neg (by unfold loT hiT; simp; omega), if_neg (by unfold loT hiT; simp; omega), if_neg (by unfold loT hiT; simp; omega), if_neg (by unfold loT hiT; simp; omega), if_neg (by omega), k1, Option.bind_some, k3, Option.bind_some, k6]
    · refine Both_s h (r := iv (-4)) ?_ ?_
      · unfold f_X10_job f_X10_job_0 f_X10_job_8 f_X10_job_16 f_X10_job_24 f_X10_job_36 f_X10_job_50 f_X10_job_47 f_X10_job_33
        obtain ⟨g0, g1, g2, g3⟩ := g
        rw [e0, Option.bind_some]
        simp only [e1, e2, e3, Option.bind_some, ob_0, r0_0, r1]
        rw [if_neg (by unfold loT hiT; simp; omega), if_neg (by unfold loT hiT; simp; omega), if_neg (by unfold loT hiT; simp; omega), if_neg (by unfold loT hiT; simp; omega), if_pos (by omega), n_m4]
      · show f_X11_job _ 68 _ _ _ _ = _
        unfold f_X11_job f_X11_job_0 f_X11_job_8 f_X11_job_16 f_X11_job_24 f_X11_job_36 f_X11_job_48 f_X11_job_45 f_X11_job_33
        obtain ⟨g0, g1, g2, g3⟩ := g
        rw [m0, Option.bind_some]
        simp only [m1, m2, m3, Option.bind_some, ob_0, mn]
        rw [if_neg (by unfold loT hiT; simp; omega), if_neg (by unfold loT hiT; simp; omega), if_neg (by unfold loT hiT; simp; omega), if_neg (by unfold loT hiT; simp; omega), if_pos (by omega), n_m4]
  · refine Both_s h (r := iv (-2)) ?_ ?_
    · unfold f_X10_job f_X10_job_0 f_X10_job_8 f_X10_job_16 f_X10_job_24 f_X10_job_36 f_X10_job_50 f_X10_job_47 f_X10_job_33
      rw [e0, Option.bind_some]
      simp only [e1, e2, e3, Option.bind_some, ob_0, r0_0, r1]
      by_cases g0 : 0 ≤ a ∧ a ≤ 5
      · rw [if_neg (by unfold loT hiT; simp; omega)]
        by_cases g1 : 0 ≤ b ∧ b ≤ 60
        · rw [if_neg (by unfold loT hiT; simp; omega)]
          by_cases g2 : 1 ≤ c ∧ c ≤ 20
          · rw [if_neg (by unfold loT hiT; simp; omega), if_pos (by have g3 : ¬ (0 ≤ d ∧ d ≤ 60) := (fun q => g ⟨g0, g1, g2, q⟩); unfold loT hiT; simp; omega), n_m2]
          · rw [if_pos (by unfold loT hiT; simp; omega), n_m2]
        · rw [if_pos (by unfold loT hiT; simp; omega), n_m2]
      · rw [if_pos (by unfold loT hiT; simp; omega), n_m2]
    · show f_X11_job _ 68 _ _ _ _ = _
      unfold f_X11_job f_X11_job_0 f_X11_job_8 f_X11_job_16 f_X11_job_24 f_X11_job_36 f_X11_job_48 f_X11_job_45 f_X11_job_33
      rw [m0, Option.bind_some]
      simp only [m1, m2, m3, Option.bind_some, ob_0]
      by_cases g0 : 0 ≤ a ∧ a ≤ 5
      · rw [if_neg (by unfold loT hiT; simp; omega)]
        by_cases g1 : 0 ≤ b ∧ b ≤ 60
        · rw [if_neg (by unfold loT hiT; simp; omega)]
          by_cases g2 : 1 ≤ c ∧ c ≤ 20
          · rw [if_neg (by unfold loT hiT; simp; omega), if_pos (by have g3 : ¬ (0 ≤ d ∧ d ≤ 60) := (fun q => g ⟨g0, g1, g2, q⟩); unfold loT hiT; simp; omega), n_m2]
          · rw [if_pos (by unfold loT hiT; simp; omega), n_m2]
        · rw [if_pos (by unfold loT hiT; simp; omega), n_m2]
      · rw [if_pos (by unfold loT hiT; simp; omega), n_m2]
end TOLD
