/-! P36: text, for a tape that holds one item, or a faulty one, or nothing -/
def b00 : Ta := (0, fun _ => 0)
section TXT
variable {z z' z1 : St} {y : Sy} {n : Nat} {v : Nat → Nat → Int} {b : Ta} {p : Nat}
theorem p_text0 (h : IK z y) (hn : ¬ cnT y.2.2.2.1 0) (sr : sm (rsT y.2.2.2.1 0)) : ∃ zd, IK zd (yB y b00) ∧ f_X10_text z 0 = (if rsT y.2.2.2.1 0 = -1 then f_X10_text_29 zd 0 else some (zd, iv (-100 - rsT y.2.2.2.1 0))) ∧ (rsT y.2.2.2.1 0 = -1 → JD zd 13 1 (itV y.2.2.2.1)) := by
  have hT := h.2.2.2.1
  have hC := h.1.2.2.2.1
  obtain ⟨zc, a1, a2, a3⟩ := rr_c hT hC (k := 0) (fun i hi => absurd hi (Nat.not_lt_zero _)) hn
  have hT0 : TV b00 := ⟨by decide, fun j hj => absurd hj (Nat.not_lt_zero _)⟩
  obtain ⟨zd, hzd⟩ : ∃ zd, zd = zI zc 19 1 0 := ⟨_, rfl⟩
  have fd : Fr (fun a => a = 19 ∨ (13 ≤ a ∧ a ≤ 18)) z zd := by
    rw [hzd]
    exact a3.zI (Or.inl rfl)
  have CTd : CT zd b00 := ⟨by rw [hzd, rI, if_pos ⟨rfl, rfl⟩]; rfl, fun j hj => absurd hj (Nat.not_lt_zero _)⟩
  have cd : XC zd (yB y b00) := XC_b h.1 (fd.mono (fun a e => by unfold sC; omega)) CTd
  refine ⟨zd, ⟨cd, h.2.1, h.2.2.1, hT0, h.2.2.2.2⟩, ?_, fun gr => ?_⟩
  · unfold f_X10_text f_X10_text_0
    rw [r0_3, r0_2, a1, Option.bind_some]
    unfold f_X8_clear f_X8_clear_0
    rw [Option.bind_some]
    unfold f_X10_text_24
    rw [← hzd, n_m1, show (-100 : Int32) = iv (-100) by decide, iv_sub]
    simp only [iv_eqk sr (-1)]
  · rw [hzd]
    exact JD_fr (by decide) (a2 gr) (fun a e1 e2 => by rw [zI_n (by omega)])
theorem p_textF (h : IK z y) (hn : ¬ cnT y.2.2.2.1 0) (sr : sm (rsT y.2.2.2.1 0)) (gr : rsT y.2.2.2.1 0 ≠ -1) : ∃ zd, f_X10_text z 0 = some (zd, iv (-100 - rsT y.2.2.2.1 0)) ∧ IK zd (yB y b00) := by
  obtain ⟨zd, h1, h2, -⟩ := p_text0 h hn sr
  rw [if_neg gr] at h2
  exact ⟨zd, h2, h1⟩
theorem p_text4 (h : IK z y) (hn : ¬ cnT y.2.2.2.1 0) (gr : rsT y.2.2.2.1 0 = -1) (g8 : ¬ y.1 + 1 ≤ 8) : ∃ zd, f_X10_text z 0 = some (zd, iv (-4)) ∧ IK zd (yB y b00) := by
  obtain ⟨zd, h1, h2, h3⟩ := p_text0 h hn (by rw [gr]; exact sm_d (-1))
  rw [if_pos gr] at h2
  have hU := h3 gr
  have rm : f_X2_hasRoom zd 1 (iv ((1 : Nat) : Int)) = some (zd, ob (y.1 + 1 ≤ 8)) := hm_c h1.1.1.1 h.1.1.2.1 (by omega)
  refine ⟨zd, ?_, h1⟩
  rw [h2]
  unfold f_X10_text_29 f_X10_text_46
  rw [r0_0, r0_2, hU.1, rm, Option.bind_some]
  simp only [ob_0]
  rw [if_pos g8, n_m4]
theorem p_textA (h : IK z y) (hn : ¬ cnT y.2.2.2.1 0) (gr : rsT y.2.2.2.1 0 = -1) (ho : itOK y.2.2.2.1 0) (g8 : y.1 + 1 ≤ 8) : ∃ zd, f_X10_text z 0 = some (zd, iv ((y.1 + 1 : Nat) : Int)) ∧ IK zd (yN (yB y b00) (y.1 + 1) (vB y.2.1 y.1 (itV y.2.2.2.1))) := by
  obtain ⟨zd, h1, h2, h3⟩ := p_text0 h hn (by rw [gr]; exact sm_d (-1))
  rw [if_pos gr] at h2
  have hU := h3 gr
  have hJd : JD zd 1 y.1 y.2.1 := h1.1.1
  have rm : f_X2_hasRoom zd 1 (iv ((1 : Nat) : Int)) = some (zd, ob (y.1 + 1 ≤ 8)) := hm_c h1.1.1.1 h.1.1.2.1 (by omega)
  have ok : ∀ i, i < 1 → itOK y.2.2.2.1 (plT y.2.2.2.1 i) := fun i hi => by
    have : i = 0 := by omega
    subst this
    exact ho
  have hV := JV_it (b := y.2.2.2.1) h.2.1 ok
  have c1 := aa_of hJd hU g8
  obtain ⟨c3, c4, c5, c6⟩ := ta_XC h1.1 (aaZ_fr (z := zd) (n := y.1) (u := itV y.2.2.2.1) 1) (aaZ_JD hJd 1 g8) hV
  refine ⟨_, ?_, IK_n h1 hV c4⟩
  rw [h2]
  unfold f_X10_text_29 f_X10_text_49
  rw [r0_0, r0_2, hU.1, rm, Option.bind_some]
  simp only [ob_0]
  rw [if_neg (fun e => e g8), c1, Option.bind_some, c3, Option.bind_some, c6]
/-! what one item of nine bytes says -/
theorem dgT_d {d : Int} (h : 0 ≤ d ∧ d ≤ 9) : dgT (48 + d) = d := by
  unfold dgT
  rw [if_pos (by omega)]
  omega
theorem nu_two {d1 d2 w : Int} (h1 : byT b p = 48 + d1) (h2 : byT b (p + 1) = 48 + d2) (b1 : 0 ≤ d1 ∧ d1 ≤ 9) (b2 : 0 ≤ d2 ∧ d2 ≤ 9) (hw : loT w ≤ d1 * 10 + d2 ∧ d1 * 10 + d2 ≤ hiT w) : nuV b w p = d1 * 10 + d2 ∧ nuP b w p = p + 2 := by
  have e1 : nuV b w p = d1 * 10 + d2 := by
    unfold nuV nuN
    rw [h1, h2, dgT_d b1, dgT_d b2, if_neg (show ¬ d1 = -1 by omega), if_neg (show ¬ d2 = -1 by omega), if_pos hw]
  refine ⟨e1, ?_⟩
  unfold nuP
  rw [e1, h2, dgT_d b2, if_neg (show ¬ d1 * 10 + d2 = -1 by omega), if_neg (show ¬ d2 = -1 by omega)]
theorem it_9 {kc kd d1 d2 d3 d4 d5 d6 : Int} (hk : klT kc = kd) (k0 : 0 ≤ kd) (hb : b.1 = 9) (e0 : b.2 0 = kc) (e1 : b.2 1 = 48 + d1) (e2 : b.2 2 = 48 + d2) (e3 : b.2 3 = 44) (e4 : b.2 4 = 48 + d3) (e5 : b.2 5 = 48 + d4) (e6 : b.2 6 = 44) (e7 : b.2 7 = 48 + d5) (e8 : b.2 8 = 48 + d6)
    (b1 : 0 ≤ d1 ∧ d1 ≤ 9) (b2 : 0 ≤ d2 ∧ d2 ≤ 9) (b3 : 0 ≤ d3 ∧ d3 ≤ 9) (b4 : 0 ≤ d4 ∧ d4 ≤ 9) (b5 : 0 ≤ d5 ∧ d5 ≤ 9) (b6 : 0 ≤ d6 ∧ d6 ≤ 9) (r1 : d1 * 10 + d2 ≤ 60) (r2 : 1 ≤ d3 * 10 + d4 ∧ d3 * 10 + d4 ≤ 20) (r3 : d5 * 10 + d6 ≤ 60) : itOK b 0 ∧ ¬ cnT b 0 ∧ rsT b 0 = -1 ∧ itV b 0 0 = kd ∧ itV b 1 0 = d1 * 10 + d2 ∧ itV b 2 0 = d3 * 10 + d4 ∧ itV b 3 0 = d5 * 10 + d6 := by
  have by_ : ∀ p, p < 9 → byT b p = b.2 p := fun p hp => by
    unfold byT
    rw [if_pos (by omega)]
  obtain ⟨v1, p1⟩ := nu_two (b := b) (p := 1) (w := 1) (by rw [by_ 1 (by omega), e1]) (by rw [by_ 2 (by omega), e2]) b1 b2 (by unfold loT hiT; simp; omega)
  have t1 : t1P b 0 = 3 := p1
  obtain ⟨v2, p2⟩ := nu_two (b := b) (p := 4) (w := 2) (by rw [by_ 4 (by omega), e4]) (by rw [by_ 5 (by omega), e5]) b3 b4 (by unfold loT hiT; simp; omega)
  have t2 : t2P b 0 = 6 := by
    unfold t2P
    rw [t1]
    exact p2
  obtain ⟨v3, p3⟩ := nu_two (b := b) (p := 7) (w := 3) (by rw [by_ 7 (by omega), e7]) (by rw [by_ 8 (by omega), e8]) b5 b6 (by unfold loT hiT; simp; omega)
  have t3 : t3P b 0 = 9 := by
    unfold t3P
    rw [t2]
    exact p3
  have kk : klT (byT b 0) = kd := by rw [by_ 0 (by omega), e0, hk]
  have v1' : nuV b 1 (0 + 1) = d1 * 10 + d2 := v1
  have ok : itOK b 0 := by
    refine ⟨by rw [kk]; omega, by rw [v1']; omega, by rw [t1, by_ 3 (by omega), e3], by rw [t1, v2]; omega, by rw [t2, by_ 6 (by omega), e6], by rw [t2, v3]; omega⟩
  have pl : plT b 0 = 0 := rfl
  refine ⟨ok, fun c => c.2.1 (by rw [pl, t3, hb]), ?_, ?_, ?_, ?_, ?_⟩
  · unfold rsT
    rw [pl, if_pos ok, t3, hb, if_pos rfl]
  · unfold itV itX
    rw [if_pos rfl, pl, kk]
  · unfold itV itX
    rw [if_neg (by decide), if_pos rfl, pl, v1']
  · unfold itV itX
    rw [if_neg (by decide), if_neg (by decide), if_pos rfl, pl, t1, v2]
  · unfold itV itX
    rw [if_neg (by decide), if_neg (by decide), if_neg (by decide), pl, t2, v3]
theorem it_f1 {kc : Int} (hk : klT kc ≠ -1) (hb : b.1 = 5) (e0 : b.2 0 = kc) (e1 : b.2 1 = 57) (e2 : b.2 2 = 57) : ¬ cnT b 0 ∧ rsT b 0 = 1 := by
  have by_ : ∀ p, p < 5 → byT b p = b.2 p := fun p hp => by
    unfold byT
    rw [if_pos (by omega)]
  have nv : nuV b 1 (0 + 1) = -1 := by
    unfold nuV nuN
    rw [show byT b (0 + 1) = 57 by rw [by_ _ (by omega), e1], show byT b (0 + 1 + 1) = 57 by rw [by_ _ (by omega), e2]]
    decide
  have no : ¬ itOK b 0 := fun o => o.2.1 nv
  have pl : plT b 0 = 0 := rfl
  refine ⟨fun c => no c.1, ?_⟩
  unfold rsT
  rw [pl, if_neg no]
  unfold itF
  rw [by_ 0 (by omega), e0, if_neg hk, if_pos nv]
  rfl
theorem it_f3 {kc : Int} (hk : klT kc ≠ -1) (hb : b.1 = 4) (e0 : b.2 0 = kc) (e1 : b.2 1 = 53) (e2 : b.2 2 = 44) (e3 : b.2 3 = 48) : ¬ cnT b 0 ∧ rsT b 0 = 3 := by
  have by_ : ∀ p, p < 4 → byT b p = b.2 p := fun p hp => by
    unfold byT
    rw [if_pos (by omega)]
  have b1 : byT b 1 = 53 := by rw [by_ _ (by omega), e1]
  have b2 : byT b 2 = 44 := by rw [by_ _ (by omega), e2]
  have b3 : byT b 3 = 48 := by rw [by_ _ (by omega), e3]
  have b4 : byT b 4 = -1 := by
    unfold byT
    rw [if_neg (by omega)]
  have nv : nuV b 1 (0 + 1) = 5 := by
    unfold nuV nuN
    rw [show byT b (0 + 1) = 53 from b1, show byT b (0 + 1 + 1) = 44 from b2]
    decide
  have np : t1P b 0 = 2 := by
    unfold t1P nuP
    rw [nv, show byT b (0 + 1 + 1) = 44 from b2]
    decide
  have nv2 : nuV b 2 (2 + 1) = -1 := by
    unfold nuV nuN
    rw [show byT b (2 + 1) = 48 from b3, show byT b (2 + 1 + 1) = -1 from b4]
    decide
  have no : ¬ itOK b 0 := fun o => o.2.2.2.1 (by rw [np]; exact nv2)
  have pl : plT b 0 = 0 := rfl
  refine ⟨fun c => no c.1, ?_⟩
  unfold rsT
  rw [pl, if_neg no]
  unfold itF
  rw [by_ 0 (by omega), e0, if_neg hk, nv, if_neg (by decide), np, b2, if_neg (fun q => q rfl), nv2, if_pos rfl]
  rfl
theorem it_f0 (hb : b.1 = 0) : ¬ cnT b 0 ∧ rsT b 0 = 0 := by
  have b0 : byT b 0 = -1 := by
    unfold byT
    rw [if_neg (by omega)]
  have nk : klT (byT b 0) = -1 := by
    rw [b0]
    decide
  have no : ¬ itOK b 0 := fun o => o.1 nk
  have pl : plT b 0 = 0 := rfl
  refine ⟨fun c => no c.1, ?_⟩
  unfold rsT
  rw [pl, if_neg no]
  unfold itF
  rw [if_pos nk]
  rfl
end TXT
