/-! TEXT: the model's loop; both -/
noncomputable def amZ (u : Nat → Nat → Int) (n : Nat) (z : St) : Nat → St
  | 0 => z
  | k + 1 => maZ (amZ u n z k) (n + k) (fun w => u w k)
section TEXT5
variable {z z1 z2 : St} {b b' : Ta} {p k n : Nat} {v : Nat → Nat → Int} {y : Sy}
theorem tl_s {F : Nat} {o : Nat} : f_X11_text_32 (F + 1) z o = if 0 ≤ (z.1 o 10) then f_X11_text_70 z o else f_X11_text_39 (f_X11_text_32 F) z o := rfl
theorem tl_bad {F f : Nat} (h : z.1 68 10 = iv (f : Int)) (hf : f ≤ 100) : f_X11_text_32 (F + 1) z 68 = f_X11_text_70 z 68 := by
  have e : (0 : Int32) ≤ z.1 68 10 := by
    rw [h, n_0]
    exact (iv_le (sm_d 0) (sm_k (by omega))).mpr (by omega)
  rw [tl_s, if_pos e]
theorem tl_m (hT : TV b) (hk : ∀ i, i < k → cnT b i) (hn : ¬ cnT b k) : ∀ d i F z, i + d = k → d + 1 < F → MI z b (plT b i) i → MV z b i → ∃ z', ((f_X11_item z 68).bind fun r1 => f_X11_text_32 F r1 68) = f_X11_text_70 z' 68 ∧ (rsT b k = -1 → z'.1 68 10 = iv (-1) ∧ z'.1 68 11 = iv ((k + 1 : Nat) : Int) ∧ MV z' b (k + 1)) ∧ (rsT b k ≠ -1 → z'.1 68 10 = iv (rsT b k) ∧ 0 ≤ rsT b k ∧ rsT b k ≤ 60) ∧ FM z z'
  | _, _, 0, _, _, h, _, _ => absurd h (Nat.not_lt_zero _)
  | _, _, 1, _, _, h, _, _ => by omega
  | d, i, F + 2, z, e, hF, hI, hV => by
    have k8 := plT_8 hT hk
    have h60 := hT.1
    have ki : ∀ j, j < i → cnT b j := fun j hj => hk j (by omega)
    have pb := plT_b i ki
    obtain ⟨z1, q1, q2, q3, q4, q5⟩ := itm_of hT hI (by omega) pb.2
    rw [q1, Option.bind_some]
    by_cases ho : itOK b (plT b i)
    · obtain ⟨r1, r2⟩ := q2 ho
      have l := it_len ho
      have hV1 : MV z1 b (i + 1) := fun j hj w hw => by
        by_cases g : j = i
        · subst g
          exact r2 w hw
        · rw [q5 _ (by omega)]
          exact hV j (by omega) w hw
      have st : f_X11_text_32 (F + 2) z1 68 = if t3P b (plT b i) = b.1 then f_X11_text_70 z1 68 else f_X11_text_50 (f_X11_text_32 (F + 1)) z1 68 := by
        have e0 : ¬ (0 : Int32) ≤ z1.1 68 10 := by
          rw [r1.2.2.1]
          decide
        rw [tl_s, if_neg e0]
        unfold f_X11_text_39
        rw [r1.1, r1.2.1]
        simp only [iv_le (sm_k (show b.1 < 2147483648 by omega)) (sm_k (show t3P b (plT b i) < 2147483648 by omega))]
        by_cases g : t3P b (plT b i) = b.1
        · rw [if_pos (by omega), if_pos g]
        · rw [if_neg (by omega), if_neg g]
      rw [st]
      by_cases g : t3P b (plT b i) = b.1
      · have ek : i = k := by
          by_cases c : i < k
          · exact absurd g (hk i c).2.1
          · omega
        subst ek
        have er : rsT b i = -1 := by
          unfold rsT
          rw [if_pos ho, if_pos g]
        rw [if_pos g]
        exact ⟨z1, rfl, fun _ => ⟨r1.2.2.1, r1.2.2.2.1, hV1⟩, fun e => absurd er e, q4⟩
      · rw [if_neg g]
        unfold f_X11_text_50
        rw [show (59 : Int32) = iv 59 by decide, tk_m hT r1 l.2 (c := 59) (by decide), Option.bind_some]
        by_cases c : byT b (t3P b (plT b i)) = 59
        · rw [if_pos c]
          have hI2 : MI (zI z1 68 8 (iv ((t3P b (plT b i) + 1 : Nat) : Int))) b (plT b (i + 1)) (i + 1) := MI_8 r1
          have e0 : ¬ (0 : Int32) ≤ (zI z1 68 8 (iv ((t3P b (plT b i) + 1 : Nat) : Int))).1 68 10 := by
            rw [hI2.2.2.1]
            decide
          rw [if_neg e0]
          unfold f_X11_text_63
          have ik : i < k := by
            by_cases w : i < k
            · exact w
            · have : i = k := by omega
              subst this
              exact absurd ⟨ho, g, c⟩ hn
          obtain ⟨z', s1, s2, s3, s4⟩ := tl_m hT hk hn (d - 1) (i + 1) (F + 1) _ (by omega) (by omega) hI2 (fun j hj w hw => by rw [zI_n (by decide)]; exact hV1 j hj w hw)
          exact ⟨z', s1, s2, s3, (q4.trans FM_8).trans s4⟩
        · have ek : i = k := by
            by_cases w : i < k
            · exact absurd (hk i w).2.2 c
            · omega
          subst ek
          have er : rsT b i = (t3P b (plT b i) : Int) := by
            unfold rsT
            rw [if_pos ho, if_neg g]
          rw [if_neg c]
          have e10 : (zI z1 68 10 (iv (t3P b (plT b i) : Int))).1 68 10 = iv (t3P b (plT b i) : Int) := by rw [rI, if_pos ⟨rfl, rfl⟩]
          have e0 : (0 : Int32) ≤ (zI z1 68 10 (iv (t3P b (plT b i) : Int))).1 68 10 := by
            rw [e10, n_0]
            exact (iv_le (sm_d 0) (sm_k (by omega))).mpr (by omega)
          rw [if_pos e0, tl_bad e10 (by omega)]
          exact ⟨_, rfl, fun e => by omega, fun _ => ⟨by rw [e10, er], by omega, by omega⟩, q4.trans FM_10⟩
    · obtain ⟨r1, r2⟩ := q3 ho
      have ek : i = k := by
        by_cases w : i < k
        · exact absurd (hk i w).1 ho
        · omega
      subst ek
      have er : rsT b i = (itF b (plT b i) : Int) := by
        unfold rsT
        rw [if_neg ho]
      rw [tl_bad r1 (by omega)]
      exact ⟨z1, rfl, fun e => by omega, fun _ => ⟨by rw [r1, er], by omega, by omega⟩, q4⟩
/-- as far as the reading goes -/
theorem tr_m (hT : TV b) (hC : MT z b) (hk : ∀ i, i < k → cnT b i) (hn : ¬ cnT b k) : ∃ z', f_X11_text z 68 = f_X11_text_70 z' 68 ∧ (rsT b k = -1 → z'.1 68 10 = iv (-1) ∧ z'.1 68 11 = iv ((k + 1 : Nat) : Int) ∧ MV z' b (k + 1)) ∧ (rsT b k ≠ -1 → z'.1 68 10 = iv (rsT b k) ∧ 0 ≤ rsT b k ∧ rsT b k ≤ 60) ∧ Fr (fun a => a = 68 ∨ a = 74) z z' ∧ z'.1 68 7 = iv ((0 : Nat) : Int) ∧ ∀ q, k68 q → q ≠ 7 → z'.1 68 q = z.1 68 q := by
  obtain ⟨zz, hzz⟩ : ∃ zz, zz = zI (zI (zI (zI (zI z 68 9 (z.1 68 7)) 68 7 0) 68 8 0) 68 10 (-1)) 68 11 0 := ⟨_, rfl⟩
  have hI : MI zz b (plT b 0) 0 := by
    refine ⟨?_, ?_, ?_, ?_, fun j hj => ?_⟩
    · rw [hzz]
      simp only [rI, reduceIte, Nat.reduceEqDiff, and_self, and_false, true_and, false_and]
      rfl
    · rw [hzz]
      simp only [rI, reduceIte, Nat.reduceEqDiff, and_self, and_false, true_and, false_and]
      exact hC.1
    · rw [hzz]
      simp only [rI, reduceIte, Nat.reduceEqDiff, and_self, and_false, true_and, false_and]
      rfl
    · rw [hzz]
      simp only [rI, reduceIte, Nat.reduceEqDiff, and_self, and_false, true_and, false_and]
      rfl
    · rw [hzz, zI_n (by decide), zI_n (by decide), zI_n (by decide), zI_n (by decide), zI_n (by decide)]
      exact hC.2 j hj
  have f7 : zz.1 68 7 = iv ((0 : Nat) : Int) := by
    rw [hzz]
    simp only [rI, reduceIte, Nat.reduceEqDiff, and_self, and_false, true_and, false_and]
    rfl
  have fq : ∀ q, k68 q → q ≠ 7 → zz.1 68 q = z.1 68 q := fun q hq h7 => by
    have : q ≠ 8 ∧ q ≠ 9 ∧ q ≠ 10 ∧ q ≠ 11 := by unfold k68 at hq; omega
    rw [hzz, rI, if_neg (by omega), rI, if_neg (by omega), rI, if_neg (by omega), rI, if_neg (by omega), rI, if_neg (by omega)]
  have ff : Fr (fun a => a = 68 ∨ a = 74) z zz := by
    rw [hzz]
    exact ((((Fr.refl.zI (Or.inl rfl)).zI (Or.inl rfl)).zI (Or.inl rfl)).zI (Or.inl rfl)).zI (Or.inl rfl)
  obtain ⟨z', s1, s2, s3, s4, s5⟩ := tl_m hT hk hn k 0 FU zz (by omega) (FU_8 (by have := plT_8 hT hk; omega)) hI (fun j hj => absurd hj (Nat.not_lt_zero _))
  refine ⟨z', ?_, s2, s3, ff.trans s4, by rw [s5 7 (by decide) (by decide) (by decide), f7], fun q hq h7 => by rw [s5 q (by unfold k68 at hq; omega) (by unfold k68 at hq; omega) (by unfold k68 at hq; omega), fq q hq h7]⟩
  unfold f_X11_text f_X11_text_0
  rw [← hzz]
  exact s1
theorem amZ_fr {u : Nat → Nat → Int} : ∀ k, Fr (fun a => 68 ≤ a ∧ a ≤ 72) z (amZ u n z k)
  | 0 => Fr.refl
  | k + 1 => (amZ_fr k).trans maZ_fr
theorem amZ_68 {u : Nat → Nat → Int} : ∀ k q, q ≠ 5 → (amZ u n z k).1 68 q = z.1 68 q
  | 0, _, _ => rfl
  | k + 1, q, h => by
    show (maZ (amZ u n z k) (n + k) (fun w => u w k)).1 68 q = _
    rw [maZ_68 q h, amZ_68 k q h]
theorem amZ_MJ {u : Nat → Nat → Int} (hJ : MJ z n v) : ∀ k, n + k ≤ 8 → MJ (amZ u n z k) (n + k) (vB v n u)
  | 0, _ => ⟨hJ.1, hJ.2.1, fun j hj => by
    have hj : j < n := hj
    show z.1 69 j = _ ∧ z.1 70 j = _ ∧ z.1 71 j = _ ∧ z.1 72 j = _
    unfold vB
    rw [if_pos hj, if_pos hj, if_pos hj, if_pos hj]
    exact hJ.2.2 j hj⟩
  | k + 1, h => by
    have ih := amZ_MJ (u := u) hJ k (by omega)
    have a := (ma_of ih (by omega) (x := fun w => u w k)).2
    rw [vB_A] at a
    exact a
theorem tx_s {F : Nat} {o : Nat} {x : Int32} : f_X11_text_104 (F + 1) z o x = if (z.1 o 11) ≤ x then f_X11_text_160 z o else f_X11_text_112 (f_X11_text_104 F) z o x := rfl
theorem am_of {m : Nat} (hJ : MJ z n v) (h11 : z.1 68 11 = iv (m : Int)) (hV : MV z b m) (hm : n + m ≤ 8) : f_X11_text_102 z 68 = f_X11_text_160 (amZ (itV b) n z m) 68 := by
  unfold f_X11_text_102
  have k11 : ∀ k, (amZ (itV b) n z k).1 68 11 = iv (m : Int) := fun k => by rw [amZ_68 k 11 (by decide), h11]
  refine loop_up (n := m) (fun F k b' => f_X11_text_104 F b' 68 (iv (k : Int))) (amZ (itV b) n z) (fun F => ?_) (fun F k hk => ?_) m 0 FU (by omega) (FU_8 (by omega))
  · show f_X11_text_104 _ _ _ _ = _
    rw [tx_s, k11, if_pos sz_t]
  · show f_X11_text_104 _ _ _ _ = f_X11_text_104 F (maZ (amZ (itV b) n z k) (n + k) (fun w => itV b w k)) _ _
    rw [tx_s, k11, if_neg (sz_f hk (by omega))]
    unfold f_X11_text_112
    have e0 : (4 : Int32) * iv (k : Int) = iv ((4 * k : Nat) : Int) := by
      rw [n_4, iv_mul]
      congr 1
    have e1 : iv ((4 * k : Nat) : Int) + 1 = iv ((4 * k + 1 : Nat) : Int) := iv_s _
    have e2 : iv ((4 * k : Nat) : Int) + 2 = iv ((4 * k + 2 : Nat) : Int) := by
      rw [n_2, iv_add]
      rfl
    have e3 : iv ((4 * k : Nat) : Int) + 3 = iv ((4 * k + 3 : Nat) : Int) := by
      rw [n_3, iv_add]
      rfl
    have g : ∀ w, w < 4 → (amZ (itV b) n z k).1 74 (4 * k + w) = iv (itV b w k) := fun w hw => by
      rw [(amZ_fr k 74 (by omega)).1]
      exact hV k hk w hw
    have g0 : (amZ (itV b) n z k).1 74 (4 * k) = iv (itV b 0 k) := g 0 (by decide)
    have ad := (ma_of (amZ_MJ (u := itV b) hJ k (by omega)) (by omega) (x := fun w => itV b w k)).1
    have ad' : f_X11_adds (amZ (itV b) n z k) 68 (iv (itV b 0 k)) (iv (itV b 1 k)) (iv (itV b 2 k)) (iv (itV b 3 k)) = some (maZ (amZ (itV b) n z k) (n + k) (fun w => itV b w k)) := ad
    rw [e0, e1, e2, e3, inb_k (show 4 * k < 120 by omega) (by decide), inb_k (show 4 * k + 1 < 120 by omega) (by decide), inb_k (show 4 * k + 2 < 120 by omega) (by decide), inb_k (show 4 * k + 3 < 120 by omega) (by decide), if_pos rfl, if_pos rfl, if_pos rfl, if_pos rfl, r68_12, tn (by omega), tn (by omega), tn (by omega), tn (by omega), g0, g 1 (by decide), g 2 (by decide), g 3 (by decide), ad', Option.bind_some, iv_s]
/-- the class with another tape -/
theorem XC_b (h : XC z y) (hf : Fr (fun a => sC a ∨ a = 19 ∨ a = 20) z z1) (hC : CT z1 b') : XC z1 (yB y b') := by
  obtain ⟨h1, h2, h3, h4, h5, h6, h7⟩ := h
  have g : ∀ a, (a < 13 ∨ (21 ≤ a ∧ a ≤ 24) ∨ (52 ≤ a ∧ a ≤ 54) ∨ 57 ≤ a) → z1.1 a = z.1 a ∧ z1.2 a = z.2 a := fun a e => hf a (by unfold sC; omega)
  refine ⟨JD_fr (by decide) h1 (fun a e1 e2 => (g a (by omega)).1), LD_fr h2 (fun a ha => ?_), CKe_fr h3 (by rw [(g 0 (by omega)).1]) (fun a e1 e2 => (g a (by omega)).1), hC, CB_fr h5 (g 57 (by omega)).1 (g 58 (by omega)).1, CS_fr h6 (fun a e1 e2 => g a (by omega)), CL_fr h7 (g 0 (by omega)).1 (fun a e1 e2 => (g a (by omega)).1)⟩
  have := own_rng (o := 21) (Or.inr (by decide)) ha
  exact (g a (by omega)).1
/-- .. and the model -/
theorem XM_b (h : XM z1 y) (f2 : Fr (fun a => a = 68 ∨ a = 73 ∨ sM a) z1 z2) (h68 : ∀ k, k68 k → k ≠ 7 → z2.1 68 k = z1.1 68 k) (hM : MT z2 b') : XM z2 (yB y b') := by
  obtain ⟨h1, h2, h3, h4, h5⟩ := h
  have g : ∀ a, a ≠ 68 → a ≠ 73 → ¬ sM a → z2.1 a = z1.1 a ∧ z2.2 a = z1.2 a := fun a e1 e2 e3 => f2 a (fun x => by
    rcases x with x | x | x
    · exact e1 x
    · exact e2 x
    · exact e3 x)
  exact ⟨MJ_fr h1 (h68 5 (Or.inl rfl) (by decide)) (fun a e1 e2 => (g a (by omega) (by omega) (by unfold sM; omega)).1), MKe_fr h2 (h68 53 (by unfold k68; omega) (by decide)) (g 95 (by decide) (by decide) (by unfold sM; omega)).1, hM, MB_fr h4 (fun k e1 e2 => h68 k (by unfold k68; omega) (by omega)) (g 94 (by decide) (by decide) (by unfold sM; omega)).1, MS_fr h5 (fun a e1 e2 => g a (by omega) (by omega) (by unfold sM; omega))⟩
theorem nuV_r {w : Int} (h : nuV b w p ≠ -1) : loT w ≤ nuV b w p ∧ nuV b w p ≤ hiT w := by
  unfold nuV at h ⊢
  by_cases g1 : dgT (byT b p) = -1
  · rw [if_pos g1] at h
    exact absurd rfl h
  · rw [if_neg g1] at h ⊢
    by_cases g2 : loT w ≤ nuN b p ∧ nuN b p ≤ hiT w
    · rw [if_pos g2]
      exact g2
    · rw [if_neg g2] at h
      exact absurd rfl h
theorem JV_it {m : Nat} (hV : JV n v) (h : ∀ i, i < m → itOK b (plT b i)) : JV (n + m) (vB v n (itV b)) := fun j hj => by
  unfold vB
  by_cases e : j < n
  · rw [if_pos e, if_pos e, if_pos e, if_pos e]
    exact hV j e
  · rw [if_neg e, if_neg e, if_neg e, if_neg e]
    obtain ⟨h1, h2, h3, h4, h5, h6⟩ := h (j - n) (by omega)
    have kb := klT_b (byT b (plT b (j - n)))
    exact ⟨⟨by show 0 ≤ klT _; omega, kb.2⟩, nuV_r h2, nuV_r h4, nuV_r h6⟩
theorem s_text (h : INV z y) : Both (f_X10_text z 0) (fun z => f_X11_text z 68) := by
  have hT := h.2.2.2.2.1
  obtain ⟨k, hk, hn⟩ := ends hT
  have k8 := plT_8 hT hk
  have hC := h.1.2.2.2.1
  have hJ := h.1.1
  have h8 := hJ.2.1
  obtain ⟨zc, a1, a2, a3⟩ := rr_c hT hC hk hn
  obtain ⟨b0, hb0⟩ : ∃ b0 : Ta, b0 = (0, fun _ => 0) := ⟨_, rfl⟩
  have b01 : b0.1 = 0 := by rw [hb0]
  have hT0 : TV b0 := ⟨by rw [b01]; decide, fun j hj => by rw [b01] at hj; exact absurd hj (Nat.not_lt_zero _)⟩
  obtain ⟨zd, hzd⟩ : ∃ zd, zd = zI zc 19 1 0 := ⟨_, rfl⟩
  have fd : Fr (fun a => a = 19 ∨ (13 ≤ a ∧ a ≤ 18)) z zd := by
    rw [hzd]
    exact a3.zI (Or.inl rfl)
  have CTd : CT zd b0 := ⟨by rw [hzd, rI, if_pos ⟨rfl, rfl⟩, b01]; rfl, fun j hj => by rw [b01] at hj; exact absurd hj (Nat.not_lt_zero _)⟩
  have cd : XC zd (yB y b0) := XC_b h.1 (fd.mono (fun a e => by unfold sC; omega)) CTd
  have cl : f_X10_text z 0 = if rsT y.2.2.2.1 k = -1 then f_X10_text_29 zd 0 else some (zd, iv (-100 - rsT y.2.2.2.1 k)) := by
    have sr : sm (rsT y.2.2.2.1 k) := by
      unfold rsT
      have hp := (plT_b k hk).2
      have := hT.1
      by_cases ho : itOK y.2.2.2.1 (plT y.2.2.2.1 k)
      · have := it_len ho
        rw [if_pos ho]
        split
        · exact ⟨by omega, by omega⟩
        · exact ⟨by omega, by omega⟩
      · have l : itF y.2.2.2.1 (plT y.2.2.2.1 k) < 2147483648 := by
          obtain ⟨z', q1, q2, q3, q4⟩ := tr_m (z := z) hT h.2.1.2.2.1 hk hn
          have er : rsT y.2.2.2.1 k = (itF y.2.2.2.1 (plT y.2.2.2.1 k) : Int) := by
            unfold rsT
            rw [if_neg ho]
          have := (q3 (by omega)).2.2
          omega
        rw [if_neg ho]
        exact sm_k l
    unfold f_X10_text f_X10_text_0
    rw [r0_3, r0_2, a1, Option.bind_some]
    unfold f_X8_clear f_X8_clear_0
    rw [Option.bind_some]
    unfold f_X10_text_24
    rw [← hzd, n_m1, show (-100 : Int32) = iv (-100) by decide, iv_sub]
    simp only [iv_eqk sr (-1)]
  have hM : XM z y := h.2.1
  -- a state of the class, then the model's reading from there
  have md : ∀ zx, XM zx y → ∃ z', f_X11_text zx 68 = f_X11_text_70 z' 68 ∧ (rsT y.2.2.2.1 k = -1 → z'.1 68 10 = iv (-1) ∧ z'.1 68 11 = iv ((k + 1 : Nat) : Int) ∧ MV z' y.2.2.2.1 (k + 1)) ∧ (rsT y.2.2.2.1 k ≠ -1 → z'.1 68 10 = iv (rsT y.2.2.2.1 k) ∧ 0 ≤ rsT y.2.2.2.1 k ∧ rsT y.2.2.2.1 k ≤ 60) ∧ Fr (fun a => 68 ≤ a) zx z' ∧ XM z' (yB y b0) := fun zx hx => by
    obtain ⟨z', q1, q2, q3, q4, q5, q6⟩ := tr_m hT hx.2.2.1 hk hn
    refine ⟨z', q1, q2, q3, q4.mono (fun a e => by omega), XM_b hx (q4.mono (fun a e => by unfold sM; omega)) q6 ⟨by rw [q5, b01], fun j hj => by rw [b01] at hj; exact absurd hj (Nat.not_lt_zero _)⟩⟩
  have XV0 : XV (yB y b0) := ⟨h.2.2.1, h.2.2.2.1, hT0, h.2.2.2.2.2.1, h.2.2.2.2.2.2⟩
  by_cases gr : rsT y.2.2.2.1 k = -1
  · have ok : ∀ i, i < k + 1 → itOK y.2.2.2.1 (plT y.2.2.2.1 i) := fun i hi => by
      by_cases e : i < k
      · exact (hk i e).1
      · have : i = k := by omega
        subst this
        refine Classical.byContradiction fun ho => ?_
        unfold rsT at gr
        rw [if_neg ho] at gr
        omega
    have hU : JD zd 13 (k + 1) (itV y.2.2.2.1) := by
      rw [hzd]
      exact JD_fr (by decide) (a2 gr) (fun a e1 e2 => by rw [zI_n (by omega)])
    have hJd : JD zd 1 y.1 y.2.1 := JD_fr (by decide) hJ (fun a e1 e2 => (fd a (by omega)).1)
    rw [if_pos gr] at cl
    have k7 := hU.2.1
    have rm : f_X2_hasRoom zd 1 (iv ((k + 1 : Nat) : Int)) = some (zd, ob (y.1 + (k + 1) ≤ 8)) := hm_c hJd.1 h8 (by omega)
    by_cases g8 : y.1 + (k + 1) ≤ 8
    · have hV := JV_it (b := y.2.2.2.1) h.2.2.1 ok
      have c1 := aa_of hJd hU g8
      obtain ⟨c3, c4, c5, c6⟩ := ta_XC cd (aaZ_fr (z := zd) (n := y.1) (u := itV y.2.2.2.1) (k + 1)) (aaZ_JD hJd (k + 1) g8) hV
      obtain ⟨zt, hzt⟩ : ∃ zt, zt = taZ (vB y.2.1 y.1 (itV y.2.2.2.1)) (y.1 + (k + 1)) (aaZ (itV y.2.2.2.1) y.1 zd (k + 1)) := ⟨_, rfl⟩
      rw [← hzt] at c3 c4 c5 c6
      have f5 : Fr (fun a => a < 68) z zt := (fd.mono (fun a e => by omega)).trans c5
      obtain ⟨z', m1, m2, m3, m4, m5⟩ := md zt (XM_c hM f5)
      obtain ⟨n10, n11, n74⟩ := m2 gr
      have hMJ : MJ z' y.1 y.2.1 := m5.1
      have ad := am_of hMJ n11 n74 g8
      obtain ⟨k3, k4, k5, k6⟩ := an_XM m5 (amZ_fr (k + 1)) (amZ_68 (k + 1)) (amZ_MJ (u := itV y.2.2.2.1) hMJ (k + 1) g8)
      refine ⟨zt, anZ (amZ (itV y.2.2.2.1) y.1 z' (k + 1)) 8, iv ((y.1 + (k + 1) : Nat) : Int), ?_, ?_, yN (yB y b0) (y.1 + (k + 1)) (vB y.2.1 y.1 (itV y.2.2.2.1)), XC_m c4 (m4.trans k5), k4, hV, h.2.2.2.1, hT0, ⟨TW_0, by show (0 : Int) ≤ 999; decide⟩, h.2.2.2.2.2.2⟩
      · rw [cl]
        unfold f_X10_text_29 f_X10_text_49
        rw [r0_0, r0_2, hU.1, rm, Option.bind_some]
        simp only [ob_0]
        rw [if_neg (fun e => e g8), c1, Option.bind_some, c3, Option.bind_some, c6]
      · show f_X11_text zt 68 = _
        rw [m1]
        unfold f_X11_text_70 f_X11_text_85
        rw [n10, if_pos (show iv (-1) < 0 by decide), hMJ.1, n11, iv_add, n_8, if_pos ((iv_lek (show sm ((y.1 : Int) + ((k + 1 : Nat) : Int)) from ⟨by omega, by omega⟩) 8).mpr (by omega)), ad]
        unfold f_X11_text_160
        rw [k3, Option.bind_some, k6]
    · obtain ⟨z', m1, m2, m3, m4, m5⟩ := md zd (XM_c hM (fd.mono (fun a e => by omega)))
      obtain ⟨n10, n11, n74⟩ := m2 gr
      have hMJ : MJ z' y.1 y.2.1 := m5.1
      refine ⟨zd, z', iv (-4), ?_, ?_, yB y b0, XC_m cd m4, m5, XV0⟩
      · rw [cl]
        unfold f_X10_text_29 f_X10_text_46
        rw [r0_0, r0_2, hU.1, rm, Option.bind_some]
        simp only [ob_0]
        rw [if_pos g8, n_m4]
      · show f_X11_text zd 68 = _
        rw [m1]
        unfold f_X11_text_70 f_X11_text_85 f_X11_text_99
        rw [n10, if_pos (show iv (-1) < 0 by decide), hMJ.1, n11, iv_add, n_8, if_neg (fun e => by have := (iv_lek (show sm ((y.1 : Int) + ((k + 1 : Nat) : Int)) from ⟨by omega, by omega⟩) 8).mp e; omega), n_m4]
  · rw [if_neg gr] at cl
    obtain ⟨z', m1, m2, m3, m4, m5⟩ := md zd (XM_c hM (fd.mono (fun a e => by omega)))
    obtain ⟨n10, n0, n60⟩ := m3 gr
    refine ⟨zd, z', iv (-100 - rsT y.2.2.2.1 k), cl, ?_, yB y b0, XC_m cd m4, m5, XV0⟩
    show f_X11_text zd 68 = _
    rw [m1]
    unfold f_X11_text_70 f_X11_text_77
    rw [n10, n_0, if_neg (fun e => by have := (iv_ltk (show sm (rsT y.2.2.2.1 k) from ⟨by omega, by omega⟩) 0).mp e; omega), show (-100 : Int32) = iv (-100) by decide, iv_sub]
end TEXT5
