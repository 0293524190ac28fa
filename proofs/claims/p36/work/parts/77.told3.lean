/-! TOLD ANEW: drop, image, back -/
section TOLD3
variable {z z1 : St} {y : Sy} {n : Nat} {v : Nat → Nat → Int}
noncomputable def ddZ (v : Nat → Nat → Int) (j n : Nat) (z : St) : St := zI (dmZ v j z (n - 1 - j)) 68 5 (iv ((n - 1 : Nat) : Int))
theorem ddZ_MJ (hJ : MJ z n v) {j : Nat} (hj : j < n) : MJ (ddZ v j n z) (n - 1) (vD v j) := by
  have h8 := hJ.2.1
  refine ⟨?_, by omega, fun b hb => ?_⟩
  · unfold ddZ
    rw [rI, if_pos ⟨rfl, rfl⟩]
  · have e := hJ.2.2 b (by omega)
    unfold ddZ vD
    have d : ∀ a, 69 ≤ a → a ≤ 72 → (dmZ v j z (n - 1 - j)).1 a b = if b < j then z.1 a b else iv (v (a - 69) (b + 1)) := fun a h1 h2 => by
      rw [dmZ_v]
      by_cases q : b < j
      · rw [if_neg (by omega), if_pos q]
      · rw [if_pos (by omega), if_neg q]
    rw [zI_n (by decide), zI_n (by decide), zI_n (by decide), zI_n (by decide), d 69 (by decide) (by decide), d 70 (by decide) (by decide), d 71 (by decide) (by decide), d 72 (by decide) (by decide)]
    by_cases q : b < j
    · simp only [q, if_true]
      exact e
    · simp [q]
theorem ddZ_fr {j : Nat} : Fr (fun a => 68 ≤ a ∧ a ≤ 72) z (ddZ v j n z) := fun a ha => by
  unfold ddZ
  refine ⟨?_, ?_⟩
  · rw [zI_n (by omega)]
    funext b
    rw [dmZ_v, if_neg (by omega)]
  · show (dmZ v j z (n - 1 - j)).2 a = _
    rw [dmZ_2]
theorem ddZ_68 {j : Nat} : ∀ k, k ≠ 5 → (ddZ v j n z).1 68 k = z.1 68 k := fun k hk => by
  unfold ddZ
  rw [rI, if_neg (fun e => hk e.2), dmZ_v, if_neg (by omega)]
theorem dr_of (hJ : MJ z n v) {j : Nat} (hj : j < n) {r : Int32} {zz : St} (hr : ((f_X11_anew (ddZ v j n z) 68).bind fun r1 => some (r1, r1.1 68 5)) = some (zz, r)) : f_X11_drop_15 FU z 68 (iv (j : Int) + 1) = some (zz, r) := by
  have h8 := hJ.2.1
  have hs : ∀ k, (dmZ v j z k).1 68 5 = iv (n : Int) := fun k => by
    rw [dmZ_v, if_neg (by omega)]
    exact hJ.1
  rw [iv_s]
  refine loop_up (n := n - 1 - j) (fun F k b => f_X11_drop_15 F b 68 (iv ((j + 1 + k : Nat) : Int))) (dmZ v j z) (fun F => ?_) (fun F k hk => ?_) (n - 1 - j) 0 FU (by omega) (FU_8 (by omega))
  · show f_X11_drop_15 _ _ _ _ = _
    rw [f_X11_drop_15, hs, if_pos ((iv_le (sm_k (by omega)) (sm_k (by omega))).mpr (by omega))]
    unfold f_X11_drop_85
    rw [hs, n_1, iv_sub, show ((n : Int) - 1) = ((n - 1 : Nat) : Int) by omega]
    exact hr
  · show f_X11_drop_15 _ _ _ _ = f_X11_drop_15 F (zI (zI (zI (zI (dmZ v j z k) 69 (j + k) (iv (v 0 (j + k + 1)))) 70 (j + k) (iv (v 1 (j + k + 1)))) 71 (j + k) (iv (v 2 (j + k + 1)))) 72 (j + k) (iv (v 3 (j + k + 1)))) 68 (iv ((j + 1 + (k + 1) : Nat) : Int))
    rw [f_X11_drop_15, hs, if_neg (fun q => by have := (iv_le (sm_k (by omega)) (sm_k (by omega))).mp q; omega)]
    unfold f_X11_drop_23
    have e := hJ.2.2 (j + k + 1) (by omega)
    have d : ∀ a, 69 ≤ a → a ≤ 72 → (dmZ v j z k).1 a (j + k + 1) = z.1 a (j + k + 1) := fun a h1 h2 => by rw [dmZ_v, if_neg (by omega)]
    have i1 : inb (iv ((j + 1 + k : Nat) : Int)) 8 = true := inb_k (by omega) (by decide)
    have i2 : iv ((j + 1 + k : Nat) : Int) - 1 = iv ((j + k : Nat) : Int) := by
      rw [n_1, iv_sub]
      congr 1
      omega
    have i3 : inb (iv ((j + k : Nat) : Int)) 8 = true := inb_k (by omega) (by decide)
    have i4 : (iv ((j + 1 + k : Nat) : Int)).toNatClampNeg = j + k + 1 := by rw [tn (by omega)]; omega
    have i5 : (iv ((j + k : Nat) : Int)).toNatClampNeg = j + k := tn (by omega)
    have i6 : iv ((j + 1 + k : Nat) : Int) + 1 = iv ((j + 1 + (k + 1) : Nat) : Int) := by
      rw [iv_s]
      rfl
    simp only [i1, i2, i3, i4, i5, i6, if_true, r68_1, r68_2, r68_3, r68_4, rI, Nat.reduceEqDiff, false_and, if_false, d 69 (by decide) (by decide), d 70 (by decide) (by decide), d 71 (by decide) (by decide), d 72 (by decide) (by decide), e]
theorem s_drop (h : INV z y) (a : Int32) : Both (f_X10_drop z 0 a) (fun z => f_X11_drop z 68 a) := by
  obtain ⟨j, sj, rfl⟩ := ex_iv a
  have hJ := h.1.1
  have hM := h.2.1.1
  have h8 := hJ.2.1
  by_cases g : 0 ≤ j ∧ j < y.1
  · obtain ⟨k, rfl⟩ : ∃ k : Nat, j = k := ⟨j.toNat, by omega⟩
    have hk : k < y.1 := by omega
    have hV := JV_D h.2.2.1 hk
    obtain ⟨c3, c4, c5, c6⟩ := ta_XC h.1 (rmZ_fr (v := y.2.1) hk) (rmZ_JD hJ hk) hV
    have hM2 := XM_c h.2.1 c5
    obtain ⟨k3, k4, k5, k6⟩ := an_XM hM2 (ddZ_fr (v := y.2.1) (n := y.1) (j := k)) ddZ_68 (ddZ_MJ hM2.1 hk) (v := vD y.2.1 k)
    refine ⟨taZ (vD y.2.1 k) (y.1 - 1) (rmZ y.2.1 k y.1 z), _, iv ((y.1 - 1 : Nat) : Int), ?_, ?_, _, INV_n h hV c4 c5 k4 k5⟩
    · unfold f_X10_drop f_X10_drop_0 f_X10_drop_14 f_X10_drop_11
      rw [r0_0, ho_of hJ.1 h8 sj, Option.bind_some]
      simp only [ob_0]
      rw [if_neg (fun q => q g), rm_of hJ hk, Option.bind_some, c3, Option.bind_some, c6]
    · show f_X11_drop _ 68 _ = _
      unfold f_X11_drop f_X11_drop_0 f_X11_drop_11
      rw [ij_of hM2.1 sj, Option.bind_some]
      simp only [ob_0]
      rw [if_neg (fun q => q g)]
      refine dr_of hM2.1 hk ?_
      rw [k3, Option.bind_some, k6]
  · refine Both_s h (r := iv (-2)) ?_ ?_
    · unfold f_X10_drop f_X10_drop_0 f_X10_drop_14 f_X10_drop_11
      rw [r0_0, ho_of hJ.1 h8 sj, Option.bind_some]
      simp only [ob_0, g, not_false_eq_true, if_true, n_m2]
    · show f_X11_drop _ 68 _ = _
      unfold f_X11_drop f_X11_drop_0 f_X11_drop_8
      rw [ij_of hM sj, Option.bind_some]
      simp only [ob_0, g, not_false_eq_true, if_true, n_m2]
/-! image -/
noncomputable def imW (v : Nat → Nat → Int) (j : Nat) (z : St) : Nat → St
  | 0 => z
  | w + 1 => zI (imW v j z w) 95 (4 * j + w) (iv (v w j))
noncomputable def imZ (v : Nat → Nat → Int) (z : St) : Nat → St
  | 0 => z
  | j + 1 => imW v j (imZ v z j) 4
theorem imW_v {j : Nat} : ∀ k a b, (imW v j z k).1 a b = if a = 95 ∧ 4 * j ≤ b ∧ b < 4 * j + k then iv (v (b - 4 * j) j) else z.1 a b
  | 0, a, b => by
    rw [if_neg (by omega)]
    rfl
  | k + 1, a, b => by
    show (zI (imW v j z k) 95 (4 * j + k) (iv (v k j))).1 a b = _
    rw [rI, imW_v k a b]
    by_cases e : a = 95 ∧ b = 4 * j + k
    · rw [if_pos e, if_pos (by omega), show b - 4 * j = k by omega]
    · rw [if_neg e]
      by_cases e2 : a = 95 ∧ 4 * j ≤ b ∧ b < 4 * j + k
      · rw [if_pos e2, if_pos (by omega)]
      · rw [if_neg e2, if_neg (by omega)]
theorem imW_2 {j : Nat} : ∀ k, (imW v j z k).2 = z.2
  | 0 => rfl
  | k + 1 => imW_2 k
theorem imZ_v : ∀ k a b, (imZ v z k).1 a b = if a = 95 ∧ b < 4 * k then iv (v (b % 4) (b / 4)) else z.1 a b
  | 0, a, b => by
    rw [if_neg (by omega)]
    rfl
  | k + 1, a, b => by
    show (imW v k (imZ v z k) 4).1 a b = _
    rw [imW_v, imZ_v k a b]
    by_cases e : a = 95 ∧ 4 * k ≤ b ∧ b < 4 * k + 4
    · rw [if_pos e, if_pos (by omega), show b - 4 * k = b % 4 by omega, show k = b / 4 by omega]
    · rw [if_neg e]
      by_cases e2 : a = 95 ∧ b < 4 * k
      · rw [if_pos e2, if_pos (by omega)]
      · rw [if_neg e2, if_neg (by omega)]
theorem imZ_2 : ∀ k, (imZ v z k).2 = z.2
  | 0 => rfl
  | k + 1 => by
    show (imW v k (imZ v z k) 4).2 = _
    rw [imW_2, imZ_2 k]
theorem im_m (hJ : MJ z n v) (hV : JV n v) : f_X11_image z 68 = some (zI (imZ v z n) 68 53 (iv (n : Int)), iv (n : Int)) := by
  have h8 := hJ.2.1
  have hM : ∀ k, MJ (imZ v z k) n v := fun k => MJ_fr hJ (by rw [imZ_v, if_neg (by omega)]) (fun a e1 e2 => by funext b; rw [imZ_v, if_neg (by omega)])
  unfold f_X11_image f_X11_image_0
  refine loop_up (n := n) (fun F k b => f_X11_image_2 F b 68 (iv (k : Int))) (imZ v z) (fun F => ?_) (fun F k hk => ?_) n 0 FU (by omega) (FU_8 (by omega))
  · show f_X11_image_2 _ _ _ _ = _
    rw [f_X11_image_2, (hM n).1, if_pos sz_t]
    unfold f_X11_image_45
    rw [(hM n).1, rI, if_neg (by decide), (hM n).1]
  · show f_X11_image_2 _ _ _ _ = f_X11_image_2 F (imW v k (imZ v z k) 4) 68 (iv ((k + 1 : Nat) : Int))
    rw [f_X11_image_2, (hM k).1, if_neg (sz_f hk (by omega))]
    unfold f_X11_image_10
    have hM2 : ∀ w, MJ (imW v k (imZ v z k) w) n v := fun w => MJ_fr (hM k) (by rw [imW_v, if_neg (by omega)]) (fun a e1 e2 => by funext b; rw [imW_v, if_neg (by omega)])
    refine loop_up (n := 4) (fun F' w b => f_X11_image_12 (f_X11_image_2 F) F' b 68 (iv (k : Int)) (iv (w : Int))) (imW v k (imZ v z k)) (fun F' => ?_) (fun F' w hw => ?_) 4 0 FU (by omega) (FU_8 (by omega))
    · show f_X11_image_12 _ _ _ _ _ _ = _
      rw [f_X11_image_12, if_pos (by decide)]
      unfold f_X11_image_39
      rw [iv_s]
    · show f_X11_image_12 _ _ _ _ _ _ = f_X11_image_12 (f_X11_image_2 F) F' (zI (imW v k (imZ v z k) w) 95 (4 * k + w) (iv (v w k))) 68 (iv (k : Int)) (iv ((w + 1 : Nat) : Int))
      rw [f_X11_image_12, if_neg (fun x => by
        rw [n_4] at x
        have := (iv_kle (sm_k (show w < 2147483648 by omega)) 4).mp x
        omega)]
      unfold f_X11_image_17
      have e : (4 : Int32) * iv (k : Int) + iv (w : Int) = iv ((4 * k + w : Nat) : Int) := by
        rw [n_4, iv_mul, iv_add]
        congr 1
      have ie : itsV v (w : Int) k = v w k := by
        unfold itsV
        rw [if_neg (by omega), if_neg (by omega), if_neg (by omega)]
        rfl
      rw [its_m (hM2 w) hV hk (sm_k (by omega)) (by omega), Option.bind_some, e, inb_k (show 4 * k + w < 32 by omega) (by decide), if_pos rfl, tn (by omega), r68_52, iv_s, ie]
theorem s_image (h : INV z y) : Both (f_X10_image z 0) (fun z => f_X11_image z 68) := by
  have hJ := h.1.1
  have h8 := hJ.2.1
  have b := jb_of (z := z) (o := 7) (u := 1) (by decide) (by decide) (by decide) hJ
  have b2 := jbZ_JD (z := z) (o := 7) (v := y.2.1) (by decide) y.1 h8
  have fb : Fr (fun a => 7 ≤ a ∧ a ≤ 12) z (jbZ y.2.1 z 7 y.1) := (jbZ_fr (by decide) y.1).mono (fun a e => e)
  let z1 : St := zI (jbZ y.2.1 z 7 y.1) 0 14 1
  have f1 : Fr (fun a => (7 ≤ a ∧ a ≤ 12) ∨ a = 0) z z1 := (fb.mono (fun a e => Or.inl e)).zI (Or.inr rfl)
  have f0 : ∀ k, k ≠ 14 → z1.1 0 k = z.1 0 k := fun k hk => by
    show (zI _ 0 14 1).1 0 k = _
    rw [rI, if_neg (fun e => hk e.2), (fb 0 (by decide)).1]
  let yI : Sy := (y.1, y.2.1, (true, y.1, y.2.1), y.2.2.2.1, y.2.2.2.2.1, y.2.2.2.2.2)
  have hC : XC z1 yI := by
    obtain ⟨h1, h2, h3, h4, h5, h6, h7⟩ := h.1
    have g : ∀ a, 0 < a → a < 7 ∨ 12 < a → z1.1 a = z.1 a ∧ z1.2 a = z.2 a := fun a e1 e2 => f1 a (by omega)
    refine ⟨JD_fr (by decide) h1 (fun a e1 e2 => (g a (by omega) (by omega)).1), LD_fr h2 (fun a ha => ?_), ⟨fun _ => ⟨?_, ?_⟩, fun e => absurd e (by show ¬ (true = false); decide)⟩, CT_fr h4 (by rw [(g 19 (by decide) (by decide)).1]) (g 20 (by decide) (by decide)).1, CB_fr h5 (g 57 (by decide) (by decide)).1 (g 58 (by decide) (by decide)).1, CS_fr h6 (fun a e1 e2 => g a (by omega) (by omega)), ?_⟩
    · have := own_rng (o := 21) (Or.inr (by decide)) ha
      exact (g a (by omega) (by omega)).1
    · show (zI _ 0 14 1).1 0 14 = _
      rw [rI, if_pos ⟨rfl, rfl⟩, n_1]
    · exact JD_fr (by decide) b2 (fun a e1 e2 => by
        show (zI _ 0 14 1).1 a = _
        rw [zI_n (by omega)])
    · unfold CL LKN at h7 ⊢
      rw [f0 15 (by decide), f0 16 (by decide), f0 17 (by decide), f0 18 (by decide), (g 52 (by decide) (by decide)).1, (g 53 (by decide) (by decide)).1, (g 54 (by decide) (by decide)).1]
      exact h7
  have hM1 : XM z1 y := XM_c h.2.1 (f1.mono (fun a e => by omega))
  have k1 := im_m hM1.1 h.2.2.1
  have f3 : Fr (fun a => 68 ≤ a) z1 (zI (imZ y.2.1 z1 y.1) 68 53 (iv (y.1 : Int))) := fun a ha => ⟨by
    rw [zI_n (by omega)]
    funext b
    rw [imZ_v, if_neg (by omega)], by
    show (imZ y.2.1 z1 y.1).2 a = _
    rw [imZ_2]⟩
  have hM : XM (zI (imZ y.2.1 z1 y.1) 68 53 (iv (y.1 : Int))) yI := by
    obtain ⟨h1, h2, h3, h4, h5⟩ := hM1
    have g : ∀ a, a ≠ 68 → a ≠ 95 → (zI (imZ y.2.1 z1 y.1) 68 53 (iv (y.1 : Int))).1 a = z1.1 a ∧ (zI (imZ y.2.1 z1 y.1) 68 53 (iv (y.1 : Int))).2 a = z1.2 a := fun a e1 e2 => ⟨by
      rw [zI_n e1]
      funext b
      rw [imZ_v, if_neg (by omega)], by
      show (imZ y.2.1 z1 y.1).2 a = _
      rw [imZ_2]⟩
    have g68 : ∀ k, k ≠ 53 → (zI (imZ y.2.1 z1 y.1) 68 53 (iv (y.1 : Int))).1 68 k = z1.1 68 k := fun k hk => by
      rw [rI, if_neg (fun e => hk e.2), imZ_v, if_neg (by omega)]
    refine ⟨MJ_fr h1 (g68 5 (by decide)) (fun a e1 e2 => (g a (by omega) (by omega)).1), ⟨fun _ => ⟨?_, fun j hj w hw => ?_⟩, fun e => absurd e (by show ¬ (true = false); decide)⟩, MT_fr h3 (g68 7 (by decide)) (g 73 (by decide) (by decide)).1, MB_fr h4 (fun k e1 e2 => g68 k (by omega)) (g 94 (by decide) (by decide)).1, MS_fr h5 (fun a e1 e2 => g a (by omega) (by omega))⟩
    · rw [rI, if_pos ⟨rfl, rfl⟩]
    · have hj' : j < y.1 := hj
      rw [zI_n (by decide), imZ_v, if_pos (by omega), show (4 * j + w) % 4 = w by omega, show (4 * j + w) / 4 = j by omega]
  refine ⟨z1, _, iv (y.1 : Int), ?_, k1, yI, ⟨XC_m hC f3, hM, h.2.2.1, fun _ => ⟨h8, h.2.2.1⟩, h.2.2.2.2.1, h.2.2.2.2.2.1, h.2.2.2.2.2.2⟩⟩
  unfold f_X10_image f_X10_image_0
  rw [r0_0, r0_1, b, Option.bind_some, rI, if_neg (by decide), b2.1]
/-! back -/
noncomputable def bkW (v : Nat → Nat → Int) (z : St) : Nat → St
  | 0 => zI z 68 5 0
  | k + 1 => maZ (bkW v z k) k (fun w => v w k)
theorem bkW_MJ : ∀ k, k ≤ 8 → MJ (bkW v z k) k v ∧ Fr (fun a => 68 ≤ a ∧ a ≤ 72) z (bkW v z k) ∧ ∀ q, q ≠ 5 → (bkW v z k).1 68 q = z.1 68 q
  | 0, _ => ⟨⟨by unfold bkW; rw [rI, if_pos ⟨rfl, rfl⟩]; rfl, by decide, fun j hj => absurd hj (Nat.not_lt_zero _)⟩, Fr.refl.zI (by decide), fun q hq => by unfold bkW; rw [rI, if_neg (fun e => hq e.2)]⟩
  | k + 1, hk => by
    obtain ⟨h1, h2, h3⟩ := bkW_MJ k (by omega)
    obtain ⟨m1, m2⟩ := ma_of h1 (show k < 8 by omega) (x := fun w => v w k)
    have e : vA v k (fun w => v w k) = v := by
      funext w j
      unfold vA
      by_cases q : j = k
      · rw [if_pos q, q]
      · rw [if_neg q]
    rw [e] at m2
    exact ⟨m2, h2.trans maZ_fr, fun q hq => by
      show (maZ (bkW v z k) k (fun w => v w k)).1 68 q = _
      rw [maZ_68 q hq, h3 q hq]⟩
theorem s_back (h : INV z y) : Both (f_X10_back z 0) (fun z => f_X11_back z 68) := by
  cases hk : y.2.2.1.1 with
  | false =>
    refine Both_s h (r := iv (-3)) ?_ ?_
    · unfold f_X10_back f_X10_back_0 f_X10_back_7
      rw [h.1.2.2.1.2 hk, n_0, if_pos rfl, n_m3]
    · show f_X11_back _ 68 = _
      unfold f_X11_back f_X11_back_0 f_X11_back_7
      rw [h.2.1.2.1.2 hk, if_neg (by decide), n_m3]
  | true =>
    obtain ⟨c14, cK⟩ := h.1.2.2.1.1 hk
    obtain ⟨m53, mK⟩ := h.2.1.2.1.1 hk
    obtain ⟨kn8, kV⟩ := h.2.2.2.1 hk
    have b := jb_of (z := z) (o := 1) (u := 7) (by decide) (by decide) (by decide) cK
    have b2 := jbZ_JD (z := z) (o := 1) (v := y.2.2.1.2.2) (by decide) y.2.2.1.2.1 kn8
    have fb : Fr (fun a => 1 ≤ a ∧ a ≤ 6) z (jbZ y.2.2.1.2.2 z 1 y.2.2.1.2.1) := (jbZ_fr (by decide) y.2.2.1.2.1).mono (fun a e => e)
    obtain ⟨c3, c4, c5, c6⟩ := ta_XC h.1 fb b2 kV
    have hM2 := XM_c h.2.1 c5
    obtain ⟨m53', mK'⟩ := hM2.2.1.1 hk
    obtain ⟨w1, w2, w3⟩ := bkW_MJ (v := y.2.2.1.2.2) (z := taZ y.2.2.1.2.2 y.2.2.1.2.1 (jbZ y.2.2.1.2.2 z 1 y.2.2.1.2.1)) y.2.2.1.2.1 kn8
    obtain ⟨k3, k4, k5, k6⟩ := an_XM hM2 w2 w3 w1
    refine ⟨taZ y.2.2.1.2.2 y.2.2.1.2.1 (jbZ y.2.2.1.2.2 z 1 y.2.2.1.2.1), _, iv (y.2.2.1.2.1 : Int), ?_, ?_, _, INV_n h kV c4 c5 k4 k5⟩
    · unfold f_X10_back f_X10_back_0 f_X10_back_10
      rw [c14, if_neg (by decide), r0_0, r0_1, b, Option.bind_some, c3, Option.bind_some, c6]
    · show f_X11_back _ 68 = _
      unfold f_X11_back f_X11_back_0 f_X11_back_10
      rw [m53', if_pos ((iv_ge0 (sm_k (by omega))).mpr (by omega))]
      refine loop_up (n := y.2.2.1.2.1) (fun F k b => f_X11_back_17 F b 68 (iv (k : Int))) (bkW y.2.2.1.2.2 (taZ y.2.2.1.2.2 y.2.2.1.2.1 (jbZ y.2.2.1.2.2 z 1 y.2.2.1.2.1))) (fun F => ?_) (fun F k hk => ?_) y.2.2.1.2.1 0 FU (by omega) (FU_8 (by omega))
      · show f_X11_back_17 _ _ _ _ = _
        rw [f_X11_back_17, w3 53 (by decide), m53', if_pos sz_t]
        unfold f_X11_back_73
        rw [k3, Option.bind_some, k6]
      · show f_X11_back_17 _ _ _ _ = f_X11_back_17 F (maZ (bkW y.2.2.1.2.2 (taZ y.2.2.1.2.2 y.2.2.1.2.1 (jbZ y.2.2.1.2.2 z 1 y.2.2.1.2.1)) k) k (fun w => y.2.2.1.2.2 w k)) 68 (iv ((k + 1 : Nat) : Int))
        obtain ⟨v1, v2, v3⟩ := bkW_MJ (v := y.2.2.1.2.2) (z := taZ y.2.2.1.2.2 y.2.2.1.2.1 (jbZ y.2.2.1.2.2 z 1 y.2.2.1.2.1)) k (by omega)
        rw [f_X11_back_17, v3 53 (by decide), m53', if_neg (sz_f hk (by omega))]
        unfold f_X11_back_25
        have e0 : (4 : Int32) * iv (k : Int) = iv ((4 * k : Nat) : Int) := by
          rw [n_4, iv_mul]
          congr 1
        have e1 : iv ((4 * k : Nat) : Int) + 1 = iv ((4 * k + 1 : Nat) : Int) := iv_s _
        have e2 : iv ((4 * k : Nat) : Int) + 2 = iv ((4 * k + 2 : Nat) : Int) := by
          rw [n_2, iv_add]
          congr 1
        have e3 : iv ((4 * k : Nat) : Int) + 3 = iv ((4 * k + 3 : Nat) : Int) := by
          rw [n_3, iv_add]
          congr 1
        have d : ∀ w, w < 4 → (bkW y.2.2.1.2.2 (taZ y.2.2.1.2.2 y.2.2.1.2.1 (jbZ y.2.2.1.2.2 z 1 y.2.2.1.2.1)) k).1 95 (4 * k + w) = iv (y.2.2.1.2.2 w k) := fun w hw => by
          rw [(v2 95 (by decide)).1]
          exact mK' k hk w hw
        have d0 := d 0 (by decide)
        rw [Nat.add_zero] at d0
        rw [e0, e1, e2, e3, inb_k (show 4 * k < 32 by omega) (by decide), inb_k (show 4 * k + 1 < 32 by omega) (by decide), inb_k (show 4 * k + 2 < 32 by omega) (by decide), inb_k (show 4 * k + 3 < 32 by omega) (by decide), if_pos rfl, if_pos rfl, if_pos rfl, if_pos rfl, tn (by omega), tn (by omega), tn (by omega), tn (by omega), r68_52, d0, d 1 (by decide), d 2 (by decide), d 3 (by decide)]
        have m1 := (ma_of v1 (show k < 8 by omega) (x := fun w => y.2.2.1.2.2 w k)).1
        rw [m1, Option.bind_some, iv_s]
end TOLD3
