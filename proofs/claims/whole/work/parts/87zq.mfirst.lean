/-! THE FIRST LEAST ORDER: the model's; order of both -/
noncomputable def fmZ (c t q : Nat → Int) (n : Nat) (lim : Int) (z : St) : Nat → St
  | 0 => z
  | k + 1 => zI (zI (fmZ c t q n lim z k) 92 k (iv (fn c t q n lim (fo c t q n lim k) : Int))) 93 (fn c t q n lim (fo c t q n lim k)) (iv (max (fo c t q n lim k).2.2.2.2.2.1 (c (fn c t q n lim (fo c t q n lim k)))))
def f92 (a : Nat) : Prop := a = 92 ∨ a = 93
section MFIRST
variable {z : St} {n : Nat} {c t q : Nat → Int} {lim : Int} {y : Ly} {v : Nat → Nat → Int} {sy : Sy}
theorem fmZ_fr : ∀ k, Fr f92 z (fmZ c t q n lim z k)
  | 0 => Fr.refl
  | k + 1 => ((fmZ_fr k).zI (Or.inl rfl)).zI (Or.inr rfl)
theorem MD_92 (hL : MD z n c t q) {z' : St} (hf : Fr f92 z z') : MD z' n c t q := MD_fr hL (by rw [(hf 68 (by unfold f92; decide)).1]) (fun a h1 h2 => (hf a (by unfold f92; omega)).1)
theorem okM (hB : BD n c t q) (hn : n ≤ 8) (hl : lim ≤ 998) {left : Nat} (hS : left < 2 ^ n) {h : Int} (h0 : 0 ≤ h) {i : Nat} (hb : Nat.testBit left i = true) : (max h (c i) ≤ min (lim - q i) (tu c t q n lim (left ^^^ (1 <<< i)) (left ^^^ (1 <<< i))) - t i) ↔ (max h (c i) + t i + q i ≤ lim ∧ max h (c i) + t i ≤ tuB 999 c t q n lim (left ^^^ (1 <<< i)) (left ^^^ (1 <<< i))) := by
  rw [nfi1, tu_tuB, ← ok_iff hB hn hl hS h0 hb 100000 (Or.inl rfl), ok_iff hB hn hl hS h0 hb 999 (Or.inr rfl)]
theorem fm_in (hL : MD z n c t q) (hB : BD n c t q) (hl : 0 ≤ lim ∧ lim ≤ 998) (hz : ∀ s, s < 2 ^ n → z.1 88 s = iv (tuB 999 c t q n lim s s)) {left : Nat} (hS : left < 2 ^ n) {h : Int} (h0 : 0 ≤ h ∧ h ≤ 9000) (K : St → Nat → Int32 → Int32 → Int32 → Int32 → Option St) {x4 : Int32} : ∀ (d k F : Nat), k + d = n → d + 1 < F → f_X11_firstOrder_39 K F z 68 (iv lim) (iv h) (iv (left : Int)) x4 (-1) (iv (k : Int)) = f_X11_firstOrder_124 K z 68 (iv lim) (iv h) (iv (left : Int)) x4 (iv (ff c t q n lim left h d k)) := by
  have h8 := hL.2.1
  have hS8 := lt_256 h8 hS
  intro d
  induction d with
  | zero =>
    intro k F hk hF
    obtain ⟨F, rfl⟩ : ∃ G, F = G + 1 := ⟨F - 1, by omega⟩
    rw [f_X11_firstOrder_39, hL.1, show k = n by omega, if_pos sz_t, n_m1]
    rfl
  | succ d ih =>
    intro k F hk hF
    obtain ⟨F, rfl⟩ : ∃ G, F = G + 1 + 1 := ⟨F - 2, by omega⟩
    have kn : k < n := by omega
    have b := hB k kn
    have ih := ih (k + 1) (F + 1) (by omega) (by omega)
    obtain ⟨-, e1, e2, e3, -, -, -, -, -, -, i1, i2⟩ := MD_at hL hB kn
    rw [f_X11_firstOrder_39, hL.1, if_neg (sz_f kn (by omega))]
    unfold f_X11_firstOrder_48
    rw [if_neg (by decide : ¬ (0 : Int32) ≤ -1)]
    unfold f_X11_firstOrder_53
    have m1 : imax (iv h) (iv (c k)) = iv (max h (c k)) := iv_max ⟨by omega, by omega⟩ ⟨by omega, by omega⟩
    rw [if_pos i1, if_pos i1, i2, r68_13, r68_14, e1, e2, m1, iv_add]
    unfold ff
    by_cases hb : Nat.testBit left k = true
    · have xd := xor_dn _ hS8 k (by omega) hb
      rw [if_pos ((bit_all1 _ hS8 k (by omega)).mpr hb)]
      unfold f_X11_firstOrder_84
      rw [if_pos i1, i2, r68_15, e3, iv_add]
      have tb := tuB_b (lim := lim) hB (by decide : (0 : Int) ≤ 999 ∧ (999 : Int) ≤ 100000) (left ^^^ (1 <<< k)) (left ^^^ (1 <<< k))
      have ok := okM hB h8 hl.2 hS h0.1 hb
      by_cases g1 : max h (c k) + t k + q k ≤ lim
      · rw [if_neg (fun e => by have := (iv_lt ⟨by omega, by omega⟩ ⟨by omega, by omega⟩).mp e; omega)]
        unfold f_X11_firstOrder_98
        rw [bit_xor _ hS8 k (by omega), if_pos (inb_k (by omega) (by decide)), iv_natN (by omega), r68_37, hz _ (by omega)]
        by_cases g2 : max h (c k) + t k ≤ tuB 999 c t q n lim (left ^^^ (1 <<< k)) (left ^^^ (1 <<< k))
        · rw [if_neg (fun e => by have := (iv_lt ⟨by omega, by omega⟩ ⟨by omega, by omega⟩).mp e; omega), if_pos ⟨hb, ok.mpr ⟨g1, g2⟩⟩]
          unfold f_X11_firstOrder_114 f_X11_firstOrder_118
          rw [iv_s, f_X11_firstOrder_39]
          have k0 : (0 : Int32) ≤ iv (k : Int) := (iv_ge0 (sm_k (by omega))).mpr (by omega)
          unfold f_X11_firstOrder_48
          rw [if_pos k0]
          split <;> rfl
        · rw [if_pos ((iv_lt ⟨by omega, by omega⟩ ⟨by omega, by omega⟩).mpr (by omega)), if_neg (fun e => g2 (ok.mp e.2).2)]
          unfold f_X11_firstOrder_118
          rw [iv_s]
          exact ih
      · rw [if_pos ((iv_lt ⟨by omega, by omega⟩ ⟨by omega, by omega⟩).mpr (by omega)), if_neg (fun e => g1 (ok.mp e.2).1)]
        unfold f_X11_firstOrder_118
        rw [iv_s]
        exact ih
    · rw [if_neg (fun e => hb ((bit_all1 _ hS8 k (by omega)).mp e)), if_neg (fun e => hb e.1)]
      unfold f_X11_firstOrder_118
      rw [iv_s]
      exact ih
theorem fm_lp (hL : MD z n c t q) (hB : BD n c t q) (hl : 0 ≤ lim ∧ lim ≤ 998) (h0 : ∃ l, ord n l ∧ inTm c t q lim 0 l) (hz : ∀ s, s < 2 ^ n → z.1 88 s = iv (tuB 999 c t q n lim s s)) : f_X11_firstOrder_24 FU z 68 (iv lim) 0 (iv ((2 ^ n - 1 : Nat) : Int)) 0 = some (fmZ c t q n lim z n) := by
  have h8 := hL.2.1
  have e0 : lfS n (fo c t q n lim 0) = 2 ^ n - 1 := Nat.xor_zero _
  rw [← e0]
  refine loop_up (n := n) (fun F k b => f_X11_firstOrder_24 F b 68 (iv lim) (iv (fo c t q n lim k).2.2.2.2.2.1) (iv (lfS n (fo c t q n lim k) : Int)) (iv (k : Int))) (fmZ c t q n lim z) (fun F => ?_) (fun F k hk => ?_) n 0 FU (by omega) (FU_8 (by omega))
  · show f_X11_firstOrder_24 _ _ _ _ _ _ _ = _
    rw [f_X11_firstOrder_24, (MD_92 hL (fmZ_fr n)).1, if_pos sz_t]
    rfl
  · obtain ⟨i1, i2, i3, i4⟩ := fo_inv hB h8 hl.2 h0 k (by omega)
    obtain ⟨f1, f2, f3, f4, f5⟩ := fn_ok hB h8 hl.2 i1 (by omega) i4
    have hLk := MD_92 hL (fmZ_fr (c := c) (t := t) (q := q) (n := n) (lim := lim) (z := z) k)
    have hS : lfS n (fo c t q n lim k) < 2 ^ n := xor_lt_all n (by omega) _ i1.2.1
    have w0 := i1.2.2.1
    have y8 := i1.1
    have hi := fm_in hLk hB hl (fun s hs => by rw [(fmZ_fr k 88 (by unfold f92; decide)).1]; exact hz s hs) hS (h := (fo c t q n lim k).2.2.2.2.2.1) ⟨w0.1, by omega⟩ (f_X11_firstOrder_24 F) (x4 := iv (k : Int)) n 0 FU (by omega) (FU_8 (by omega))
    rw [f1] at hi
    show f_X11_firstOrder_24 _ _ _ _ _ _ _ = f_X11_firstOrder_24 F (fmZ c t q n lim z (k + 1)) 68 (iv lim) (iv (max (fo c t q n lim k).2.2.2.2.2.1 (c (fn c t q n lim (fo c t q n lim k))) + t (fn c t q n lim (fo c t q n lim k)))) (iv (lfS n (ap c t q (fo c t q n lim k) (fn c t q n lim (fo c t q n lim k))) : Int)) _
    rw [lfS_ap f3, f_X11_firstOrder_24, hLk.1, if_neg (sz_f hk (by omega))]
    unfold f_X11_firstOrder_33
    have hi2 : f_X11_firstOrder_39 (f_X11_firstOrder_24 F) FU (fmZ c t q n lim z k) 68 (iv lim) (iv (fo c t q n lim k).2.2.2.2.2.1) (iv (lfS n (fo c t q n lim k) : Int)) (iv (k : Int)) (-1) 0 = _ := hi
    rw [hi2]
    unfold f_X11_firstOrder_124
    obtain ⟨-, e1, e2, e3, -, -, -, -, -, -, j1, j2⟩ := MD_at hLk hB f2
    have b := hB _ f2
    obtain ⟨f, hf⟩ : ∃ f, f = fn c t q n lim (fo c t q n lim k) := ⟨_, rfl⟩
    rw [fmZ]
    rw [← hf] at j1 j2 e1 e2 e3 f2 b ⊢
    have m1 : imax (iv (fo c t q n lim k).2.2.2.2.2.1) (iv (c f)) = iv (max (fo c t q n lim k).2.2.2.2.2.1 (c f)) := iv_max ⟨by omega, by omega⟩ ⟨by omega, by omega⟩
    have k1 : inb (iv (k : Int)) 8 = true := inb_k (by omega) (by decide)
    have k2 : (iv (k : Int)).toNatClampNeg = k := iv_natN (by omega)
    have r1 : (zI (fmZ c t q n lim z k) 92 k (iv (f : Int))).1 75 f = iv (c f) := by rw [zI_n (by decide)]; exact e1
    rw [if_pos k1, if_pos j1, if_pos j1, if_pos j1, if_pos j1, k2, j2, r68_41, r68_42, r68_13, r68_14, r1, m1, rI, if_pos ⟨rfl, rfl⟩, zI_n (by decide), zI_n (by decide), e2, iv_add, bit_xor _ (lt_256 h8 hS) f (by omega), iv_s]
theorem fmZ_r (hB : BD n c t q) (hn : n ≤ 8) (hl : lim ≤ 998) (h0 : ∃ l, ord n l ∧ inTm c t q lim 0 l) : ∀ k, k ≤ n → (∀ i, i < k → (fmZ c t q n lim z k).1 92 i = iv ((fo c t q n lim k).2.2.1 i : Int)) ∧ ∀ j, Nat.testBit (fo c t q n lim k).2.1 j = true → (fmZ c t q n lim z k).1 93 j = iv ((fo c t q n lim k).2.2.2.1 j)
  | 0, _ => ⟨fun i hi => absurd hi (Nat.not_lt_zero _), fun j hj => by
      have : Nat.testBit 0 j = true := hj
      rw [Nat.zero_testBit] at this
      exact absurd this (by decide)⟩
  | k + 1, hk => by
    obtain ⟨i1, i2, i3, i4⟩ := fo_inv hB hn hl h0 k (by omega)
    obtain ⟨f1, f2, f3, f4, f5⟩ := fn_ok hB hn hl i1 (by omega) i4
    obtain ⟨a1, a2⟩ := fmZ_r hB hn hl h0 k (by omega)
    refine ⟨fun i hi => ?_, fun j hj => ?_⟩
    · show _ = iv ((up (fo c t q n lim k).2.2.1 (fo c t q n lim k).1 (fn c t q n lim (fo c t q n lim k)) i : Nat) : Int)
      rw [fmZ, zI_n (by decide), rI, i3]
      by_cases e : i = k
      · rw [if_pos ⟨rfl, e⟩, e, up_eqN]
      · rw [if_neg (fun w => e w.2), up_neN e]
        exact a1 i (by omega)
    · have hj : Nat.testBit ((fo c t q n lim k).2.1 ||| (1 <<< fn c t q n lim (fo c t q n lim k))) j = true := hj
      show _ = iv (up (fo c t q n lim k).2.2.2.1 (fn c t q n lim (fo c t q n lim k)) _ j)
      rw [fmZ, rI]
      by_cases e : j = fn c t q n lim (fo c t q n lim k)
      · rw [if_pos ⟨rfl, e⟩, e, up_eq]
      · rw [if_neg (fun w => e w.2), up_ne e, zI_n (by decide)]
        rw [or_bit, decide_eq_false e, Bool.or_false] at hj
        exact a2 j hj
theorem fom_of (hJ : MJ z n v) (hV : JV n v) : ∃ z', f_X11_firstOrder z 68 = some z' ∧ (∀ i, i < n → z'.1 92 i = iv ((fo (cmO v) (tkO v) (clO v) n (SR (cmO v) (tkO v) (clO v) n).1 n).2.2.1 i : Int)) ∧ (∀ j, j < n → z'.1 93 j = iv ((fo (cmO v) (tkO v) (clO v) n (SR (cmO v) (tkO v) (clO v) n).1 n).2.2.2.1 j)) ∧ z'.1 68 5 = iv (n : Int) ∧ Fr (fun a => sM a ∨ a = 68) z z' ∧ ∀ k, k68 k → z'.1 68 k = z.1 68 k := by
  have h8 := hJ.2.1
  have hb := BD_I hV
  have hB := BD_O hV
  obtain ⟨s1, s2, -⟩ := SR_ok h8 hb
  obtain ⟨t1, t2, t3⟩ := th_of hJ hV
  obtain ⟨z3, l1, l2, l3, l4⟩ := ln_of t2 hb
  obtain ⟨L, hL⟩ : ∃ L, L = (SR (cmO v) (tkO v) (clO v) n).1 := ⟨_, rfl⟩
  rw [← hL] at s1 s2 l1 ⊢
  obtain ⟨p1, p2⟩ := p2_255 h8
  have lt := lt_of l2 hB (lim := L) ⟨s1.1, by omega⟩
  obtain ⟨z5, hz5⟩ : ∃ z5, z5 = ltZ (cmO v) (tkO v) (clO v) n L z3 (2 ^ n - 1) := ⟨_, rfl⟩
  have f5 : Fr (fun a => a = 88) z3 z5 := by
    rw [hz5]
    exact ltZ_fr _
  have r5 : ∀ s, s < 2 ^ n → z5.1 88 s = iv (tuB 999 (cmO v) (tkO v) (clO v) n L s s) := fun s hs => by
    have r := ltZ_r (2 ^ n - 1) s (by omega) (c := cmO v) (t := tkO v) (q := clO v) (n := n) (lim := L) (z := z3)
    rw [tuB_st _ s (by omega)] at r
    rw [hz5]
    exact r
  rw [← hz5] at lt
  have m5 := MD_88 l2 f5
  have lp := fm_lp m5 hB ⟨s1.1, by omega⟩ s2 r5
  have ea : f_X11_all z5 68 = some (z5, iv ((2 ^ n - 1 : Nat) : Int)) := by
    unfold f_X11_all f_X11_all_0
    rw [m5.1, ev_all n (by omega)]
  obtain ⟨a1, a2⟩ := fmZ_r (z := z5) hB h8 (lim := L) (by omega) s2 n (Nat.le_refl _)
  have i2 := (fo_inv hB h8 (lim := L) (by omega) s2 n (Nat.le_refl _)).2.1
  refine ⟨_, ?_, a1, fun j hj => a2 j (cb_all n i2 j hj), (MD_92 m5 (fmZ_fr n)).1, (((t3.mono (Q := fun a => sM a ∨ a = 68) (fun a e => Or.inl (by unfold sM; omega))).trans (l3.mono (fun a e => by unfold sM; omega))).trans (f5.mono (fun a e => by unfold sM; omega))).trans ((fmZ_fr n).mono (fun a e => by unfold f92 at e; unfold sM; omega)), fun k hk => ?_⟩
  · unfold f_X11_firstOrder f_X11_firstOrder_0
    rw [t1, Option.bind_some, l1, Option.bind_some]
    show ((f_X11_lates z3 68 (iv L)).bind _) = _
    rw [lt, Option.bind_some, ea, Option.bind_some]
    exact lp
  · rw [(fmZ_fr n 68 (by unfold f92; decide)).1, (f5 68 (by decide)).1, l4 k hk, (t3 68 (by decide)).1]
theorem s_order (h : INV z sy) (a : Int32) : Both (f_X10_order z 0 a) (fun z => f_X11_order z 68 a) := by
  obtain ⟨k, sk, rfl⟩ := ex_iv a
  have h8 := h.1.1.2.1
  have sn : sm (sy.1 : Int) := sm_k (by omega)
  have ci : ∀ zz : St, zz.1 68 5 = iv (sy.1 : Int) → f_X11_order zz 68 (iv k) = if 0 ≤ k ∧ k < sy.1 then f_X11_order_17 zz 68 (iv k) else some (zz, iv (-12)) := fun zz hz => by
    unfold f_X11_order f_X11_order_0
    rw [hz, n_0, n_1, iv_sub, in_ob sk (sm_d 0) ⟨by omega, by omega⟩, Option.bind_some]
    show (if ob (0 ≤ k ∧ k ≤ (sy.1 : Int) - 1) = iv 0 then _ else _) = _
    rw [← n_0]
    by_cases g : 0 ≤ k ∧ k < sy.1
    · rw [if_neg (fun e => ob_0.mp e ⟨g.1, by omega⟩), if_pos g]
    · rw [if_pos (ob_0.mpr (fun e => g ⟨e.1, by omega⟩)), if_neg g]
      rfl
  by_cases g : 0 ≤ k ∧ k < sy.1
  · obtain ⟨i, rfl⟩ : ∃ i : Nat, k = i := ⟨k.toNat, by omega⟩
    have hb := BD_I h.2.2.1
    have hB := BD_O h.2.2.1
    obtain ⟨s1, s2, -⟩ := SR_ok h8 hb
    obtain ⟨z1, k1, k2, k3, k4, k5, k6⟩ := kl_of h
    obtain ⟨L, hL⟩ : ∃ L, L = (SR (cmO sy.2.1) (tkO sy.2.1) (clO sy.2.1) sy.1).1 := ⟨_, rfl⟩
    unfold LKN at k4
    rw [← hL] at k4 s1 s2
    have lf := lf_of k2.1.2.1 hB (lim := L) ⟨s1.1, by omega⟩ s2 k4.2.2.2.1 k4.2.2.2.2.1 (fun s hs => (k4.2.2.2.2.2 s hs).2)
    obtain ⟨z2, hz2⟩ : ∃ z2, z2 = foZ (cmO sy.2.1) (tkO sy.2.1) (clO sy.2.1) sy.1 L z1 sy.1 := ⟨_, rfl⟩
    have hY := foZ_LY (z := z1) hB h8 (lim := L) (by omega) s2 sy.1 (Nat.le_refl _)
    have f2 : Fr (own 33) z1 z2 := by
      rw [hz2]
      exact foZ_fr _
    rw [← hz2] at lf hY
    have hW := (fo_inv hB h8 (lim := L) (by omega) s2 sy.1 (Nat.le_refl _))
    have I2 : INV z2 sy := INV_c k2 (f2.mono (fun a e => by have := own_rng (o := 33) (Or.inl (by decide)) e; unfold sC; omega))
    obtain ⟨z3, m1, m2, m3, m4, m5, m6⟩ := fom_of I2.2.1.1 h.2.2.1
    rw [← hL] at m2
    refine ⟨z2, z3, iv ((fo (cmO sy.2.1) (tkO sy.2.1) (clO sy.2.1) sy.1 L sy.1).2.2.1 i : Int), ?_, ?_, sy, INV_m I2 m5 m6⟩
    · unfold f_X10_order f_X10_order_0 f_X10_order_4
      rw [if_neg (fun e => by have := (iv_lt0 sk).mp e; omega), r0_0, h.1.1.1, if_pos ((iv_lt sk sn).mpr g.2)]
      unfold f_X10_order_18
      rw [k1, Option.bind_some, r0_11, r0_4, r0_7, lf, Option.bind_some, ja_of h8 hY hW.1 sk, Option.bind_some, gj_in (by rw [hW.2.2.1]; omega)]
    · show f_X11_order z2 68 (iv ((i : Nat) : Int)) = _
      rw [ci z2 I2.2.1.1.1, if_pos g]
      unfold f_X11_order_17
      rw [m1, Option.bind_some, if_pos (inb_k (by omega) (by decide)), iv_natN (by omega), r68_41, m2 i (by omega)]
  · refine Both_s h (r := iv (-12)) ?_ ?_
    · unfold f_X10_order f_X10_order_0 f_X10_order_4 f_X10_order_15
      rw [r0_0, h.1.1.1]
      by_cases g0 : k < 0
      · rw [if_pos ((iv_lt0 sk).mpr g0)]
        rfl
      · rw [if_neg (fun e => g0 ((iv_lt0 sk).mp e)), if_neg (fun e => by have := (iv_lt sk sn).mp e; omega)]
        rfl
    · show f_X11_order z 68 (iv k) = _
      rw [ci z h.2.1.1.1, if_neg g]
end MFIRST
