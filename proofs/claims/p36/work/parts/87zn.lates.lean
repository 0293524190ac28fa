/-! LEAST: the model's, by sets of jobs -/
noncomputable def ltZ (c t q : Nat → Int) (n : Nat) (lim : Int) (z : St) : Nat → St
  | 0 => zI z 88 0 999
  | k + 1 => zI (ltZ c t q n lim z k) 88 (k + 1) (iv (tuB 999 c t q n lim (k + 1) (k + 1)))
section LATES
variable {z : St} {n : Nat} {c t q : Nat → Int} {lim b : Int} {f : Nat → Int} {s : Nat}
theorem tuB_b (hB : BD n c t q) (hb : 0 ≤ b ∧ b ≤ 100000) : ∀ k i, -1 ≤ tuB b c t q n lim k i ∧ tuB b c t q n lim k i ≤ 100000
  | 0, _ => ⟨by show (-1 : Int) ≤ b; omega, by show b ≤ (100000 : Int); omega⟩
  | k + 1, i => by
    show -1 ≤ up (tuB b c t q n lim k) (k + 1) (tuI c t q lim (tuB b c t q n lim k) (k + 1) n) i ∧ up (tuB b c t q n lim k) (k + 1) (tuI c t q lim (tuB b c t q n lim k) (k + 1) n) i ≤ 100000
    by_cases e : i = k + 1
    · rw [e, up_eq]
      exact tuI_b hB (tuB_b hB hb k) n (Nat.le_refl _)
    · rw [up_ne e]
      exact tuB_b hB hb k i
theorem lin_of (hL : MD z n c t q) (hB : BD n c t q) (hs : s < 256) (hl : 0 ≤ lim ∧ lim ≤ 9000) (hf : ∀ i, -1 ≤ f i ∧ f i ≤ 100000) (hz : ∀ i, i < s → z.1 88 i = iv (f i)) (K : St → Nat → Int32 → Int32 → Option St) : f_X11_lates_21 K z 68 (iv lim) (iv (s : Int)) = f_X11_lates_109 K z 68 (iv lim) (iv (s : Int)) (iv (tuI c t q lim f s n)) := by
  have h8 := hL.2.1
  unfold f_X11_lates_21
  refine loop_up (n := n) (fun F k b => f_X11_lates_26 K F z 68 (iv lim) (iv (s : Int)) (iv b) (iv (k : Int))) (tuI c t q lim f s) (fun F => ?_) (fun F k hk => ?_) n 0 FU (by omega) (FU_8 (by omega))
  · show f_X11_lates_26 _ _ _ _ _ _ _ _ = _
    rw [f_X11_lates_26, hL.1, if_pos sz_t]
  · have hth := tuI_b (lim := lim) (s := s) hB hf k (by omega)
    have b := hB k hk
    obtain ⟨-, e1, e2, e3, -, -, -, -, -, -, i1, i2⟩ := MD_at hL hB hk
    show f_X11_lates_26 _ _ _ _ _ _ _ _ = f_X11_lates_26 K F z 68 (iv lim) (iv (s : Int)) (iv (tuI c t q lim f s (k + 1))) _
    rw [tuI_s]
    generalize tuI c t q lim f s k = b0 at *
    rw [f_X11_lates_26, hL.1, if_neg (sz_f hk (by omega))]
    unfold f_X11_lates_35
    by_cases hb : Nat.testBit s k = true
    · have fb := hf (s ^^^ (1 <<< k))
      have xd := xor_dn s hs k (by omega) hb
      have ez := hz _ xd
      rw [if_neg (fun e => by rw [(bit_all s hs k (by omega)).mp e] at hb; exact absurd hb (by decide))]
      unfold f_X11_lates_47
      rw [bit_xor s hs k (by omega)]
      have j1 : inb (iv ((s ^^^ (1 <<< k) : Nat) : Int)) 256 = true := inb_k (by omega) (by decide)
      have j2 : (iv ((s ^^^ (1 <<< k) : Nat) : Int)).toNatClampNeg = s ^^^ (1 <<< k) := iv_natN (by omega)
      obtain ⟨A, hA⟩ : ∃ A, A = f (s ^^^ (1 <<< k)) := ⟨_, rfl⟩
      rw [← hA] at ez fb ⊢
      have m1 : imin (iv (lim - q k)) (iv A) = iv (min (lim - q k) A) := iv_min ⟨by omega, by omega⟩ ⟨by omega, by omega⟩
      rw [if_pos i1, if_pos j1, if_pos i1, if_pos i1, i2, j2, r68_13, r68_14, r68_15, r68_37, e1, e2, e3, ez, iv_sub, m1, iv_sub]
      by_cases g : c k ≤ min (lim - q k) A - t k
      · rw [if_neg (fun e => by have := (iv_lt ⟨by omega, by omega⟩ ⟨by omega, by omega⟩).mp e; omega), if_pos ⟨hb, g⟩]
        unfold f_X11_lates_92 f_X11_lates_102 f_X11_lates_103
        rw [iv_max ⟨by omega, by omega⟩ ⟨by omega, by omega⟩, iv_s]
      · rw [if_pos ((iv_lt ⟨by omega, by omega⟩ ⟨by omega, by omega⟩).mpr (by omega)), if_neg (fun e => g e.2)]
        unfold f_X11_lates_101 f_X11_lates_102 f_X11_lates_103
        rw [iv_s]
    · rw [if_pos ((bit_all s hs k (by omega)).mpr (by cases h : Nat.testBit s k; rfl; exact absurd h hb)), if_neg (fun e => hb e.1)]
      unfold f_X11_lates_44 f_X11_lates_103
      rw [iv_s]
theorem ltZ_fr : ∀ k, Fr (fun a => a = 88) z (ltZ c t q n lim z k)
  | 0 => Fr.refl.zI (P := fun a => a = 88) rfl
  | k + 1 => (ltZ_fr k).zI (P := fun a => a = 88) rfl
theorem ltZ_r : ∀ k i, i ≤ k → (ltZ c t q n lim z k).1 88 i = iv (tuB 999 c t q n lim k i)
  | 0, i, h => by
    rw [Nat.le_zero.mp h]
    unfold ltZ
    rw [rI, if_pos ⟨rfl, rfl⟩]
    show (999 : Int32) = iv 999
    decide
  | k + 1, i, h => by
    by_cases e : i = k + 1
    · rw [e, ltZ, rI, if_pos ⟨rfl, rfl⟩]
    · have ih := ltZ_r k i (by omega)
      have e1 : tuB 999 c t q n lim (k + 1) i = tuB 999 c t q n lim k i := by
        show up (tuB 999 c t q n lim k) (k + 1) _ i = _
        rw [up_ne e]
      rw [e1, ltZ, rI, if_neg (by omega)]
      exact ih
theorem MD_88 (hL : MD z n c t q) {z' : St} (hf : Fr (fun a => a = 88) z z') : MD z' n c t q := MD_fr hL (by rw [(hf 68 (by decide)).1]) (fun a h1 h2 => (hf a (by omega)).1)
theorem lt_of (hL : MD z n c t q) (hB : BD n c t q) (hl : 0 ≤ lim ∧ lim ≤ 9000) : f_X11_lates z 68 (iv lim) = some (ltZ c t q n lim z (2 ^ n - 1)) := by
  have h8 := hL.2.1
  obtain ⟨p1, p2⟩ := p2_255 h8
  have hLk : ∀ k, MD (ltZ c t q n lim z k) n c t q := fun k => MD_88 hL (ltZ_fr k)
  have sh : ((1 : Int32) <<< ((iv (n : Int)) &&& 31)) = iv ((2 ^ n : Nat) : Int) := by
    rw [bit_one n (by omega), Nat.one_shiftLeft]
  have lp : ∀ (d k F : Nat), k + d = 2 ^ n - 1 → d < F → f_X11_lates_11 F (ltZ c t q n lim z k) 68 (iv lim) (iv ((k + 1 : Nat) : Int)) = some (ltZ c t q n lim z (2 ^ n - 1)) := by
    refine loop_up (n := 2 ^ n - 1) (fun F k b => f_X11_lates_11 F b 68 (iv lim) (iv ((k + 1 : Nat) : Int))) (ltZ c t q n lim z) (fun F => ?_) (fun F k hk => ?_)
    · show f_X11_lates_11 _ _ _ _ _ = _
      rw [f_X11_lates_11, (hLk _).1, sh, if_pos ((iv_le (sm_k (by omega)) (sm_k (by omega))).mpr (by omega))]
      rfl
    · show f_X11_lates_11 _ _ _ _ _ = f_X11_lates_11 F (zI (ltZ c t q n lim z k) 88 (k + 1) (iv (tuB 999 c t q n lim (k + 1) (k + 1)))) 68 _ _
      have etu : tuB 999 c t q n lim (k + 1) (k + 1) = tuI c t q lim (tuB 999 c t q n lim k) (k + 1) n := by
        show up (tuB 999 c t q n lim k) (k + 1) _ (k + 1) = _
        rw [up_eq]
      have li := lin_of (s := k + 1) (hLk k) hB (by omega) hl (tuB_b (lim := lim) hB (by decide : (0 : Int) ≤ 999 ∧ (999 : Int) ≤ 100000) k) (fun i hi => ltZ_r k i (by omega)) (f_X11_lates_11 F)
      rw [← etu] at li
      rw [f_X11_lates_11, (hLk k).1, sh, if_neg (fun e => by have := (iv_le (sm_k (by omega)) (sm_k (by omega))).mp e; omega), li]
      unfold f_X11_lates_109
      rw [if_pos (inb_k (by omega) (by decide)), iv_natN (by omega), r68_37, iv_s]
  unfold f_X11_lates f_X11_lates_0
  have i1 : inb 0 256 = true := by decide
  have i2 : Int32.toNatClampNeg 0 = 0 := by decide
  rw [if_pos i1, i2, r68_37]
  exact lp (2 ^ n - 1) 0 FU (by omega) (FU_8 (by omega))
/-- can a set be in time? -/
def fitS (c t q : Nat → Int) (n S : Nat) (lim : Int) : Prop := 0 ≤ tuB 999 c t q n lim S S
theorem fit_ok (hB : BD n c t q) (hn : n ≤ 8) (hl : 0 ≤ lim ∧ lim ≤ 998) {S : Nat} (hS : S < 2 ^ n) : fitS c t q n S lim ↔ ∃ l, setl S l ∧ inTm c t q lim 0 l := by
  unfold fitS
  rw [← tu_ok (b := 999) hB hn (by omega) hS (Int.le_refl 0) (by decide)]
theorem fit_mono (hB : BD n c t q) (hn : n ≤ 8) {S : Nat} (hS : S < 2 ^ n) {m m' : Int} (h0 : 0 ≤ m) (h : m ≤ m') (h' : m' ≤ 998) (f : fitS c t q n S m) : fitS c t q n S m' := by
  obtain ⟨l, l1, l2⟩ := (fit_ok hB hn ⟨h0, by omega⟩ hS).mp f
  exact (fit_ok hB hn ⟨by omega, h'⟩ hS).mpr ⟨l, l1, inTm_F h l 0 l2⟩
theorem ft_of (hL : MD z n c t q) (hB : BD n c t q) (hl : 0 ≤ lim ∧ lim ≤ 9000) {S : Nat} (hS : S < 2 ^ n) : ∃ z', f_X11_fits z 68 (iv (S : Int)) (iv lim) = some (z', @ob (fitS c t q n S lim) (Classical.propDecidable _)) ∧ Fr (fun a => a = 88) z z' := by
  have h8 := hL.2.1
  obtain ⟨p1, p2⟩ := p2_255 h8
  refine ⟨_, ?_, ltZ_fr (2 ^ n - 1) (c := c) (t := t) (q := q) (n := n) (lim := lim)⟩
  unfold f_X11_fits f_X11_fits_0
  have r := ltZ_r (2 ^ n - 1) S (by omega) (c := c) (t := t) (q := q) (n := n) (lim := lim) (z := z)
  rw [tuB_st _ S (by omega)] at r
  have tb := tuB_b (lim := lim) hB (by decide : (0 : Int) ≤ 999 ∧ (999 : Int) ≤ 100000) S S
  rw [lt_of hL hB hl, Option.bind_some, if_pos (inb_k (by omega) (by decide)), iv_natN (by omega), r68_37, r]
  unfold f_X11_fits_18 f_X11_fits_14 f_X11_fits_19
  by_cases g : fitS c t q n S lim
  · have g2 : 0 ≤ tuB 999 c t q n lim S S := g
    rw [if_neg (fun e => by have := (iv_lt0 ⟨by omega, by omega⟩).mp e; omega), if_pos zb_1]
    unfold ob
    rw [if_pos g]
  · have g2 : ¬ 0 ≤ tuB 999 c t q n lim S S := g
    rw [if_pos ((iv_lt0 ⟨by omega, by omega⟩).mpr (by omega)), if_pos zb_0]
    unfold ob
    rw [if_neg g]
theorem ob_c {P : Prop} [d : Decidable P] : (ob P = 0) ↔ ¬ P := ob_0
theorem nlo1 {lo hi : Int} (h : -1 ≤ lo) (h2 : lo + 1 < hi) (h3 : hi ≤ 998) : 0 ≤ lo + hi ∧ lo + hi < 2147483648 ∧ lo < (lo + hi) / 2 ∧ (lo + hi) / 2 < hi ∧ 0 ≤ (lo + hi) / 2 := by omega
theorem lo_loop (hB : BD n c t q) {S : Nat} (hS : S < 2 ^ n) (hS0 : S ≠ 0) : ∀ (d F : Nat) (lo hi : Int) (z : St), MD z n c t q → (hi - lo).toNat ≤ d → d < F → -1 ≤ lo → lo < hi → hi ≤ 998 → (∀ m, 0 ≤ m → m ≤ lo → ¬ fitS c t q n S m) → ∃ z' H, f_X11_leastOf_5 F z 68 (iv (S : Int)) (iv lo) (iv hi) = some (z', iv H) ∧ (H = hi ∨ fitS c t q n S H) ∧ 0 ≤ H ∧ H ≤ hi ∧ (∀ m, 0 ≤ m → m < H → ¬ fitS c t q n S m) ∧ Fr (fun a => a = 88) z z'
  | 0, F, lo, hi, z, _, h1, _, _, h4, _, _ => by omega
  | d + 1, 0, lo, hi, z, _, _, h2, _, _, _, _ => by omega
  | d + 1, F + 1, lo, hi, z, hL, h1, h2, h3, h4, h5, h6 => by
    have h8 := hL.2.1
    obtain ⟨p1, p2⟩ := p2_255 h8
    by_cases g : hi ≤ lo + 1
    · refine ⟨z, hi, ?_, Or.inl rfl, by omega, Int.le_refl _, fun m m0 m1 => h6 m m0 (by omega), Fr.refl⟩
      rw [f_X11_leastOf_5, n_1, iv_add, if_pos ((iv_le ⟨by omega, by omega⟩ ⟨by omega, by omega⟩).mpr g)]
      unfold f_X11_leastOf_44 f_X11_leastOf_52 f_X11_leastOf_54
      rw [n_0, if_neg (fun e => by have := (iv_eqk (sm_k (by omega)) 0).mp e; omega)]
    · obtain ⟨k1, k2, k3, k4, k5⟩ := nlo1 h3 (Int.not_le.mp g) h5
      obtain ⟨z1, e1, e2⟩ := ft_of hL hB (lim := (lo + hi) / 2) ⟨k5, by omega⟩ hS
      have hL1 := MD_88 hL e2
      have st : f_X11_leastOf_5 (F + 1) z 68 (iv (S : Int)) (iv lo) (iv hi) = f_X11_leastOf_13 (f_X11_leastOf_5 F) z 68 (iv (S : Int)) (iv lo) (iv hi) := by
        rw [f_X11_leastOf_5, n_1, iv_add, if_neg (fun e => g ((iv_le ⟨by omega, by omega⟩ ⟨by omega, by omega⟩).mp e))]
      rw [st]
      unfold f_X11_leastOf_13
      rw [n_2, iv_add, iv_div ⟨k1, k2⟩ (by decide), e1, Option.bind_some]
      by_cases w : fitS c t q n S ((lo + hi) / 2)
      · obtain ⟨z2, H, a1, a2, a3, a4, a5, a6⟩ := lo_loop hB hS hS0 d F lo ((lo + hi) / 2) z1 hL1 (by omega) (by omega) h3 k3 (by omega) h6
        refine ⟨z2, H, ?_, ?_, a3, by omega, a5, e2.trans a6⟩
        · show (if @ob (fitS c t q n S ((lo + hi) / 2)) (Classical.propDecidable _) = 0 then _ else _) = _
          rw [if_neg (fun e => (@ob_c _ (Classical.propDecidable _)).mp e w)]
          exact a1
        · rcases a2 with x | x
          · rw [x]
            exact Or.inr w
          · exact Or.inr x
      · obtain ⟨z2, H, a1, a2, a3, a4, a5, a6⟩ := lo_loop hB hS hS0 d F ((lo + hi) / 2) hi z1 hL1 (by omega) (by omega) (by omega) k4 h5 (fun m m0 m1 f => by
          rcases Int.lt_or_le lo m with x | x
          · exact w (fit_mono hB h8 hS m0 m1 (by omega) f)
          · exact h6 m m0 x f)
        refine ⟨z2, H, ?_, a2, a3, a4, a5, e2.trans a6⟩
        show (if @ob (fitS c t q n S ((lo + hi) / 2)) (Classical.propDecidable _) = 0 then _ else _) = _
        rw [if_pos ((@ob_c _ (Classical.propDecidable _)).mpr w)]
        exact a1
theorem lo_loop0 (hB : BD n c t q) : ∀ (d F : Nat) (lo hi : Int) (z : St), MD z n c t q → (hi - lo).toNat ≤ d → d < F → -1 ≤ lo → lo < hi → hi ≤ 998 → ∃ z', f_X11_leastOf_5 F z 68 (iv ((0 : Nat) : Int)) (iv lo) (iv hi) = some (z', iv 0) ∧ Fr (fun a => a = 88) z z'
  | 0, F, lo, hi, z, _, h1, _, _, h4, _ => by omega
  | d + 1, 0, lo, hi, z, _, _, h2, _, _, _ => by omega
  | d + 1, F + 1, lo, hi, z, hL, h1, h2, h3, h4, h5 => by
    by_cases g : hi ≤ lo + 1
    · refine ⟨z, ?_, Fr.refl⟩
      rw [f_X11_leastOf_5, n_1, iv_add, if_pos ((iv_le ⟨by omega, by omega⟩ ⟨by omega, by omega⟩).mpr g)]
      rfl
    · obtain ⟨k1, k2, k3, k4, k5⟩ := nlo1 h3 (Int.not_le.mp g) h5
      obtain ⟨z1, e1, e2⟩ := ft_of hL hB (lim := (lo + hi) / 2) ⟨k5, by omega⟩ (S := 0) (Nat.two_pow_pos n)
      have hL1 := MD_88 hL e2
      have st : f_X11_leastOf_5 (F + 1) z 68 (iv ((0 : Nat) : Int)) (iv lo) (iv hi) = f_X11_leastOf_13 (f_X11_leastOf_5 F) z 68 (iv ((0 : Nat) : Int)) (iv lo) (iv hi) := by
        rw [f_X11_leastOf_5, n_1, iv_add, if_neg (fun e => g ((iv_le ⟨by omega, by omega⟩ ⟨by omega, by omega⟩).mp e))]
      rw [st]
      unfold f_X11_leastOf_13
      rw [n_2, iv_add, iv_div ⟨k1, k2⟩ (by decide), e1, Option.bind_some]
      by_cases w : fitS c t q n 0 ((lo + hi) / 2)
      · obtain ⟨z2, a1, a6⟩ := lo_loop0 hB d F lo ((lo + hi) / 2) z1 hL1 (by omega) (by omega) h3 k3 (by omega)
        refine ⟨z2, ?_, e2.trans a6⟩
        show (if @ob (fitS c t q n 0 ((lo + hi) / 2)) (Classical.propDecidable _) = 0 then _ else _) = _
        rw [if_neg (fun e => (@ob_c _ (Classical.propDecidable _)).mp e w)]
        exact a1
      · obtain ⟨z2, a1, a6⟩ := lo_loop0 hB d F ((lo + hi) / 2) hi z1 hL1 (by omega) (by omega) (by omega) k4 h5
        refine ⟨z2, ?_, e2.trans a6⟩
        show (if @ob (fitS c t q n 0 ((lo + hi) / 2)) (Classical.propDecidable _) = 0 then _ else _) = _
        rw [if_pos ((@ob_c _ (Classical.propDecidable _)).mpr w)]
        exact a1
/-- the least of a set, which a told one is at least -/
theorem lo_of (hL : MD z n c t q) (hB : BD n c t q) {S : Nat} (hS : S < 2 ^ n) {E : Int} (hE : 0 ≤ E ∧ E ≤ 998) : ∃ z' H, f_X11_leastOf z 68 (iv (S : Int)) (iv E) = some (z', iv H) ∧ (S = 0 → H = 0) ∧ (S ≠ 0 → (H = E ∨ fitS c t q n S H) ∧ 0 ≤ H ∧ H ≤ E ∧ ∀ m, 0 ≤ m → m < H → ¬ fitS c t q n S m) ∧ Fr (fun a => a = 88) z z' := by
  by_cases h : S = 0
  · obtain ⟨z', g1, g2⟩ := lo_loop0 (c := c) (t := t) (q := q) hB 1000 FU (-1) E z hL (by omega) (FU_8 (by decide)) (Int.le_refl _) (by omega) hE.2
    refine ⟨z', 0, ?_, fun _ => rfl, fun e => absurd h e, g2⟩
    rw [h]
    exact g1
  · obtain ⟨z', H, a1, a2, a3, a4, a5, a6⟩ := lo_loop hB hS h 1000 FU (-1) E z hL (by omega) (FU_8 (by decide)) (Int.le_refl _) (by omega) hE.2 (fun m m0 m1 => by omega)
    exact ⟨z', H, a1, fun e => absurd e h, fun _ => ⟨a2, a3, a4, a5⟩, a6⟩
/-- LEAST of all as the model finds it: the class's -/
theorem ln_of (hL : MD z n c t q) (hb : ∀ j, j < n → (0 ≤ c j ∧ c j ≤ 160) ∧ (1 ≤ t j ∧ t j ≤ 25) ∧ (0 ≤ q j ∧ q j ≤ 130)) : ∃ z', f_X11_leastNow z 68 = some (z', iv (SR c t q n).1) ∧ MD z' n c t q ∧ Fr (fun a => a = 68 ∨ (78 ≤ a ∧ a ≤ 80) ∨ a = 88) z z' ∧ ∀ k, k68 k → z'.1 68 k = z.1 68 k := by
  have h8 := hL.2.1
  obtain ⟨hB, f0, f5⟩ := root_f h8 hb
  obtain ⟨s1, ⟨l, l1, l2⟩, s3⟩ := SR_ok h8 hb
  obtain ⟨z1, hz1⟩ : ∃ z1, z1 = zI (mgZ c t q z n n) 68 19 (iv (gr c t q n n).2.2.2.2.2.1) := ⟨_, rfl⟩
  have mg := mg_of hL hB
  rw [← hz1] at mg
  have f1 : Fr (fun a => a = 68 ∨ (78 ≤ a ∧ a ≤ 80)) z z1 := by
    rw [hz1]
    exact ((mgZ_fr n).mono (Q := fun a => a = 68 ∨ (78 ≤ a ∧ a ≤ 80)) (fun a e => Or.inr e)).zI (Or.inl rfl)
  have k1 : ∀ k, k ≠ 19 → z1.1 68 k = z.1 68 k := fun k hk => by
    rw [hz1, rI, if_neg (fun e => hk e.2), (mgZ_fr n 68 (by decide)).1]
  have hL1 : MD z1 n c t q := MD_fr hL (k1 5 (by decide)) (fun a h1 h2 => (f1 a (by omega)).1)
  have ea : f_X11_all z 68 = some (z, iv ((2 ^ n - 1 : Nat) : Int)) := by
    unfold f_X11_all f_X11_all_0
    rw [hL.1, ev_all n (by omega)]
  obtain ⟨p1, p2⟩ := p2_255 h8
  obtain ⟨z2, H, a1, a2, a3, a4⟩ := lo_of hL1 hB (S := 2 ^ n - 1) (by omega) (E := (gr c t q n n).2.2.2.2.2.2.1) ⟨f0, by omega⟩
  have eH : H = (SR c t q n).1 := by
    by_cases hS : 2 ^ n - 1 = 0
    · have := a2 hS
      have n0 : n = 0 := by
        rcases Nat.eq_zero_or_pos n with e | e
        · exact e
        · have := Nat.pow_le_pow_right (n := 2) (by decide) e
          omega
      subst n0
      have := s3 0 [] (Int.le_refl _) ⟨List.nodup_nil, fun j => by simp⟩ trivial
      omega
    · obtain ⟨b1, b2, b3, b4⟩ := a3 hS
      have P : fitS c t q n (2 ^ n - 1) H := by
        rcases b1 with e | e
        · obtain ⟨o1, o2⟩ := gr_ord hB h8
          rw [e]
          exact (fit_ok hB h8 ⟨f0, by omega⟩ (by omega)).mpr ⟨_, setl_ord.mpr o1, o2⟩
        · exact e
      obtain ⟨m, m1, m2⟩ := (fit_ok hB h8 ⟨b2, by omega⟩ (by omega)).mp P
      have u1 := s3 H m b2 (setl_ord.mp m1) m2
      rcases Int.lt_or_le (SR c t q n).1 H with w | w
      · exact absurd ((fit_ok hB h8 ⟨s1.1, by omega⟩ (by omega)).mpr ⟨l, setl_ord.mpr l1, l2⟩) (b4 _ s1.1 w)
      · omega
  rw [eH] at a1
  refine ⟨z2, ?_, MD_88 hL1 a4, (f1.mono (fun a e => by omega)).trans (a4.mono (fun a e => by omega)), fun k hk => ?_⟩
  · unfold f_X11_leastNow f_X11_leastNow_0
    rw [ea, Option.bind_some]
    show ((f_X11_greedily z 68).bind _) = _
    rw [mg, Option.bind_some]
    show ((f_X11_leastOf z1 68 _ _).bind _) = _
    rw [a1, Option.bind_some]
  · rw [(a4 68 (by decide)).1]
    exact k1 k (by unfold k68 at hk; omega)
end LATES
