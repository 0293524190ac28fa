/-! ORDERS: what the class weighs of sets -/
theorem bit_clr : ∀ s : Nat, s < 256 → ∀ j : Nat, j < 8 → Nat.testBit s j = true → (iv (s : Int)) &&& (((1 : Int32) <<< ((iv (j : Int)) &&& 31)) ^^^ (-1 : Int32)) = iv ((s ^^^ (1 <<< j) : Nat) : Int) := by decide +kernel
theorem xor_dn : ∀ s : Nat, s < 256 → ∀ j : Nat, j < 8 → Nat.testBit s j = true → s ^^^ (1 <<< j) < s := by decide +kernel
theorem r52_0 : rf 52 0 = 53 := by decide
theorem r52_1 : rf 52 1 = 54 := by decide
section WEIGH
variable {z : St} {n : Nat} {c t q : Nat → Int} {lim : Int} {f : Nat → Int} {s : Nat}
theorem thI_s {k : Nat} : thI c t q lim f s (k + 1) = if Nat.testBit s k = true ∧ max (f (s ^^^ (1 <<< k))) (c k) + t k + q k ≤ lim then min (thI c t q lim f s k) (max (f (s ^^^ (1 <<< k))) (c k) + t k) else thI c t q lim f s k := rfl
theorem tuI_s {k : Nat} : tuI c t q lim f s (k + 1) = if Nat.testBit s k = true ∧ c k ≤ min (lim - q k) (f (s ^^^ (1 <<< k))) - t k then max (tuI c t q lim f s k) (min (lim - q k) (f (s ^^^ (1 <<< k))) - t k) else tuI c t q lim f s k := rfl
theorem thI_b (hB : BD n c t q) (hf : ∀ i, 0 ≤ f i ∧ f i ≤ 1000000) : ∀ k, k ≤ n → 0 ≤ thI c t q lim f s k ∧ thI c t q lim f s k ≤ 1000000
  | 0, _ => ⟨by show (0 : Int) ≤ 1000000; decide, Int.le_refl _⟩
  | k + 1, hk => by
    have ih := thI_b hB hf k (by omega)
    have b := hB k (by omega)
    have fb := hf (s ^^^ (1 <<< k))
    rw [thI_s]
    split <;> constructor <;> omega
theorem tuI_b (hB : BD n c t q) (hf : ∀ i, -1 ≤ f i ∧ f i ≤ 100000) : ∀ k, k ≤ n → -1 ≤ tuI c t q lim f s k ∧ tuI c t q lim f s k ≤ 100000
  | 0, _ => ⟨Int.le_refl _, by show (-1 : Int) ≤ 100000; decide⟩
  | k + 1, hk => by
    have ih := tuI_b hB hf k (by omega)
    have b := hB k (by omega)
    have fb := hf (s ^^^ (1 <<< k))
    rw [tuI_s]
    split <;> constructor <;> omega
theorem th_b (hB : BD n c t q) : ∀ k i, 0 ≤ th c t q n lim k i ∧ th c t q n lim k i ≤ 1000000
  | 0, _ => ⟨Int.le_refl _, by show (0 : Int) ≤ 1000000; decide⟩
  | k + 1, i => by
    show 0 ≤ up (th c t q n lim k) (k + 1) (thI c t q lim (th c t q n lim k) (k + 1) n) i ∧ up (th c t q n lim k) (k + 1) (thI c t q lim (th c t q n lim k) (k + 1) n) i ≤ 1000000
    by_cases e : i = k + 1
    · rw [e, up_eq]
      exact thI_b hB (th_b hB k) n (Nat.le_refl _)
    · rw [up_ne e]
      exact th_b hB k i
theorem tu_b (hB : BD n c t q) : ∀ k i, -1 ≤ tu c t q n lim k i ∧ tu c t q n lim k i ≤ 100000
  | 0, _ => ⟨by show (-1 : Int) ≤ 100000; decide, Int.le_refl _⟩
  | k + 1, i => by
    show -1 ≤ up (tu c t q n lim k) (k + 1) (tuI c t q lim (tu c t q n lim k) (k + 1) n) i ∧ up (tu c t q n lim k) (k + 1) (tuI c t q lim (tu c t q n lim k) (k + 1) n) i ≤ 100000
    by_cases e : i = k + 1
    · rw [e, up_eq]
      exact tuI_b hB (tu_b hB k) n (Nat.le_refl _)
    · rw [up_ne e]
      exact tu_b hB k i
theorem th_st : ∀ k s, s ≤ k → th c t q n lim k s = th c t q n lim s s
  | 0, s, h => by rw [Nat.le_zero.mp h]
  | k + 1, s, h => by
    by_cases e : s = k + 1
    · rw [e]
    · show up (th c t q n lim k) (k + 1) _ s = _
      rw [up_ne e]
      exact th_st k s (by omega)
theorem tu_st : ∀ k s, s ≤ k → tu c t q n lim k s = tu c t q n lim s s
  | 0, s, h => by rw [Nat.le_zero.mp h]
  | k + 1, s, h => by
    by_cases e : s = k + 1
    · rw [e]
    · show up (tu c t q n lim k) (k + 1) _ s = _
      rw [up_ne e]
      exact tu_st k s (by omega)
theorem tho_of {s : Nat} {v : Int} (hs : s < 256) (hz : z.1 53 s = iv v) : f_X5_throughOf z 52 (iv (s : Int)) = some (z, iv v) := by
  have sk : sm (s : Int) := sm_k (by omega)
  unfold f_X5_throughOf f_X5_throughOf_0 f_X5_throughOf_4 f_X5_throughOf_13 f_X5_throughOf_24
  rw [n_0, if_neg (fun e => by have := (iv_ltk sk 0).mp e; omega), show (256 : Int32) = iv 256 by decide, if_neg (fun e => by have := (iv_kle sk 256).mp e; omega), if_pos (inb_k hs (by decide)), r52_0, iv_natN (by omega), hz]
theorem tko_of {s : Nat} {v : Int} (hs : s < 256) (hz : z.1 54 s = iv v) : f_X5_takenUpOf z 52 (iv (s : Int)) = some (z, iv v) := by
  have sk : sm (s : Int) := sm_k (by omega)
  unfold f_X5_takenUpOf f_X5_takenUpOf_0 f_X5_takenUpOf_4 f_X5_takenUpOf_13 f_X5_takenUpOf_23
  rw [n_0, if_neg (fun e => by have := (iv_ltk sk 0).mp e; omega), show (256 : Int32) = iv 256 by decide, if_neg (fun e => by have := (iv_kle sk 256).mp e; omega), if_pos (inb_k hs (by decide)), r52_1, iv_natN (by omega), hz]
theorem ctq_of (hL : LD z 21 n c t q) {k : Nat} (hk : k < n) : f_X4_comesOf z 21 (iv (k : Int)) = some (z, iv (c k)) ∧ f_X4_takesOf z 21 (iv (k : Int)) = some (z, iv (t k)) ∧ f_X4_coolsOf z 21 (iv (k : Int)) = some (z, iv (q k)) := by
  have h8 := hL.2.1
  have sk : sm (k : Int) := sm_k (by omega)
  have e1 := comes_of hL sk
  have e2 := takes_of hL sk
  have e3 := cools_of hL sk
  rw [rd_in hk] at e1 e2 e3
  exact ⟨e1, e2, e3⟩
theorem so_of (hL : LD z 21 n c t q) (hB : BD n c t q) (hs : s < 256) (hl : 0 ≤ lim ∧ lim ≤ 9000) (h5 : z.1 52 5 = iv lim) (hf : ∀ i, 0 ≤ f i ∧ f i ≤ 1000000) (hz : ∀ i, i < s → z.1 53 i = iv (f i)) : f_X5_soonestThrough z 52 21 (iv (s : Int)) = some (z, iv (thI c t q lim f s n)) := by
  have h8 := hL.2.1
  refine loop_up (n := n) (fun F k b => f_X5_soonestThrough_6 F z 52 21 (iv (s : Int)) (iv b) (iv (k : Int))) (thI c t q lim f s) (fun F => ?_) (fun F k hk => ?_) n 0 FU (by omega) (FU_8 (by omega))
  · show f_X5_soonestThrough_6 _ _ _ _ _ _ _ = _
    rw [f_X5_soonestThrough_6, hL.1, if_pos sz_t]
    rfl
  · have hth := thI_b (lim := lim) (s := s) hB hf k (by omega)
    have b := hB k hk
    show f_X5_soonestThrough_6 _ _ _ _ _ _ _ = f_X5_soonestThrough_6 F z 52 21 (iv (s : Int)) (iv (thI c t q lim f s (k + 1))) _
    rw [thI_s]
    generalize thI c t q lim f s k = b0 at *
    rw [f_X5_soonestThrough_6, hL.1, if_neg (sz_f hk (by omega))]
    unfold f_X5_soonestThrough_15
    by_cases hb : Nat.testBit s k = true
    · have fb := hf (s ^^^ (1 <<< k))
      have xd := xor_dn s hs k (by omega) hb
      obtain ⟨e2, e3, e4⟩ := ctq_of hL hk
      have e1 := tho_of (z := z) (s := s ^^^ (1 <<< k)) (by omega) (hz _ xd)
      rw [if_neg (fun e => by rw [(bit_all s hs k (by omega)).mp e] at hb; exact absurd hb (by decide))]
      unfold f_X5_soonestThrough_24
      rw [bit_clr s hs k (by omega) hb]
      obtain ⟨A, hA⟩ : ∃ A, A = f (s ^^^ (1 <<< k)) := ⟨_, rfl⟩
      rw [← hA] at e1 fb ⊢
      have m1 : imax (iv A) (iv (c k)) = iv (max A (c k)) := iv_max ⟨by omega, by omega⟩ ⟨by omega, by omega⟩
      simp only [e1, e2, e3, e4, Option.bind_some, m1, iv_add, h5]
      by_cases g : max A (c k) + t k + q k ≤ lim
      · rw [if_neg (fun e => by have := (iv_lt ⟨by omega, by omega⟩ ⟨by omega, by omega⟩).mp e; omega), if_pos ⟨hb, g⟩]
        unfold f_X5_soonestThrough_70 f_X5_soonestThrough_77
        rw [iv_min ⟨by omega, by omega⟩ ⟨by omega, by omega⟩, iv_s]
      · rw [if_pos ((iv_lt ⟨by omega, by omega⟩ ⟨by omega, by omega⟩).mpr (by omega)), if_neg (fun e => g e.2)]
        unfold f_X5_soonestThrough_77
        rw [iv_s]
    · rw [if_pos ((bit_all s hs k (by omega)).mpr (by cases h : Nat.testBit s k; rfl; exact absurd h hb)), if_neg (fun e => hb e.1)]
      unfold f_X5_soonestThrough_77
      rw [iv_s]
/-- the last hour at which one may begin -/
theorem lb_of (hL : LD z 21 n c t q) (hB : BD n c t q) (hl : 0 ≤ lim ∧ lim ≤ 9000) (h5 : z.1 52 5 = iv lim) {k r : Nat} (hk : k < n) (hr : r < 256) {v : Int} (hv : -1 ≤ v ∧ v ≤ 100000) (hz : z.1 54 r = iv v) : f_X5_latestBegin z 52 21 (iv (k : Int)) (iv (r : Int)) = some (z, iv (min (lim - q k) v - t k)) := by
  have b := hB k hk
  obtain ⟨e2, e3, e4⟩ := ctq_of hL hk
  have e1 := tko_of hr hz
  have m1 : imin (iv (lim - q k)) (iv v) = iv (min (lim - q k) v) := iv_min ⟨by omega, by omega⟩ ⟨by omega, by omega⟩
  unfold f_X5_latestBegin f_X5_latestBegin_0
  simp only [e1, e3, e4, Option.bind_some, h5, iv_sub, m1]
theorem la_of (hL : LD z 21 n c t q) (hB : BD n c t q) (hs : s < 256) (hl : 0 ≤ lim ∧ lim ≤ 9000) (h5 : z.1 52 5 = iv lim) (hf : ∀ i, -1 ≤ f i ∧ f i ≤ 100000) (hz : ∀ i, i < s → z.1 54 i = iv (f i)) : f_X5_latestTakenUp z 52 21 (iv (s : Int)) = some (z, iv (tuI c t q lim f s n)) := by
  have h8 := hL.2.1
  refine loop_up (n := n) (fun F k b => f_X5_latestTakenUp_5 F z 52 21 (iv (s : Int)) (iv b) (iv (k : Int))) (tuI c t q lim f s) (fun F => ?_) (fun F k hk => ?_) n 0 FU (by omega) (FU_8 (by omega))
  · show f_X5_latestTakenUp_5 _ _ _ _ _ _ _ = _
    rw [f_X5_latestTakenUp_5, hL.1, if_pos sz_t]
    rfl
  · have hth := tuI_b (lim := lim) (s := s) hB hf k (by omega)
    have b := hB k hk
    show f_X5_latestTakenUp_5 _ _ _ _ _ _ _ = f_X5_latestTakenUp_5 F z 52 21 (iv (s : Int)) (iv (tuI c t q lim f s (k + 1))) _
    rw [tuI_s]
    generalize tuI c t q lim f s k = b0 at *
    rw [f_X5_latestTakenUp_5, hL.1, if_neg (sz_f hk (by omega))]
    unfold f_X5_latestTakenUp_14
    by_cases hb : Nat.testBit s k = true
    · have fb := hf (s ^^^ (1 <<< k))
      have xd := xor_dn s hs k (by omega) hb
      obtain ⟨e2, e3, e4⟩ := ctq_of hL hk
      have e1 := lb_of hL hB hl h5 hk (r := s ^^^ (1 <<< k)) (by omega) fb (hz _ xd)
      rw [if_neg (fun e => by rw [(bit_all s hs k (by omega)).mp e] at hb; exact absurd hb (by decide))]
      unfold f_X5_latestTakenUp_23
      rw [bit_clr s hs k (by omega) hb]
      obtain ⟨A, hA⟩ : ∃ A, A = f (s ^^^ (1 <<< k)) := ⟨_, rfl⟩
      rw [← hA] at e1 fb ⊢
      simp only [e1, e2, Option.bind_some]
      by_cases g : c k ≤ min (lim - q k) A - t k
      · rw [if_neg (fun e => by have := (iv_lt ⟨by omega, by omega⟩ ⟨by omega, by omega⟩).mp e; omega), if_pos ⟨hb, g⟩]
        unfold f_X5_latestTakenUp_51 f_X5_latestTakenUp_58
        rw [iv_max ⟨by omega, by omega⟩ ⟨by omega, by omega⟩, iv_s]
      · rw [if_pos ((iv_lt ⟨by omega, by omega⟩ ⟨by omega, by omega⟩).mpr (by omega)), if_neg (fun e => g e.2)]
        unfold f_X5_latestTakenUp_58
        rw [iv_s]
    · rw [if_pos ((bit_all s hs k (by omega)).mpr (by cases h : Nat.testBit s k; rfl; exact absurd h hb)), if_neg (fun e => hb e.1)]
      unfold f_X5_latestTakenUp_58
      rw [iv_s]
noncomputable def wgZ (c t q : Nat → Int) (n : Nat) (lim : Int) (z : St) : Nat → St
  | 0 => zI (zI (zI (zI z 52 4 (iv ((2 ^ n - 1 : Nat) : Int))) 52 5 (iv lim)) 53 0 0) 54 0 100000
  | k + 1 => zI (zI (wgZ c t q n lim z k) 53 (k + 1) (iv (th c t q n lim (k + 1) (k + 1)))) 54 (k + 1) (iv (tu c t q n lim (k + 1) (k + 1)))
def fW (a : Nat) : Prop := 52 ≤ a ∧ a ≤ 54
theorem wgZ_fr : ∀ k, Fr fW z (wgZ c t q n lim z k)
  | 0 => (((Fr.refl.zI (by unfold fW; omega)).zI (by unfold fW; omega)).zI (by unfold fW; omega)).zI (by unfold fW; omega)
  | k + 1 => ((wgZ_fr k).zI (by unfold fW; omega)).zI (by unfold fW; omega)
theorem wgZ_5 : ∀ k, (wgZ c t q n lim z k).1 52 4 = iv ((2 ^ n - 1 : Nat) : Int) ∧ (wgZ c t q n lim z k).1 52 5 = iv lim
  | 0 => by
    unfold wgZ
    constructor
    · rw [rI, if_neg (by decide), rI, if_neg (by decide), rI, if_neg (by decide), rI, if_pos ⟨rfl, rfl⟩]
    · rw [rI, if_neg (by decide), rI, if_neg (by decide), rI, if_pos ⟨rfl, rfl⟩]
  | k + 1 => by
    have ih := wgZ_5 k
    unfold wgZ
    constructor
    · rw [rI, if_neg (by omega), rI, if_neg (by omega)]
      exact ih.1
    · rw [rI, if_neg (by omega), rI, if_neg (by omega)]
      exact ih.2
theorem wgZ_r : ∀ k i, i ≤ k → (wgZ c t q n lim z k).1 53 i = iv (th c t q n lim k i) ∧ (wgZ c t q n lim z k).1 54 i = iv (tu c t q n lim k i)
  | 0, i, h => by
    rw [Nat.le_zero.mp h]
    unfold wgZ
    constructor
    · rw [rI, if_neg (by decide), rI, if_pos ⟨rfl, rfl⟩]
      exact n_0
    · rw [rI, if_pos ⟨rfl, rfl⟩]
      show (100000 : Int32) = iv 100000
      decide
  | k + 1, i, h => by
    by_cases e : i = k + 1
    · rw [e]
      constructor
      · rw [wgZ, rI, if_neg (by omega), rI, if_pos ⟨rfl, rfl⟩]
      · rw [wgZ, rI, if_pos ⟨rfl, rfl⟩]
    · have ih := wgZ_r k i (by omega)
      have e1 : th c t q n lim (k + 1) i = th c t q n lim k i := by
        show up (th c t q n lim k) (k + 1) _ i = _
        rw [up_ne e]
      have e2 : tu c t q n lim (k + 1) i = tu c t q n lim k i := by
        show up (tu c t q n lim k) (k + 1) _ i = _
        rw [up_ne e]
      rw [e1, e2]
      constructor
      · rw [wgZ, rI, if_neg (by omega), rI, if_neg (by omega)]
        exact ih.1
      · rw [wgZ, rI, if_neg (by omega), rI, if_neg (by omega)]
        exact ih.2
theorem p2_255 {n : Nat} (hn : n ≤ 8) : 2 ^ n - 1 ≤ 255 ∧ 1 ≤ 2 ^ n := by
  have := Nat.pow_le_pow_right (n := 2) (by decide) hn
  have h : (2 : Nat) ^ 8 = 256 := by decide
  have := Nat.two_pow_pos n
  omega
theorem wg_of (hL : LD z 21 n c t q) (hB : BD n c t q) (hl : 0 ≤ lim ∧ lim ≤ 9000) : f_X5_weigh z 52 21 (iv lim) = some (wgZ c t q n lim z (2 ^ n - 1)) := by
  have h8 := hL.2.1
  obtain ⟨p1, p2⟩ := p2_255 h8
  have hLk : ∀ k, LD (wgZ c t q n lim z k) 21 n c t q := fun k => LD_fr hL (fun a ha => by
    have := own_rng (o := 21) (Or.inr (by decide)) ha
    exact (wgZ_fr k a (by unfold fW; omega)).1)
  have lp : ∀ (d k F : Nat), k + d = 2 ^ n - 1 → d < F → f_X5_weigh_30 F (wgZ c t q n lim z k) 52 21 (iv ((k + 1 : Nat) : Int)) = some (wgZ c t q n lim z (2 ^ n - 1)) := by
    refine loop_up (n := 2 ^ n - 1) (fun F k b => f_X5_weigh_30 F b 52 21 (iv ((k + 1 : Nat) : Int))) (wgZ c t q n lim z) (fun F => ?_) (fun F k hk => ?_)
    · show f_X5_weigh_30 _ _ _ _ _ = _
      rw [f_X5_weigh_30, (wgZ_5 _).1, if_pos ((iv_lt (sm_k (by omega)) (sm_k (by omega))).mpr (by omega))]
      rfl
    · show f_X5_weigh_30 _ _ _ _ _ = f_X5_weigh_30 F (zI (zI (wgZ c t q n lim z k) 53 (k + 1) (iv (th c t q n lim (k + 1) (k + 1)))) 54 (k + 1) (iv (tu c t q n lim (k + 1) (k + 1)))) 52 21 _
      have eth : th c t q n lim (k + 1) (k + 1) = thI c t q lim (th c t q n lim k) (k + 1) n := by
        show up (th c t q n lim k) (k + 1) _ (k + 1) = _
        rw [up_eq]
      have etu : tu c t q n lim (k + 1) (k + 1) = tuI c t q lim (tu c t q n lim k) (k + 1) n := by
        show up (tu c t q n lim k) (k + 1) _ (k + 1) = _
        rw [up_eq]
      have so := so_of (s := k + 1) (hLk k) hB (by omega) hl (wgZ_5 k).2 (th_b (lim := lim) hB k) (fun i hi => (wgZ_r k i (by omega)).1)
      rw [← eth] at so
      have la := la_of (z := zI (wgZ c t q n lim z k) 53 (k + 1) (iv (th c t q n lim (k + 1) (k + 1)))) (s := k + 1) (LD_fr (hLk k) (fun a ha => by
        have := own_rng (o := 21) (Or.inr (by decide)) ha
        rw [zI_n (by omega)])) hB (by omega) hl (by rw [rI, if_neg (by omega)]; exact (wgZ_5 k).2) (tu_b (lim := lim) hB k) (fun i hi => by rw [rI, if_neg (by omega)]; exact (wgZ_r k i (by omega)).2)
      rw [← etu] at la
      rw [f_X5_weigh_30, (wgZ_5 _).1, if_neg (fun e => by have := (iv_lt (sm_k (by omega)) (sm_k (by omega))).mp e; omega)]
      unfold f_X5_weigh_38
      rw [show (256 : Int32) = iv 256 by decide, if_neg (fun e => by have := (iv_kle (sm_k (by omega)) 256).mp e; omega)]
      unfold f_X5_weigh_45
      have i1 : inb (iv ((k + 1 : Nat) : Int)) 256 = true := inb_k (by omega) (by decide)
      have i2 : (iv ((k + 1 : Nat) : Int)).toNatClampNeg = k + 1 := iv_natN (by omega)
      simp only [so, Option.bind_some, i1, i2, if_true, r52_0, r52_1, la, iv_s]
  unfold f_X5_weigh f_X5_weigh_0
  rw [ev_of hL, Option.bind_some]
  have i1 : inb 0 256 = true := by decide
  have i2 : Int32.toNatClampNeg 0 = 0 := by decide
  rw [if_pos i1, if_pos i1, i2, r52_0, r52_1]
  exact lp (2 ^ n - 1) 0 FU (by omega) (FU_8 (by omega))
theorem wg_LKN (hL : LD z 21 n c t q) (hB : BD n c t q) (hl : 0 ≤ lim ∧ lim ≤ 9000) : ∃ z', f_X5_weigh z 52 21 (iv lim) = some z' ∧ Fr fW z z' ∧ z'.1 52 4 = iv ((2 ^ n - 1 : Nat) : Int) ∧ z'.1 52 5 = iv lim ∧ ∀ s, s < 2 ^ n → z'.1 53 s = iv (th c t q n lim s s) ∧ z'.1 54 s = iv (tu c t q n lim s s) := by
  refine ⟨_, wg_of hL hB hl, wgZ_fr _, (wgZ_5 _).1, (wgZ_5 _).2, fun s hs => ?_⟩
  have r := wgZ_r (2 ^ n - 1) s (by omega) (c := c) (t := t) (q := q) (n := n) (lim := lim) (z := z)
  rw [th_st _ s (by omega), tu_st _ s (by omega)] at r
  exact r
end WEIGH
