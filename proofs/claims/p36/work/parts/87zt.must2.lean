/-! MUST: class and model -/
noncomputable def al (c t q : Nat → Int) (n : Nat) (lim : Int) (a : Nat) : Nat → Nat
  | 0 => 2 ^ n - 1
  | k + 1 => if Nat.testBit (k + 1) a = true ∧ th c t q n lim (k + 1) (k + 1) ≤ tu c t q n lim ((2 ^ n - 1) ^^^ (k + 1)) ((2 ^ n - 1) ^^^ (k + 1)) then al c t q n lim a k &&& (k + 1) else al c t q n lim a k
noncomputable def eZ (c t q : Nat → Int) (n : Nat) (lim : Int) (a b : Nat) (z : St) : Nat → St
  | 0 => zI z 89 0 0
  | k + 1 => zI (eZ c t q n lim a b z k) 89 (k + 1) (iv (ea c t q n lim a b (k + 1) (k + 1)))
noncomputable def mm (c t q : Nat → Int) (n : Nat) (lim : Int) (a : Nat) : Nat → Nat
  | 0 => 0
  | k + 1 => if k ≠ a ∧ ¬ ea c t q n lim a k (2 ^ n - 1) (2 ^ n - 1) < 999 then mm c t q n lim a k ||| (1 <<< k) else mm c t q n lim a k
section MUST2
variable {z : St} {n : Nat} {c t q : Nat → Int} {lim : Int} {f : Nat → Int} {s a b : Nat} {sy : Sy} {v : Nat → Nat → Int}
/-- what the class weighs, as it stands in the heap -/
def WG (z : St) (n : Nat) (c t q : Nat → Int) (lim : Int) : Prop := z.1 52 4 = iv ((2 ^ n - 1 : Nat) : Int) ∧ z.1 52 5 = iv lim ∧ ∀ s, s < 2 ^ n → z.1 53 s = iv (th c t q n lim s s) ∧ z.1 54 s = iv (tu c t q n lim s s)
theorem cs_of (hB : BD n c t q) (hn : n ≤ 8) (hW : WG z n c t q lim) {S : Nat} (hS : S < 2 ^ n) : f_X5_canStandAhead z 52 (iv (S : Int)) = some (z, ob (th c t q n lim S S ≤ tu c t q n lim ((2 ^ n - 1) ^^^ S) ((2 ^ n - 1) ^^^ S))) := by
  have cn : (2 ^ n - 1) ^^^ S < 2 ^ n := xor_lt_all n (by omega) S hS
  have tb := tu_b (lim := lim) hB ((2 ^ n - 1) ^^^ S) ((2 ^ n - 1) ^^^ S)
  have hb := th_b (lim := lim) hB S S
  unfold f_X5_canStandAhead f_X5_canStandAhead_0
  rw [tho_of (lt_256 hn hS) (hW.2.2 S hS).1, Option.bind_some]
  show ((f_X5_takenUpOf z 52 ((z.1 52 4) &&& ((iv (S : Int)) ^^^ (-1)))).bind _) = _
  rw [hW.1, not_all_bits n (by omega) S hS, tko_of (lt_256 hn cn) (hW.2.2 _ cn).2, Option.bind_some]
  unfold f_X5_canStandAhead_24 f_X5_canStandAhead_20 f_X5_canStandAhead_25 ob
  by_cases g : th c t q n lim S S ≤ tu c t q n lim ((2 ^ n - 1) ^^^ S) ((2 ^ n - 1) ^^^ S)
  · rw [if_pos g]
    show (if iv (tu c t q n lim ((2 ^ n - 1) ^^^ S) ((2 ^ n - 1) ^^^ S)) < iv (th c t q n lim S S) then _ else _) = _
    rw [if_neg (fun e => by have := (iv_lt ⟨by omega, by omega⟩ ⟨by omega, by omega⟩).mp e; omega), if_pos zb_1]
  · rw [if_neg g]
    show (if iv (tu c t q n lim ((2 ^ n - 1) ^^^ S) ((2 ^ n - 1) ^^^ S)) < iv (th c t q n lim S S) then _ else _) = _
    rw [if_pos ((iv_lt ⟨by omega, by omega⟩ ⟨by omega, by omega⟩).mpr (by omega)), if_pos zb_0]
theorem al_s {k : Nat} : al c t q n lim a (k + 1) = if Nat.testBit (k + 1) a = true ∧ th c t q n lim (k + 1) (k + 1) ≤ tu c t q n lim ((2 ^ n - 1) ^^^ (k + 1)) ((2 ^ n - 1) ^^^ (k + 1)) then al c t q n lim a k &&& (k + 1) else al c t q n lim a k := rfl
theorem al_bit {j : Nat} : ∀ k, Nat.testBit (al c t q n lim a k) j = true ↔ j < n ∧ ∀ S, 1 ≤ S → S ≤ k → Nat.testBit S a = true → stands c t q n lim S → Nat.testBit S j = true
  | 0 => by
    show Nat.testBit (2 ^ n - 1) j = true ↔ _
    rw [Nat.testBit_two_pow_sub_one, decide_eq_true_eq]
    exact ⟨fun h => ⟨h, fun S h1 h2 => by omega⟩, fun h => h.1⟩
  | k + 1 => by
    have ih := al_bit (j := j) k
    rw [al_s]
    by_cases g : Nat.testBit (k + 1) a = true ∧ th c t q n lim (k + 1) (k + 1) ≤ tu c t q n lim ((2 ^ n - 1) ^^^ (k + 1)) ((2 ^ n - 1) ^^^ (k + 1))
    · rw [if_pos g, Nat.testBit_and, Bool.and_eq_true, ih]
      constructor
      · rintro ⟨⟨h1, h2⟩, h3⟩
        refine ⟨h1, fun S s1 s2 s3 s4 => ?_⟩
        by_cases e : S = k + 1
        · rw [e]
          exact h3
        · exact h2 S s1 (by omega) s3 s4
      · rintro ⟨h1, h2⟩
        exact ⟨⟨h1, fun S s1 s2 s3 s4 => h2 S s1 (by omega) s3 s4⟩, h2 (k + 1) (by omega) (Nat.le_refl _) g.1 g.2⟩
    · rw [if_neg g, ih]
      constructor
      · rintro ⟨h1, h2⟩
        refine ⟨h1, fun S s1 s2 s3 s4 => ?_⟩
        by_cases e : S = k + 1
        · rw [e] at s3 s4
          exact absurd ⟨s3, s4⟩ g
        · exact h2 S s1 (by omega) s3 s4
      · rintro ⟨h1, h2⟩
        exact ⟨h1, fun S s1 s2 s3 s4 => h2 S s1 (by omega) s3 s4⟩
theorem al_lt : ∀ k, al c t q n lim a k < 2 ^ n
  | 0 => by
    show 2 ^ n - 1 < 2 ^ n
    have := Nat.two_pow_pos n
    omega
  | k + 1 => by
    have ih := al_lt k
    rw [al_s]
    split
    · exact Nat.lt_of_le_of_lt Nat.and_le_left ih
    · exact ih
theorem ao_of (hB : BD n c t q) (hn : n ≤ 8) (hW : WG z n c t q lim) (ha : a < n) : f_X5_aheadOf z 52 (iv (a : Int)) = some (z, iv ((al c t q n lim a (2 ^ n - 1) ^^^ (1 <<< a) : Nat) : Int)) := by
  obtain ⟨p1, p2⟩ := p2_255 hn
  unfold f_X5_aheadOf f_X5_aheadOf_0
  rw [hW.1]
  refine loop_up (n := 2 ^ n - 1) (fun F k (b : Nat) => f_X5_aheadOf_7 F z 52 (iv (a : Int)) (iv (b : Int)) (iv ((k + 1 : Nat) : Int))) (al c t q n lim a) (fun F => ?_) (fun F k hk => ?_) (2 ^ n - 1) 0 FU (by omega) (FU_8 (by omega))
  · show f_X5_aheadOf_7 _ _ _ _ _ _ = _
    rw [f_X5_aheadOf_7, hW.1, if_pos ((iv_lt (sm_k (by omega)) (sm_k (by omega))).mpr (by omega))]
    unfold f_X5_aheadOf_41
    rw [bit_clr _ (lt_256 hn (al_lt _)) a (by omega) ((al_bit _).mpr ⟨ha, fun S _ _ h _ => h⟩)]
  · show f_X5_aheadOf_7 _ _ _ _ _ _ = f_X5_aheadOf_7 F z 52 (iv (a : Int)) (iv (al c t q n lim a (k + 1) : Int)) (iv ((k + 1 + 1 : Nat) : Int))
    rw [f_X5_aheadOf_7, hW.1, if_neg (fun e => by have := (iv_lt (sm_k (by omega)) (sm_k (by omega))).mp e; omega)]
    rw [al_s]
    unfold f_X5_aheadOf_15
    by_cases hb : Nat.testBit (k + 1) a = true
    · rw [if_neg (fun e => by rw [(bit_all (k + 1) (by omega) a (by omega)).mp e] at hb; exact absurd hb (by decide))]
      unfold f_X5_aheadOf_23
      rw [cs_of hB hn hW (by omega), Option.bind_some]
      by_cases g : th c t q n lim (k + 1) (k + 1) ≤ tu c t q n lim ((2 ^ n - 1) ^^^ (k + 1)) ((2 ^ n - 1) ^^^ (k + 1))
      · show (if ob (th c t q n lim (k + 1) (k + 1) ≤ tu c t q n lim ((2 ^ n - 1) ^^^ (k + 1)) ((2 ^ n - 1) ^^^ (k + 1))) = 0 then _ else _) = _
        rw [if_neg (fun e => ob_0.mp e g), if_pos ⟨hb, g⟩]
        unfold f_X5_aheadOf_31 f_X5_aheadOf_35
        rw [iv_and, iv_s]
      · show (if ob (th c t q n lim (k + 1) (k + 1) ≤ tu c t q n lim ((2 ^ n - 1) ^^^ (k + 1)) ((2 ^ n - 1) ^^^ (k + 1))) = 0 then _ else _) = _
        rw [if_pos (ob_0.mpr g), if_neg (fun e => g e.2)]
        unfold f_X5_aheadOf_35
        rw [iv_s]
    · rw [if_pos ((bit_all (k + 1) (by omega) a (by omega)).mpr (by cases h : Nat.testBit (k + 1) a; rfl; exact absurd h hb)), if_neg (fun e => hb e.1)]
      unfold f_X5_aheadOf_35
      rw [iv_s]
/-- the model: whether one may be ahead of another -/
theorem mb_in (hL : MD z n c t q) (hB : BD n c t q) (hs : s < 256) (hl : 0 ≤ lim ∧ lim ≤ 998) (ha : a < 8) (hb : b < 8) (hf : ∀ i, 0 ≤ f i ∧ f i ≤ 999) (hz : ∀ i, i < s → z.1 89 i = iv (f i)) (K : St → Nat → Int32 → Int32 → Int32 → Int32 → Option (St × Int32)) : f_X11_mayBeAhead_19 K z 68 (iv (a : Int)) (iv (b : Int)) (iv lim) (iv (s : Int)) = f_X11_mayBeAhead_147 K z 68 (iv (a : Int)) (iv (b : Int)) (iv lim) (iv (s : Int)) (iv (eaI c t q lim a b f s n)) := by
  have h8 := hL.2.1
  unfold f_X11_mayBeAhead_19
  refine loop_up (n := n) (fun F k x => f_X11_mayBeAhead_27 K F z 68 (iv (a : Int)) (iv (b : Int)) (iv lim) (iv (s : Int)) (iv x) (iv (k : Int))) (eaI c t q lim a b f s) (fun F => ?_) (fun F k hk => ?_) n 0 FU (by omega) (FU_8 (by omega))
  · show f_X11_mayBeAhead_27 _ _ _ _ _ _ _ _ _ _ = _
    rw [f_X11_mayBeAhead_27, hL.1, if_pos sz_t]
  · have hth := eaI_b (lim := lim) (s := s) (a := a) (b := b) hB hf k (by omega)
    have bk := hB k hk
    obtain ⟨-, e1, e2, e3, -, -, -, -, -, -, i1, i2⟩ := MD_at hL hB hk
    show f_X11_mayBeAhead_27 _ _ _ _ _ _ _ _ _ _ = f_X11_mayBeAhead_27 K F z 68 (iv (a : Int)) (iv (b : Int)) (iv lim) (iv (s : Int)) (iv (eaI c t q lim a b f s (k + 1))) _
    rw [eaI_s]
    generalize eaI c t q lim a b f s k = b0 at *
    rw [f_X11_mayBeAhead_27, hL.1, if_neg (sz_f hk (by omega))]
    unfold f_X11_mayBeAhead_36
    by_cases hbit : Nat.testBit s k = true
    · have fb := hf (s ^^^ (1 <<< k))
      have xd := xor_dn s hs k (by omega) hbit
      have ez := hz _ xd
      rw [if_neg (fun e => by rw [(bit_all s hs k (by omega)).mp e] at hbit; exact absurd hbit (by decide)), bit_xor s hs k (by omega)]
      have j1 : inb (iv ((s ^^^ (1 <<< k) : Nat) : Int)) 256 = true := inb_k (by omega) (by decide)
      have j2 : (iv ((s ^^^ (1 <<< k) : Nat) : Int)).toNatClampNeg = s ^^^ (1 <<< k) := iv_natN (by omega)
      have bx := bit_all (s ^^^ (1 <<< k)) (by omega) a ha
      obtain ⟨R, hR⟩ : ∃ R, R = s ^^^ (1 <<< k) := ⟨_, rfl⟩
      rw [← hR] at j1 j2 fb ez bx ⊢
      have m1 : imax (iv (f R)) (iv (c k)) = iv (max (f R) (c k)) := iv_max ⟨by omega, by omega⟩ ⟨by omega, by omega⟩
      -- the last step alike
      have last : f_X11_mayBeAhead_86 K (f_X11_mayBeAhead_27 K F) z 68 (iv (a : Int)) (iv (b : Int)) (iv lim) (iv (s : Int)) (iv b0) (iv (k : Int)) (iv (R : Int)) = f_X11_mayBeAhead_27 K F z 68 (iv (a : Int)) (iv (b : Int)) (iv lim) (iv (s : Int)) (iv (if max (f R) (c k) + t k + q k ≤ lim then min b0 (max (f R) (c k) + t k) else b0)) (iv ((k + 1 : Nat) : Int)) := by
        unfold f_X11_mayBeAhead_86
        rw [if_pos j1, if_pos i1, if_pos i1, if_pos i1, i2, j2, r68_13, r68_14, r68_15, r68_38, e1, e2, e3, ez, m1, iv_add, iv_add]
        by_cases g : max (f R) (c k) + t k + q k ≤ lim
        · rw [if_neg (fun e => by have := (iv_lt ⟨by omega, by omega⟩ ⟨by omega, by omega⟩).mp e; omega), if_pos g]
          unfold f_X11_mayBeAhead_127 f_X11_mayBeAhead_139 f_X11_mayBeAhead_141
          rw [iv_min ⟨by omega, by omega⟩ ⟨by omega, by omega⟩, iv_s]
        · rw [if_pos ((iv_lt ⟨by omega, by omega⟩ ⟨by omega, by omega⟩).mpr (by omega)), if_neg g]
          unfold f_X11_mayBeAhead_137 f_X11_mayBeAhead_139 f_X11_mayBeAhead_141
          rw [iv_s]
      unfold f_X11_mayBeAhead_55
      rw [if_pos j1, j2, r68_38, ez, show (999 : Int32) = iv 999 by decide]
      by_cases g1 : f R = 999
      · rw [if_pos (by rw [g1]), if_neg (fun e => e.1.2.1 g1)]
        unfold f_X11_mayBeAhead_141
        rw [iv_s]
      · rw [if_neg (fun e => g1 ((iv_eqk ⟨by omega, by omega⟩ 999).mp e))]
        unfold f_X11_mayBeAhead_68
        have kb : (iv (k : Int) = iv (b : Int)) ↔ k = b := by
          rw [iv_eq (sm_k (by omega)) (sm_k (by omega))]
          omega
        by_cases g2 : k = b
        · rw [if_pos (kb.mpr g2)]
          unfold f_X11_mayBeAhead_74
          by_cases g3 : Nat.testBit R a = true
          · rw [if_neg (fun e => by rw [bx.mp e] at g3; exact absurd g3 (by decide)), last]
            by_cases g4 : max (f R) (c k) + t k + q k ≤ lim
            · rw [if_pos g4, if_pos ⟨⟨hbit, g1, fun _ => g3⟩, g4⟩]
            · rw [if_neg g4, if_neg (fun e => g4 e.2)]
          · rw [if_pos (bx.mpr (by cases h : Nat.testBit R a; rfl; exact absurd h g3)), if_neg (fun e => g3 (e.1.2.2 g2))]
            unfold f_X11_mayBeAhead_83 f_X11_mayBeAhead_141
            rw [iv_s]
        · rw [if_neg (fun e => g2 (kb.mp e)), last]
          by_cases g4 : max (f R) (c k) + t k + q k ≤ lim
          · rw [if_pos g4, if_pos ⟨⟨hbit, g1, fun e => absurd e g2⟩, g4⟩]
          · rw [if_neg g4, if_neg (fun e => g4 e.2)]
    · rw [if_pos ((bit_all s hs k (by omega)).mpr (by cases h : Nat.testBit s k; rfl; exact absurd h hbit)), if_neg (fun e => hbit e.1.1)]
      unfold f_X11_mayBeAhead_141
      rw [iv_s]
theorem eZ_fr : ∀ k, Fr (fun a => a = 89) z (eZ c t q n lim a b z k)
  | 0 => Fr.refl.zI (P := fun a => a = 89) rfl
  | k + 1 => (eZ_fr k).zI (P := fun a => a = 89) rfl
theorem eZ_r : ∀ k i, i ≤ k → (eZ c t q n lim a b z k).1 89 i = iv (ea c t q n lim a b k i)
  | 0, i, h => by
    rw [Nat.le_zero.mp h]
    unfold eZ
    rw [rI, if_pos ⟨rfl, rfl⟩]
    exact n_0
  | k + 1, i, h => by
    by_cases e : i = k + 1
    · rw [e, eZ, rI, if_pos ⟨rfl, rfl⟩]
    · have ih := eZ_r k i (by omega)
      have e1 : ea c t q n lim a b (k + 1) i = ea c t q n lim a b k i := by
        show up (ea c t q n lim a b k) (k + 1) _ i = _
        rw [up_ne e]
      rw [e1, eZ, rI, if_neg (by omega)]
      exact ih
theorem MD_89 (hL : MD z n c t q) {z' : St} (hf : Fr (fun a => a = 89) z z') : MD z' n c t q := MD_fr hL (by rw [(hf 68 (by decide)).1]) (fun a h1 h2 => (hf a (by omega)).1)
theorem mal_of (hL : MD z n c t q) : f_X11_all z 68 = some (z, iv ((2 ^ n - 1 : Nat) : Int)) := by
  have h8 := hL.2.1
  unfold f_X11_all f_X11_all_0
  rw [hL.1, ev_all n (by omega)]
theorem mba_of (hL : MD z n c t q) (hB : BD n c t q) (hl : 0 ≤ lim ∧ lim ≤ 998) (ha : a < n) (hb : b < n) : ∃ z', f_X11_mayBeAhead z 68 (iv (a : Int)) (iv (b : Int)) (iv lim) = some (z', ob (ea c t q n lim a b (2 ^ n - 1) (2 ^ n - 1) < 999)) ∧ Fr (fun a => a = 89) z z' := by
  have h8 := hL.2.1
  obtain ⟨p1, p2⟩ := p2_255 h8
  have hLk : ∀ k, MD (eZ c t q n lim a b z k) n c t q := fun k => MD_89 hL (eZ_fr k)
  refine ⟨eZ c t q n lim a b z (2 ^ n - 1), ?_, eZ_fr _⟩
  have fin : f_X11_mayBeAhead_162 (eZ c t q n lim a b z (2 ^ n - 1)) 68 = some (eZ c t q n lim a b z (2 ^ n - 1), ob (ea c t q n lim a b (2 ^ n - 1) (2 ^ n - 1) < 999)) := by
    unfold f_X11_mayBeAhead_162
    have eb := ea_b (lim := lim) (a := a) (b := b) hB (2 ^ n - 1) (2 ^ n - 1)
    rw [mal_of (hLk _), Option.bind_some, if_pos (inb_k (by omega) (by decide)), iv_natN (by omega), r68_38, eZ_r _ _ (Nat.le_refl _), show (999 : Int32) = iv 999 by decide]
    unfold f_X11_mayBeAhead_181 f_X11_mayBeAhead_177 f_X11_mayBeAhead_182 ob
    by_cases g : ea c t q n lim a b (2 ^ n - 1) (2 ^ n - 1) < 999
    · rw [if_neg (fun e => by have := (iv_kle ⟨by omega, by omega⟩ 999).mp e; omega), if_pos g, if_pos zb_1]
    · rw [if_pos ((iv_kle ⟨by omega, by omega⟩ 999).mpr (by omega)), if_neg g, if_pos zb_0]
  have lp : ∀ (d k F : Nat), k + d = 2 ^ n - 1 → d < F → f_X11_mayBeAhead_10 F (eZ c t q n lim a b z k) 68 (iv (a : Int)) (iv (b : Int)) (iv lim) (iv ((k + 1 : Nat) : Int)) = some (eZ c t q n lim a b z (2 ^ n - 1), ob (ea c t q n lim a b (2 ^ n - 1) (2 ^ n - 1) < 999)) := by
    refine loop_up (n := 2 ^ n - 1) (fun F k x => f_X11_mayBeAhead_10 F x 68 (iv (a : Int)) (iv (b : Int)) (iv lim) (iv ((k + 1 : Nat) : Int))) (eZ c t q n lim a b z) (fun F => ?_) (fun F k hk => ?_)
    · show f_X11_mayBeAhead_10 _ _ _ _ _ _ _ = _
      rw [f_X11_mayBeAhead_10, mal_of (hLk _), Option.bind_some]
      show (if iv ((2 ^ n - 1 : Nat) : Int) < iv ((2 ^ n - 1 + 1 : Nat) : Int) then _ else _) = _
      rw [if_pos ((iv_lt (sm_k (by omega)) (sm_k (by omega))).mpr (by omega))]
      exact fin
    · show f_X11_mayBeAhead_10 _ _ _ _ _ _ _ = f_X11_mayBeAhead_10 F (zI (eZ c t q n lim a b z k) 89 (k + 1) (iv (ea c t q n lim a b (k + 1) (k + 1)))) 68 _ _ _ _
      have etu : ea c t q n lim a b (k + 1) (k + 1) = eaI c t q lim a b (ea c t q n lim a b k) (k + 1) n := by
        show up (ea c t q n lim a b k) (k + 1) _ (k + 1) = _
        rw [up_eq]
      have li := mb_in (s := k + 1) (a := a) (b := b) (hLk k) hB (by omega) hl (by omega) (by omega) (ea_b (lim := lim) (a := a) (b := b) hB k) (fun i hi => eZ_r k i (by omega)) (f_X11_mayBeAhead_10 F)
      rw [← etu] at li
      rw [f_X11_mayBeAhead_10, mal_of (hLk _), Option.bind_some]
      show (if iv ((2 ^ n - 1 : Nat) : Int) < iv ((k + 1 : Nat) : Int) then _ else _) = _
      rw [if_neg (fun e => by have := (iv_lt (sm_k (by omega)) (sm_k (by omega))).mp e; omega)]
      show f_X11_mayBeAhead_19 _ (eZ c t q n lim a b z k) _ _ _ _ _ = _
      rw [li]
      unfold f_X11_mayBeAhead_147
      rw [if_pos (inb_k (by omega) (by decide)), iv_natN (by omega), r68_38, iv_s]
  unfold f_X11_mayBeAhead f_X11_mayBeAhead_0
  have i1 : inb 0 256 = true := by decide
  have i2 : Int32.toNatClampNeg 0 = 0 := by decide
  rw [if_pos i1, i2, r68_38]
  exact lp (2 ^ n - 1) 0 FU (by omega) (FU_8 (by omega))
theorem mm_bit {j : Nat} : ∀ k, Nat.testBit (mm c t q n lim a k) j = true ↔ j < k ∧ j ≠ a ∧ ¬ ea c t q n lim a j (2 ^ n - 1) (2 ^ n - 1) < 999
  | 0 => by
    show Nat.testBit 0 j = true ↔ _
    rw [Nat.zero_testBit]
    exact ⟨fun h => absurd h (by decide), fun h => absurd h.1 (Nat.not_lt_zero _)⟩
  | k + 1 => by
    have ih := mm_bit (j := j) k
    unfold mm
    by_cases g : k ≠ a ∧ ¬ ea c t q n lim a k (2 ^ n - 1) (2 ^ n - 1) < 999
    · rw [if_pos g, or_bit, Bool.or_eq_true, ih, decide_eq_true_eq]
      constructor
      · rintro (w | w)
        · exact ⟨by omega, w.2⟩
        · rw [w]
          exact ⟨Nat.lt_succ_self k, g⟩
      · rintro ⟨w1, w2⟩
        by_cases e : j = k
        · exact Or.inr e
        · exact Or.inl ⟨by omega, w2⟩
    · rw [if_neg g, ih]
      constructor
      · rintro ⟨w1, w2⟩
        exact ⟨by omega, w2⟩
      · rintro ⟨w1, w2⟩
        by_cases e : j = k
        · rw [e] at w2
          exact absurd w2 g
        · exact ⟨by omega, w2⟩
theorem mm_lt (hn : n ≤ 8) : ∀ k, k ≤ n → mm c t q n lim a k < 2 ^ n
  | 0, _ => Nat.two_pow_pos n
  | k + 1, hk => by
    have ih := mm_lt hn k (by omega)
    unfold mm
    split
    · exact or_lt n (by omega) _ ih k (by omega)
    · exact ih
theorem mml_of (hL : MD z n c t q) (hB : BD n c t q) (hl : 0 ≤ lim ∧ lim ≤ 998) (ha : a < n) : ∃ z', f_X11_must_25 FU z 68 (iv (a : Int)) (iv lim) 0 0 = some (z', iv (mm c t q n lim a n : Int)) ∧ Fr (fun a => a = 89) z z' := by
  have h8 := hL.2.1
  have lp : ∀ (d k F : Nat) (z1 : St), k + d = n → d < F → Fr (fun a => a = 89) z z1 → ∃ z', f_X11_must_25 F z1 68 (iv (a : Int)) (iv lim) (iv (mm c t q n lim a k : Int)) (iv (k : Int)) = some (z', iv (mm c t q n lim a n : Int)) ∧ Fr (fun a => a = 89) z z' := by
    intro d
    induction d with
    | zero =>
      intro k F z1 hk hF f1
      obtain ⟨F, rfl⟩ : ∃ G, F = G + 1 := ⟨F - 1, by omega⟩
      have : k = n := by omega
      rw [this]
      refine ⟨z1, ?_, f1⟩
      rw [f_X11_must_25, (MD_89 hL f1).1, if_pos sz_t]
      rfl
    | succ d ih =>
      intro k F z1 hk hF f1
      obtain ⟨F, rfl⟩ : ∃ G, F = G + 1 := ⟨F - 1, by omega⟩
      have kn : k < n := by omega
      have hL1 := MD_89 hL f1
      have ml := lt_256 h8 (mm_lt (c := c) (t := t) (q := q) (lim := lim) (a := a) h8 k (by omega))
      have ka : (iv (k : Int) = iv (a : Int)) ↔ k = a := by
        rw [iv_eq (sm_k (by omega)) (sm_k (by omega))]
        omega
      have or0 : iv (mm c t q n lim a k : Int) ||| 0 = iv (mm c t q n lim a k : Int) := Int32.or_zero
      rw [f_X11_must_25, hL1.1, if_neg (sz_f kn (by omega))]
      unfold f_X11_must_34
      by_cases g : k = a
      · rw [if_pos (ka.mpr g)]
        unfold f_X11_must_59 f_X11_must_60
        rw [or0, iv_s]
        have e : mm c t q n lim a (k + 1) = mm c t q n lim a k := by
          rw [mm, if_neg (fun w => w.1 g)]
        rw [← e]
        exact ih (k + 1) F z1 (by omega) (by omega) f1
      · rw [if_neg (fun e => g (ka.mp e))]
        unfold f_X11_must_41
        obtain ⟨z2, m1, m2⟩ := mba_of hL1 hB hl ha kn
        rw [m1, Option.bind_some]
        by_cases w : ea c t q n lim a k (2 ^ n - 1) (2 ^ n - 1) < 999
        · show ∃ z', (if ob (ea c t q n lim a k (2 ^ n - 1) (2 ^ n - 1) < 999) = 0 then _ else _) = _ ∧ _
          rw [if_neg (fun e => ob_0.mp e w)]
          unfold f_X11_must_59 f_X11_must_60
          rw [or0, iv_s]
          have e : mm c t q n lim a (k + 1) = mm c t q n lim a k := by
            rw [mm, if_neg (fun x => x.2 w)]
          rw [← e]
          exact ih (k + 1) F z2 (by omega) (by omega) (f1.trans m2)
        · show ∃ z', (if ob (ea c t q n lim a k (2 ^ n - 1) (2 ^ n - 1) < 999) = 0 then _ else _) = _ ∧ _
          rw [if_pos (ob_0.mpr w)]
          unfold f_X11_must_52 f_X11_must_60
          rw [bit_or _ ml k (by omega), iv_s]
          have e : mm c t q n lim a (k + 1) = mm c t q n lim a k ||| (1 <<< k) := by
            rw [mm, if_pos ⟨g, w⟩]
          rw [← e]
          exact ih (k + 1) F z2 (by omega) (by omega) (f1.trans m2)
  exact lp n 0 FU z (by omega) (FU_8 (by omega)) Fr.refl
/-- both tell the same set -/
theorem mu_eq (hB : BD n c t q) (hn : n ≤ 8) (hl : 0 ≤ lim ∧ lim ≤ 998) (ha : a < n) : al c t q n lim a (2 ^ n - 1) ^^^ (1 <<< a) = mm c t q n lim a n := Nat.eq_of_testBit_eq (fun j => by
  have A := al_bit (c := c) (t := t) (q := q) (n := n) (lim := lim) (a := a) (j := j) (2 ^ n - 1)
  have M := mm_bit (c := c) (t := t) (q := q) (n := n) (lim := lim) (a := a) (j := j) n
  rw [xor_bit]
  by_cases e : j = a
  · rw [e, (al_bit (2 ^ n - 1)).mpr ⟨ha, fun S _ _ h _ => h⟩]
    cases h : Nat.testBit (mm c t q n lim a n) a
    · simp
    · exact absurd rfl ((mm_bit n).mp h).2.1
  · rw [decide_eq_false e, Bool.bne_false, Bool.eq_iff_iff, A, M]
    constructor
    · rintro ⟨h1, h2⟩
      refine ⟨h1, e, fun w => ?_⟩
      obtain ⟨S, s1, s2, s3, s4⟩ := (ma_iff hB hn hl ha h1).mp w
      have S1 : 1 ≤ S := by
        rcases Nat.eq_zero_or_pos S with x | x
        · rw [x, Nat.zero_testBit] at s2
          exact absurd s2 (by decide)
        · exact x
      rw [h2 S S1 (by omega) s2 s4] at s3
      exact absurd s3 (by decide)
    · rintro ⟨h1, -, h2⟩
      refine ⟨h1, fun S s1 s2 s3 s4 => ?_⟩
      have p := Nat.two_pow_pos n
      cases h : Nat.testBit S j
      · exact absurd ((ma_iff hB hn hl ha h1).mpr ⟨S, by omega, s3, h, s4⟩) h2
      · rfl)
theorem s_must (h : INV z sy) (a : Int32) : Both (f_X10_must z 0 a) (fun z => f_X11_must z 68 a) := by
  obtain ⟨k, sk, rfl⟩ := ex_iv a
  have h8 := h.1.1.2.1
  by_cases g : 0 ≤ k ∧ k < sy.1
  · obtain ⟨i, rfl⟩ : ∃ i : Nat, k = i := ⟨k.toNat, by omega⟩
    have hb := BD_I h.2.2.1
    have hB := BD_O h.2.2.1
    have iN : i < sy.1 := by omega
    obtain ⟨s1, s2, -⟩ := SR_ok h8 hb
    obtain ⟨z1, k1, k2, k3, k4, k5, k6⟩ := kl_of h
    obtain ⟨t1, t2, t3⟩ := th_of k2.2.1.1 h.2.2.1
    obtain ⟨z3, l1, l2, l3, l4⟩ := ln_of t2 hb
    obtain ⟨L, hL⟩ : ∃ L, L = (SR (cmO sy.2.1) (tkO sy.2.1) (clO sy.2.1) sy.1).1 := ⟨_, rfl⟩
    unfold LKN at k4
    rw [← hL] at k4 s1 s2 l1
    have W : WG z1 sy.1 (cmO sy.2.1) (tkO sy.2.1) (clO sy.2.1) L := ⟨k4.2.2.2.1, k4.2.2.2.2.1, k4.2.2.2.2.2⟩
    have ao := ao_of hB h8 W iN
    rw [mu_eq hB h8 ⟨s1.1, by omega⟩ iN] at ao
    obtain ⟨z4, q1, q2⟩ := mml_of l2 hB (lim := L) ⟨s1.1, by omega⟩ iN
    have fM : Fr (fun a => sM a ∨ a = 68) z1 z4 := ((t3.mono (Q := fun a => sM a ∨ a = 68) (fun a e => Or.inl (by unfold sM; omega))).trans (l3.mono (fun a e => by unfold sM; omega))).trans (q2.mono (fun a e => by unfold sM; omega))
    refine ⟨z1, z4, iv (mm (cmO sy.2.1) (tkO sy.2.1) (clO sy.2.1) sy.1 L i sy.1 : Int), ?_, ?_, sy, INV_m k2 fM (fun k hk => by rw [(q2 68 (by decide)).1, l4 k hk, (t3 68 (by decide)).1])⟩
    · unfold f_X10_must f_X10_must_0
      rw [r0_0, ho_of h.1.1.1 h8 sk, Option.bind_some]
      show (if ob (0 ≤ ((i : Nat) : Int) ∧ ((i : Nat) : Int) < (sy.1 : Int)) = 0 then _ else _) = _
      rw [if_neg (fun e => ob_0.mp e g)]
      unfold f_X10_must_14
      show ((f_X10_knowLeast z 0).bind _) = _
      rw [k1, Option.bind_some, r0_11, ao, Option.bind_some]
    · show f_X11_must z1 68 (iv ((i : Nat) : Int)) = _
      unfold f_X11_must f_X11_must_0
      rw [ij_of k2.2.1.1 sk, Option.bind_some]
      show (if ob (0 ≤ ((i : Nat) : Int) ∧ ((i : Nat) : Int) < (sy.1 : Int)) = 0 then _ else _) = _
      rw [if_neg (fun e => ob_0.mp e g)]
      unfold f_X11_must_11
      show ((f_X11_thinks z1 68).bind _) = _
      rw [t1, Option.bind_some, l1, Option.bind_some]
      exact q1
  · refine Both_s h (r := iv (-2)) ?_ ?_
    · unfold f_X10_must f_X10_must_0
      rw [r0_0, ho_of h.1.1.1 h8 sk, Option.bind_some]
      show (if ob (0 ≤ k ∧ k < (sy.1 : Int)) = 0 then _ else _) = _
      rw [if_pos (ob_0.mpr g)]
      rfl
    · show f_X11_must z 68 (iv k) = _
      unfold f_X11_must f_X11_must_0
      rw [ij_of h.2.1.1 sk, Option.bind_some]
      show (if ob (0 ≤ k ∧ k < (sy.1 : Int)) = 0 then _ else _) = _
      rw [if_pos (ob_0.mpr g)]
      rfl
end MUST2
