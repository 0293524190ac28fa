/-! THE FIRST LEAST ORDER -/
noncomputable def ff (c t q : Nat → Int) (n : Nat) (lim : Int) (left : Nat) (h : Int) : Nat → Nat → Int
  | 0, _ => -1
  | d + 1, k => if Nat.testBit left k = true ∧ max h (c k) ≤ min (lim - q k) (tu c t q n lim (left ^^^ (1 <<< k)) (left ^^^ (1 <<< k))) - t k then (k : Int) else ff c t q n lim left h d (k + 1)
def lfS (n : Nat) (y : Ly) : Nat := (2 ^ n - 1) ^^^ y.2.1
noncomputable def fn (c t q : Nat → Int) (n : Nat) (lim : Int) (y : Ly) : Nat := (ff c t q n lim (lfS n y) y.2.2.2.2.2.1 n 0).toNat
noncomputable def fo (c t q : Nat → Int) (n : Nat) (lim : Int) : Nat → Ly
  | 0 => ly0
  | k + 1 => ap c t q (fo c t q n lim k) (fn c t q n lim (fo c t q n lim k))
theorem not_all_bits : ∀ n : Nat, n < 9 → ∀ m : Nat, m < 2 ^ n → (iv ((2 ^ n - 1 : Nat) : Int)) &&& ((iv (m : Int)) ^^^ (-1 : Int32)) = iv (((2 ^ n - 1) ^^^ m : Nat) : Int) := by decide +kernel
theorem xor_lt_all : ∀ n : Nat, n < 9 → ∀ m : Nat, m < 2 ^ n → (2 ^ n - 1) ^^^ m < 2 ^ n := by decide +kernel
section FIRST
variable {z : St} {n : Nat} {c t q : Nat → Int} {lim : Int} {y : Ly}
theorem or_xor {s i : Nat} (h : Nat.testBit s i = false) : s ||| (1 <<< i) = s ^^^ (1 <<< i) := Nat.eq_of_testBit_eq (fun j => by
  rw [or_bit, xor_bit]
  by_cases e : j = i
  · rw [e, h]
    simp
  · rw [decide_eq_false e]
    simp)
theorem lfS_bit {i : Nat} (hi : i < n) : Nat.testBit (lfS n y) i = !Nat.testBit y.2.1 i := by
  unfold lfS
  rw [Nat.testBit_xor, Nat.testBit_two_pow_sub_one, decide_eq_true hi, Bool.true_xor]
theorem lfS_ap {j : Nat} (h : Nat.testBit y.2.1 j = false) : lfS n (ap c t q y j) = lfS n y ^^^ (1 <<< j) := by
  show (2 ^ n - 1) ^^^ (y.2.1 ||| (1 <<< j)) = (2 ^ n - 1) ^^^ y.2.1 ^^^ (1 <<< j)
  rw [or_xor h, Nat.xor_assoc]
theorem ff_ok {left : Nat} {h : Int} : ∀ (d k : Nat), (ff c t q n lim left h d k = -1 ∧ ∀ i, k ≤ i → i < k + d → ¬ (Nat.testBit left i = true ∧ max h (c i) ≤ min (lim - q i) (tu c t q n lim (left ^^^ (1 <<< i)) (left ^^^ (1 <<< i))) - t i)) ∨ ∃ i : Nat, ff c t q n lim left h d k = (i : Int) ∧ i < k + d ∧ Nat.testBit left i = true ∧ max h (c i) ≤ min (lim - q i) (tu c t q n lim (left ^^^ (1 <<< i)) (left ^^^ (1 <<< i))) - t i
  | 0, k => Or.inl ⟨rfl, fun i h1 h2 => by omega⟩
  | d + 1, k => by
    unfold ff
    by_cases g : Nat.testBit left k = true ∧ max h (c k) ≤ min (lim - q k) (tu c t q n lim (left ^^^ (1 <<< k)) (left ^^^ (1 <<< k))) - t k
    · rw [if_pos g]
      exact Or.inr ⟨k, rfl, by omega, g⟩
    · rw [if_neg g]
      rcases ff_ok (left := left) (h := h) d (k + 1) with ⟨w1, w2⟩ | ⟨i, i1, i2, i3⟩
      · refine Or.inl ⟨w1, fun i h1 h2 => ?_⟩
        by_cases e : i = k
        · rw [e]
          exact g
        · exact w2 i (by omega) (by omega)
      · exact Or.inr ⟨i, i1, by omega, i3⟩
theorem nfi1 {h ci ti qi lim v : Int} : (max h ci ≤ min (lim - qi) v - ti) ↔ (max h ci + ti + qi ≤ lim ∧ max h ci + ti ≤ v) := by omega
/-- who goes on in time, told by the two weights alike -/
theorem ok_iff (hB : BD n c t q) (hn : n ≤ 8) (hl : lim ≤ 998) {left : Nat} (hS : left < 2 ^ n) {h : Int} (h0 : 0 ≤ h) {i : Nat} (hb : Nat.testBit left i = true) (b : Int) (hb2 : b = 100000 ∨ b = 999) : (max h (c i) + t i + q i ≤ lim ∧ ∃ l, setl (left ^^^ (1 <<< i)) l ∧ inTm c t q lim (max h (c i) + t i) l) ↔ (max h (c i) + t i + q i ≤ lim ∧ max h (c i) + t i ≤ tuB b c t q n lim (left ^^^ (1 <<< i)) (left ^^^ (1 <<< i))) := by
  have iN := tb_lt hS hb
  have xd := xor_dn left (lt_256 hn hS) i (by omega) hb
  have bi := hB i iN
  constructor
  · rintro ⟨g1, g2⟩
    exact ⟨g1, (tu_ok hB hn (by omega) (by omega) (by omega) (by omega)).mp g2⟩
  · rintro ⟨g1, g2⟩
    exact ⟨g1, (tu_ok hB hn (by omega) (by omega) (by omega) (by omega)).mpr g2⟩
/-- one of those who are left can go on, and then the others can -/
theorem fn_ok (hB : BD n c t q) (hn : n ≤ 8) (hl : lim ≤ 998) (hW : WY n y) (hs : cb (Nat.testBit y.2.1) n < n) (hl2 : ∃ l, setl (lfS n y) l ∧ inTm c t q lim y.2.2.2.2.2.1 l) : ff c t q n lim (lfS n y) y.2.2.2.2.2.1 n 0 = (fn c t q n lim y : Int) ∧ fn c t q n lim y < n ∧ Nat.testBit y.2.1 (fn c t q n lim y) = false ∧ max y.2.2.2.2.2.1 (c (fn c t q n lim y)) + t (fn c t q n lim y) + q (fn c t q n lim y) ≤ lim ∧ ∃ l, setl (lfS n y ^^^ (1 <<< fn c t q n lim y)) l ∧ inTm c t q lim (max y.2.2.2.2.2.1 (c (fn c t q n lim y)) + t (fn c t q n lim y)) l := by
  have hS : lfS n y < 2 ^ n := xor_lt_all n (by omega) y.2.1 hW.2.1
  have h0 := hW.2.2.1.1
  obtain ⟨l, l1, l2⟩ := hl2
  have key : ∀ i, Nat.testBit (lfS n y) i = true → ((max y.2.2.2.2.2.1 (c i) + t i + q i ≤ lim ∧ ∃ l, setl (lfS n y ^^^ (1 <<< i)) l ∧ inTm c t q lim (max y.2.2.2.2.2.1 (c i) + t i) l) ↔ max y.2.2.2.2.2.1 (c i) ≤ min (lim - q i) (tu c t q n lim (lfS n y ^^^ (1 <<< i)) (lfS n y ^^^ (1 <<< i))) - t i) := fun i hi => by
    rw [nfi1, tu_tuB]
    exact ok_iff hB hn hl hS h0 hi 100000 (Or.inl rfl)
  have ex : ∃ i, i < n ∧ Nat.testBit (lfS n y) i = true ∧ max y.2.2.2.2.2.1 (c i) ≤ min (lim - q i) (tu c t q n lim (lfS n y ^^^ (1 <<< i)) (lfS n y ^^^ (1 <<< i))) - t i := by
    cases l with
    | nil =>
      have e := setl_nil l1
      obtain ⟨j, j1, j2⟩ := cb_ex n hs
      have := lfS_bit (y := y) j1
      rw [e, Nat.zero_testBit, j2] at this
      exact absurd this (by decide)
    | cons i l =>
      obtain ⟨c1, c2⟩ := setl_cons l1
      exact ⟨i, tb_lt hS c1, c1, (key i c1).mp ⟨l2.1, l, c2, l2.2⟩⟩
  obtain ⟨i0, i1, i2, i3⟩ := ex
  rcases ff_ok (c := c) (t := t) (q := q) (n := n) (lim := lim) (left := lfS n y) (h := y.2.2.2.2.2.1) n 0 with ⟨-, w2⟩ | ⟨i, w1, w2, w3, w4⟩
  · exact absurd ⟨i2, i3⟩ (w2 i0 (Nat.zero_le _) (by omega))
  · have ei : fn c t q n lim y = i := by
      unfold fn
      rw [w1]
      rfl
    rw [ei, w1]
    have k := (key i w3).mpr w4
    have iN : i < n := by omega
    refine ⟨rfl, iN, ?_, k.1, k.2⟩
    have := lfS_bit (y := y) iN
    rw [w3] at this
    cases hb : Nat.testBit y.2.1 i
    · rfl
    · rw [hb] at this
      exact absurd this (by decide)
theorem fo_inv (hB : BD n c t q) (hn : n ≤ 8) (hl : lim ≤ 998) (h0 : ∃ l, ord n l ∧ inTm c t q lim 0 l) : ∀ k, k ≤ n → WY n (fo c t q n lim k) ∧ cb (Nat.testBit (fo c t q n lim k).2.1) n = k ∧ (fo c t q n lim k).1 = k ∧ ∃ l, setl (lfS n (fo c t q n lim k)) l ∧ inTm c t q lim (fo c t q n lim k).2.2.2.2.2.1 l
  | 0, _ => by
    refine ⟨WY_0, (gr_inv hB hn 0 (Nat.zero_le _)).2.1, rfl, ?_⟩
    obtain ⟨l, l1, l2⟩ := h0
    refine ⟨l, ?_, l2⟩
    show setl ((2 ^ n - 1) ^^^ 0) l
    rw [Nat.xor_zero]
    exact setl_ord.mpr l1
  | k + 1, hk => by
    obtain ⟨i1, i2, i3, i4⟩ := fo_inv hB hn hl h0 k (by omega)
    obtain ⟨f1, f2, f3, f4, f5⟩ := fn_ok hB hn hl i1 (by omega) i4
    refine ⟨WY_ap hB hn i1 (by omega) f2, ?_, congrArg (· + 1) i3, ?_⟩
    · show cb (Nat.testBit ((fo c t q n lim k).2.1 ||| (1 <<< fn c t q n lim (fo c t q n lim k)))) n = k + 1
      rw [cb_up (p := Nat.testBit (fo c t q n lim k).2.1) (p' := Nat.testBit ((fo c t q n lim k).2.1 ||| (1 <<< fn c t q n lim (fo c t q n lim k)))) (j := fn c t q n lim (fo c t q n lim k)) (fun i => or_bit) f3 n f2, i2]
    · show ∃ l, setl (lfS n (ap c t q (fo c t q n lim k) (fn c t q n lim (fo c t q n lim k)))) l ∧ _
      rw [lfS_ap f3]
      exact f5
/-- the class: who goes on -/
theorem fg_of (hL : LD z 21 n c t q) (hB : BD n c t q) (hl : 0 ≤ lim ∧ lim ≤ 998) (h4 : z.1 52 4 = iv ((2 ^ n - 1 : Nat) : Int)) (h5 : z.1 52 5 = iv lim) (hz : ∀ s, s < 2 ^ n → z.1 54 s = iv (tu c t q n lim s s)) (hY : LY z 33 n y) (hW : WY n y) : f_X5_firstToGoOn z 52 21 33 = some (z, iv (ff c t q n lim (lfS n y) y.2.2.2.2.2.1 n 0)) := by
  have h8 := hL.2.1
  have hS : lfS n y < 2 ^ n := xor_lt_all n (by omega) y.2.1 hW.2.1
  have hS8 := lt_256 h8 hS
  have lp : ∀ (d k F : Nat), k + d = n → d < F → f_X5_firstToGoOn_15 F z 52 21 33 (iv (lfS n y : Int)) (iv (k : Int)) = some (z, iv (ff c t q n lim (lfS n y) y.2.2.2.2.2.1 d k)) := by
    intro d
    induction d with
    | zero =>
      intro k F hk hF
      obtain ⟨F, rfl⟩ : ∃ G, F = G + 1 := ⟨F - 1, by omega⟩
      rw [f_X5_firstToGoOn_15, hL.1, show k = n by omega, if_pos sz_t]
      unfold f_X5_firstToGoOn_77
      rw [n_m1]
      rfl
    | succ d ih =>
      intro k F hk hF
      obtain ⟨F, rfl⟩ : ∃ G, F = G + 1 := ⟨F - 1, by omega⟩
      have kn : k < n := by omega
      have b := hB k kn
      have ih := ih (k + 1) F (by omega) (by omega)
      rw [f_X5_firstToGoOn_15, hL.1, if_neg (sz_f kn (by omega))]
      unfold f_X5_firstToGoOn_24 ff
      by_cases hb : Nat.testBit (lfS n y) k = true
      · have xd := xor_dn _ hS8 k (by omega) hb
        obtain ⟨e1, -, -⟩ := ctq_of hL kn
        have e2 := lb_of hL hB (lim := lim) ⟨hl.1, by omega⟩ h5 kn (r := lfS n y ^^^ (1 <<< k)) (by omega) (tu_b hB _ _) (hz _ (by omega))
        rw [if_neg (fun e => by rw [(bit_all _ hS8 k (by omega)).mp e] at hb; exact absurd hb (by decide))]
        unfold f_X5_firstToGoOn_33
        have tb := tu_b (lim := lim) hB (lfS n y ^^^ (1 <<< k)) (lfS n y ^^^ (1 <<< k))
        have w0 := hW.2.2.1
        have y8 := hW.1
        have m1 : imax (iv y.2.2.2.2.2.1) (iv (c k)) = iv (max y.2.2.2.2.2.1 (c k)) := iv_max ⟨by omega, by omega⟩ ⟨by omega, by omega⟩
        rw [bit_clr _ hS8 k (by omega) hb]
        simp only [e1, e2, Option.bind_some, hY.1.2.2.1, m1]
        by_cases g : max y.2.2.2.2.2.1 (c k) ≤ min (lim - q k) (tu c t q n lim (lfS n y ^^^ (1 <<< k)) (lfS n y ^^^ (1 <<< k))) - t k
        · rw [if_neg (fun e => by have := (iv_lt ⟨by omega, by omega⟩ ⟨by omega, by omega⟩).mp e; omega), if_pos ⟨hb, g⟩]
          rfl
        · rw [if_pos ((iv_lt ⟨by omega, by omega⟩ ⟨by omega, by omega⟩).mpr (by omega)), if_neg (fun e => g e.2)]
          unfold f_X5_firstToGoOn_71
          rw [iv_s]
          exact ih
      · rw [if_pos ((bit_all _ hS8 k (by omega)).mpr (by cases h : Nat.testBit (lfS n y) k; rfl; exact absurd h hb)), if_neg (fun e => hb e.1)]
        unfold f_X5_firstToGoOn_71
        rw [iv_s]
        exact ih
  unfold f_X5_firstToGoOn f_X5_firstToGoOn_0
  rw [h4, hY.1.2.1, not_all_bits n (by omega) y.2.1 hW.2.1]
  exact lp n 0 FU (by omega) (FU_8 (by omega))
noncomputable def foZ (c t q : Nat → Int) (n : Nat) (lim : Int) (z : St) : Nat → St
  | 0 => zI (zI (zI (zI (zI z 33 3 0) 33 4 0) 33 5 0) 33 6 0) 33 7 0
  | k + 1 => apZ (foZ c t q n lim z k) 33 (fo c t q n lim (k + 1)) k (fn c t q n lim (fo c t q n lim k))
theorem foZ_fr : ∀ k, Fr (own 33) z (foZ c t q n lim z k)
  | 0 => by
    have o0 : own 33 33 := Or.inl rfl
    exact ((((Fr.refl.zI o0).zI o0).zI o0).zI o0).zI o0
  | k + 1 => (foZ_fr k).trans (apZ_fr (by decide))
theorem foZ_LY (hB : BD n c t q) (hn : n ≤ 8) (hl : lim ≤ 998) (h0 : ∃ l, ord n l ∧ inTm c t q lim 0 l) : ∀ k, k ≤ n → LY (foZ c t q n lim z k) 33 n (fo c t q n lim k)
  | 0, _ => lgZ_LY (z := z) (o := 33) (by decide) hB hn 0 (Nat.zero_le _)
  | k + 1, hk => by
    have h := apZ_LY (o := 33) (by decide) (foZ_LY hB hn hl h0 k (by omega)) (c := c) (t := t) (q := q) (j := fn c t q n lim (fo c t q n lim k))
    rw [(fo_inv hB hn hl h0 k (by omega)).2.2.1] at h
    exact h
theorem lf_of (hL : LD z 21 n c t q) (hB : BD n c t q) (hl : 0 ≤ lim ∧ lim ≤ 998) (h0 : ∃ l, ord n l ∧ inTm c t q lim 0 l) (h4 : z.1 52 4 = iv ((2 ^ n - 1 : Nat) : Int)) (h5 : z.1 52 5 = iv lim) (hz : ∀ s, s < 2 ^ n → z.1 54 s = iv (tu c t q n lim s s)) : f_X5_layFirst z 52 21 33 = some (foZ c t q n lim z n) := by
  have h8 := hL.2.1
  have own33 : ∀ a, own 33 a → 33 ≤ a ∧ a ≤ 36 := fun a e => own_rng (o := 33) (Or.inl (by decide)) e
  have hk1 : ∀ k, LD (foZ c t q n lim z k) 21 n c t q := fun k => LD_fr hL (fun a ha => by
    have := own_rng (o := 21) (Or.inr (by decide)) ha
    exact (foZ_fr k a (fun e => by have := own33 a e; omega)).1)
  have hk2 : ∀ k a, 52 ≤ a → (foZ c t q n lim z k).1 a = z.1 a := fun k a ha => (foZ_fr k a (fun e => by have := own33 a e; omega)).1
  unfold f_X5_layFirst f_X5_layFirst_0 f_X3_clear f_X3_clear_0
  rw [Option.bind_some]
  refine loop_up (n := n) (fun F k b => f_X5_layFirst_6 F b 52 21 33 (iv (k : Int))) (foZ c t q n lim z) (fun F => ?_) (fun F k hk => ?_) n 0 FU (by omega) (FU_8 (by omega))
  · show f_X5_layFirst_6 _ _ _ _ _ _ = _
    rw [f_X5_layFirst_6, (hk1 n).1, if_pos sz_t]
    rfl
  · show f_X5_layFirst_6 _ _ _ _ _ _ = f_X5_layFirst_6 F (apZ (foZ c t q n lim z k) 33 (fo c t q n lim (k + 1)) k (fn c t q n lim (fo c t q n lim k))) _ _ _ _
    obtain ⟨i1, i2, i3, i4⟩ := fo_inv hB h8 hl.2 h0 k (by omega)
    obtain ⟨f1, f2, f3, f4, f5⟩ := fn_ok hB h8 hl.2 i1 (by omega) i4
    have hY := foZ_LY (z := z) hB h8 hl.2 h0 k (by omega)
    have fg := fg_of (hk1 k) hB hl (by rw [hk2 k 52 (by decide)]; exact h4) (by rw [hk2 k 52 (by decide)]; exact h5) (fun s hs => by rw [hk2 k 54 (by decide)]; exact hz s hs) hY i1
    rw [f1] at fg
    rw [f_X5_layFirst_6, (hk1 k).1, if_neg (sz_f hk (by omega))]
    unfold f_X5_layFirst_14
    rw [fg, Option.bind_some]
    show ((f_X3_append _ 33 21 _).bind _) = _
    rw [ap_e (by decide) (by decide) (hk1 k) hB hY i1 (by omega) f2, Option.bind_some, iv_s, i3]
    rfl
end FIRST
