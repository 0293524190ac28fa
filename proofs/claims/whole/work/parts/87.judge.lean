/-! JUDGE: an order as told on a sheet -/
noncomputable def jl (c t q : Nat → Int) (w : Nat → Int) : Nat → Ly
  | 0 => ly0
  | k + 1 => ap c t q (jl c t q w k) (w k).toNat
theorem jl_s {c t q w : Nat → Int} {k : Nat} : jl c t q w (k + 1) = ap c t q (jl c t q w k) (w k).toNat := rfl
abbrev okJ (c t q : Nat → Int) (n : Nat) (w : Nat → Int) (m : Nat) : Prop := (0 ≤ w m ∧ w m < n) ∧ Nat.testBit (jl c t q w m).2.1 (w m).toNat = false
theorem lgc_lt (a b : Int64) : (lg_cmp a b < 0) ↔ a.toInt < b.toInt := by
  unfold lg_cmp
  by_cases h : a > b
  · rw [if_pos h]
    have : b.toInt < a.toInt := Int64.lt_iff_toInt_lt.mp h
    constructor
    · intro e
      exact absurd e (by decide)
    · intro e
      omega
  · rw [if_neg h]
    have h' : ¬ b.toInt < a.toInt := fun e => h (Int64.lt_iff_toInt_lt.mpr e)
    by_cases e : a = b
    · rw [if_pos e, e]
      constructor
      · intro q
        exact absurd q (by decide)
      · intro q
        omega
    · rw [if_neg e]
      have ne : a.toInt ≠ b.toInt := fun q => e (Int64.toInt_inj.mp q)
      constructor
      · intro _
        omega
      · intro _
        decide
theorem lgc_ge (a b : Int64) : (0 ≤ lg_cmp a b) ↔ b.toInt ≤ a.toInt := by
  have h := lgc_lt a b
  have e : (0 ≤ lg_cmp a b) ↔ ¬ (lg_cmp a b < 0) := by rw [Int32.not_lt]
  rw [e, h]
  omega
theorem t64 {x : Int} (h : sm x) : (Int32.toInt64 (iv x)).toInt = x := by
  rw [Int32.toInt_toInt64, iv_toInt h]
theorem t32 {a : Int64} (h : 0 ≤ a.toInt ∧ a.toInt < 1000) : Int64.toInt32 a = iv a.toInt := by
  rw [← Int32.toInt_inj, Int64.toInt_toInt32, iv_toInt ⟨by omega, by omega⟩]
  exact Int.bmod_eq_of_le (by omega) (by omega)
section JUDGE
variable {z z1 z2 : St} {y : Sy} {n : Nat} {c t q w : Nat → Int} {v : Nat → Nat → Int} {s : Sh}
theorem jl_1 : ∀ k, (jl c t q w k).1 = k
  | 0 => rfl
  | k + 1 => by
    show (jl c t q w k).1 + 1 = _
    rw [jl_1 k]
theorem jl_W (hB : BD n c t q) (hn : n ≤ 8) : ∀ k, k ≤ n → (∀ m, m < k → 0 ≤ w m ∧ w m < n) → WY n (jl c t q w k)
  | 0, _, _ => WY_0
  | k + 1, hk, h => WY_ap hB hn (jl_W hB hn k (by omega) (fun m hm => h m (by omega))) (by rw [jl_1]; omega) (by have := h k (by omega); omega)
theorem jl_cb (h : ∀ m, m < n → 0 ≤ w m ∧ w m < n) : ∀ k, k ≤ n → cb (Nat.testBit (jl c t q w k).2.1) n ≤ k ∧ (cb (Nat.testBit (jl c t q w k).2.1) n = k ↔ ∀ m, m < k → Nat.testBit (jl c t q w m).2.1 (w m).toNat = false)
  | 0, _ => by
    have e : ∀ m, cb (Nat.testBit 0) m = 0 := fun m => by
      induction m with
      | zero => rfl
      | succ m ih =>
        show cb (Nat.testBit 0) m + (if Nat.testBit 0 m = true then 1 else 0) = 0
        rw [ih, Nat.zero_testBit, if_neg (by decide)]
    have e0 : cb (Nat.testBit (jl c t q w 0).2.1) n = 0 := e n
    rw [e0]
    exact ⟨Nat.le_refl _, fun _ m hm => absurd hm (Nat.not_lt_zero _), fun _ => rfl⟩
  | k + 1, hk => by
    obtain ⟨h1, h2⟩ := jl_cb h k (by omega)
    have b := h k (by omega)
    have e : (jl c t q w (k + 1)).2.1 = (jl c t q w k).2.1 ||| (1 <<< (w k).toNat) := rfl
    rw [e]
    cases hb : Nat.testBit (jl c t q w k).2.1 (w k).toNat with
    | true =>
      have e2 : cb (Nat.testBit ((jl c t q w k).2.1 ||| (1 <<< (w k).toNat))) n = cb (Nat.testBit (jl c t q w k).2.1) n := cb_cong n (fun i _ => by
        rw [or_bit]
        by_cases q' : i = (w k).toNat
        · rw [q', hb]
          rfl
        · rw [show decide (i = (w k).toNat) = false from decide_eq_false q', Bool.or_false])
      rw [e2]
      refine ⟨by omega, fun q' => by omega, fun q' => ?_⟩
      have := q' k (by omega)
      rw [hb] at this
      exact absurd this (by decide)
    | false =>
      have e2 := cb_up (p := Nat.testBit (jl c t q w k).2.1) (p' := Nat.testBit ((jl c t q w k).2.1 ||| (1 <<< (w k).toNat))) (fun i => or_bit) hb n (by omega)
      rw [e2]
      refine ⟨by omega, fun q' m hm => ?_, fun q' => ?_⟩
      · by_cases e3 : m = k
        · rw [e3, hb]
        · exact h2.mp (by omega) m (by omega)
      · have := h2.mpr (fun m hm => q' m (by omega))
        omega
theorem jl_all (hB : BD n c t q) (hn : n ≤ 8) (h : ∀ m, m < n → 0 ≤ w m ∧ w m < n) : ((jl c t q w n).2.1 = 2 ^ n - 1) ↔ ∀ m, m < n → Nat.testBit (jl c t q w m).2.1 (w m).toNat = false := by
  have hW := jl_W hB hn n (Nat.le_refl _) h
  rw [← (jl_cb h n (Nat.le_refl _)).2]
  constructor
  · intro e
    rw [e]
    have : ∀ m, m ≤ n → cb (Nat.testBit (2 ^ n - 1)) m = m := fun m => by
      induction m with
      | zero => exact fun _ => rfl
      | succ m ih =>
        intro hm
        show cb (Nat.testBit (2 ^ n - 1)) m + (if Nat.testBit (2 ^ n - 1) m = true then 1 else 0) = m + 1
        rw [ih (by omega), Nat.testBit_two_pow_sub_one, if_pos (by simp; omega)]
    exact this n (Nat.le_refl _)
  · intro e
    apply Nat.eq_of_testBit_eq
    intro i
    rw [Nat.testBit_two_pow_sub_one]
    by_cases hi : i < n
    · rw [cb_all n e i hi]
      simp [hi]
    · have : Nat.testBit (jl c t q w n).2.1 i = false := Nat.testBit_lt_two_pow (Nat.lt_of_lt_of_le hW.2.1 (Nat.pow_le_pow_right (by decide) (by omega)))
      rw [this]
      simp [hi]
theorem jl_row {k : Nat} : ∀ K, k < K → (jl c t q w K).2.2.1 k = (w k).toNat
  | 0, h => absurd h (Nat.not_lt_zero _)
  | K + 1, h => by
    show up (jl c t q w K).2.2.1 (jl c t q w K).1 (w K).toNat k = _
    unfold up
    rw [jl_1]
    by_cases e : k = K
    · rw [if_pos e, e]
    · rw [if_neg e]
      exact jl_row K (by omega)
theorem jl_bit {k : Nat} : ∀ K, k < K → Nat.testBit (jl c t q w K).2.1 (w k).toNat = true
  | 0, h => absurd h (Nat.not_lt_zero _)
  | K + 1, h => by
    show Nat.testBit ((jl c t q w K).2.1 ||| (1 <<< (w K).toNat)) (w k).toNat = true
    rw [or_bit]
    by_cases e : k = K
    · rw [e]
      simp
    · rw [jl_bit K (by omega)]
      rfl
theorem jl_beg (h : ∀ m, m < n → Nat.testBit (jl c t q w m).2.1 (w m).toNat = false) {k : Nat} : ∀ K, K ≤ n → k < K → (jl c t q w K).2.2.2.1 (w k).toNat = max (jl c t q w k).2.2.2.2.2.1 (c (w k).toNat)
  | 0, _, h => absurd h (Nat.not_lt_zero _)
  | K + 1, hK, hk => by
    show up (jl c t q w K).2.2.2.1 (w K).toNat (max (jl c t q w K).2.2.2.2.2.1 (c (w K).toNat)) (w k).toNat = _
    unfold up
    by_cases e : k = K
    · rw [e, if_pos rfl]
    · have ne : (w k).toNat ≠ (w K).toNat := fun q' => by
        have h1 := jl_bit (c := c) (t := t) (q := q) (w := w) (k := k) K (by omega)
        have h2 := h K (by omega)
        rw [q', h2] at h1
        exact absurd h1 (by decide)
      rw [if_neg ne]
      exact jl_beg h K (by omega) (by omega)
theorem jl_idle (h : ∀ m, m < n → (0 ≤ w m ∧ w m < n) ∧ Nat.testBit (jl c t q w m).2.1 (w m).toNat = false) : ∀ k, k ≤ n → (jl c t q w k).2.2.2.2.2.2.2 = (jl c t q w k).2.2.2.2.2.1 - su t (Nat.testBit (jl c t q w k).2.1) n
  | 0, _ => by
    have e : ∀ m, su t (Nat.testBit 0) m = 0 := fun m => by
      induction m with
      | zero => rfl
      | succ m ih =>
        show (if Nat.testBit 0 m = true then _ else su t (Nat.testBit 0) m) = 0
        rw [Nat.zero_testBit, if_neg (by decide), ih]
    show (0 : Int) = 0 - su t (Nat.testBit 0) n
    rw [e]
    rfl
  | k + 1, hk => by
    have g := h k (by omega)
    have ih := jl_idle h k (by omega)
    show (jl c t q w k).2.2.2.2.2.2.2 + (max (jl c t q w k).2.2.2.2.2.1 (c (w k).toNat) - (jl c t q w k).2.2.2.2.2.1) = max (jl c t q w k).2.2.2.2.2.1 (c (w k).toNat) + t (w k).toNat - su t (Nat.testBit ((jl c t q w k).2.1 ||| (1 <<< (w k).toNat))) n
    rw [su_or g.2, if_pos (by omega), ih]
    omega
/-- Laid.has of the class -/
theorem has_of (hn : n ≤ 8) {y : Ly} (hY : z.1 33 4 = iv (y.2.1 : Int)) (hW : y.2.1 < 2 ^ n) {x : Int} (hx : 0 ≤ x ∧ x < 8) : f_X3_has z 33 (iv x) = some (z, ob (Nat.testBit y.2.1 x.toNat = true)) := by
  obtain ⟨k, rfl⟩ : ∃ k : Nat, x = k := ⟨x.toNat, by omega⟩
  have sx : sm (k : Int) := ⟨by omega, by omega⟩
  have bs := bit_all y.2.1 (lt_256 hn hW) k (by omega)
  unfold f_X3_has f_X3_has_0 f_X3_has_4 f_X3_has_10 f_X3_has_21 f_X3_has_25 f_X3_has_26 ob
  rw [hY]
  simp only [iv_lt0 sx, iv_8le sx, bs, zb_0, zb_1, if_true, Int.toNat_natCast]
  rw [if_neg (by omega), if_neg (by omega)]
  by_cases hb : Nat.testBit y.2.1 k = true
  · simp [hb]
  · simp [hb]
theorem lt_loop (hL0 : LD z 21 n c t q) (hB : BD n c t q) {i : Nat} (hi : i < 4) (hS : ShV s) (hn : s.2.1 i = n) (hw : ∀ k, w k = (s.2.2 i k).toInt) : ∀ (d k F : Nat) (z : St), k + d = n → d < F → LD z 21 n c t q → CS z s → z.1 1 1 = iv (n : Int) → (∀ m, m < k → okJ c t q n w m) → LY z 33 n (jl c t q w k) → ∃ z' r, f_X10_layTold_25 F z 0 (60 + 2 * i) (iv (k : Int)) = some (z', r) ∧ Fr (own 33) z z' ∧ ((r = 1 ∧ (∀ m, m < n → okJ c t q n w m) ∧ LY z' 33 n (jl c t q w n)) ∨ (r = 0 ∧ ¬ ∀ m, m < n → okJ c t q n w m))
  | d, k, 0, z, _, hF, _, _, _, _, _ => absurd hF (Nat.not_lt_zero _)
  | 0, k, F + 1, z, e, _, hL, hC, h1, hok, hY => by
    have e : k = n := e
    subst e
    refine ⟨z, 1, ?_, Fr.refl, Or.inl ⟨rfl, hok, hY⟩⟩
    rw [f_X10_layTold_25, (hC i hi).2.1, hn, if_pos sz_t]
    rfl
  | d + 1, k, F + 1, z, e, hF, hL, hC, h1, hok, hY => by
    have h8 := hL.2.1
    have hk : k < n := by omega
    have h40 := (hS i hi).2.1
    have rd : f_X7_read z (60 + 2 * i) (iv (k : Int)) = some (z, s.2.2 i k) := by
      unfold f_X7_read f_X7_read_0 f_X7_read_8 f_X7_read_20
      rw [hs_c hC hS hi (sm_k (by omega)), Option.bind_some]
      show (if ob (0 ≤ (k : Int) ∧ (k : Int) < s.2.1 i) = 0 then _ else _) = _
      rw [if_neg (fun q' => ob_0.mp q' (by omega)), inb_k (show k < 40 by omega) (by decide), if_pos rfl, (shA i hi).2, tn (by omega), (hC i hi).2.2 k (by omega)]
    have c0 : (lg_cmp (s.2.2 i k) 0 < 0) ↔ w k < 0 := by
      rw [lgc_lt, hw]
      rfl
    have cn : (0 ≤ lg_cmp (s.2.2 i k) (Int32.toInt64 (z.1 1 1))) ↔ (n : Int) ≤ w k := by
      rw [lgc_ge, h1, t64 (sm_k (by omega)), hw]
    rw [f_X10_layTold_25, (hC i hi).2.1, hn, if_neg (sz_f hk (by omega))]
    unfold f_X10_layTold_33 f_X10_layTold_45 f_X10_layTold_58 f_X10_layTold_70 f_X10_layTold_72
    rw [rd, Option.bind_some, r0_0, r0_4, r0_7]
    simp only [c0, cn]
    by_cases g0 : w k < 0
    · rw [if_pos g0]
      exact ⟨z, 0, rfl, Fr.refl, Or.inr ⟨rfl, fun a => by have := (a k hk).1.1; omega⟩⟩
    · rw [if_neg g0]
      by_cases g1 : (n : Int) ≤ w k
      · rw [if_pos g1]
        exact ⟨z, 0, rfl, Fr.refl, Or.inr ⟨rfl, fun a => by have := (a k hk).1.2; omega⟩⟩
      · rw [if_neg g1]
        have hW := jl_W hB h8 k (by omega) (fun m hm => (hok m hm).1)
        have e32 : Int64.toInt32 (s.2.2 i k) = iv (w k) := by
          rw [hw]
          exact t32 (by rw [← hw]; omega)
        rw [e32, has_of h8 hY.1.2.1 hW.2.1 (by omega), Option.bind_some]
        simp only [ob_0]
        cases hb : Nat.testBit (jl c t q w k).2.1 (w k).toNat with
        | true =>
          rw [if_neg (by simp)]
          refine ⟨z, 0, rfl, Fr.refl, Or.inr ⟨rfl, fun a => ?_⟩⟩
          have := (a k hk).2
          rw [hb] at this
          exact absurd this (by decide)
        | false =>
          rw [if_pos (by simp)]
          have ei : iv (w k) = iv ((w k).toNat : Int) := by rw [show (((w k).toNat : Nat) : Int) = w k by omega]
          have ap1 := ap_e (o := 33) (u := 21) (by decide) (by decide) hL hB hY hW (by rw [jl_1]; omega) (j := (w k).toNat) (by omega)
          have fz := apZ_fr (z := z) (o := 33) (by decide) (y' := ap c t q (jl c t q w k) (w k).toNat) (s := (jl c t q w k).1) (j := (w k).toNat)
          have o33 : ∀ a, own 33 a → 33 ≤ a ∧ a ≤ 36 := fun a ha => by have := own_rng (o := 33) (Or.inl (by decide)) ha; omega
          have hL' := LD_fr hL (fun a ha => (fz a (fun x => by have := own_rng (o := 21) (Or.inr (by decide)) ha; have := o33 a x; omega)).1)
          have hC' : CS (apZ z 33 (ap c t q (jl c t q w k) (w k).toNat) (jl c t q w k).1 (w k).toNat) s := CS_fr hC (fun a e1 e2 => fz a (fun x => by have := o33 a x; omega))
          obtain ⟨z', r, p1, p2, p3⟩ := lt_loop hL0 hB hi hS hn hw d (k + 1) F _ (by omega) (by omega) hL' hC' (by rw [(fz 1 (fun x => by have := o33 1 x; omega)).1]; exact h1) (fun m hm => by
            by_cases q' : m = k
            · rw [q']
              exact ⟨⟨by omega, by omega⟩, hb⟩
            · exact hok m (by omega)) (apZ_LY (o := 33) (by decide) hY (j := (w k).toNat))
          refine ⟨z', r, ?_, fz.trans p2, p3⟩
          rw [ei, ap1, Option.bind_some, iv_s]
          exact p1
end JUDGE
