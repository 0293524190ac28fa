/-! LOAD: the other reading methods; loops in general -/
theorem loop_up {α ρ : Type} {n : Nat} {r : ρ} (L : Nat → Nat → α → ρ) (S : Nat → α) (h0 : ∀ F, L (F + 1) n (S n) = r) (h1 : ∀ F k, k < n → L (F + 1) k (S k) = L F (k + 1) (S (k + 1))) : ∀ (d k F : Nat), k + d = n → d < F → L F k (S k) = r
  | _, _, 0, _, h => absurd h (Nat.not_lt_zero _)
  | 0, k, F + 1, e, _ => by
    have e : k = n := e
    subst e
    exact h0 F
  | d + 1, k, F + 1, e, h => by
    rw [h1 F k (by omega)]
    exact loop_up L S h0 h1 d (k + 1) F (by omega) (by omega)
theorem FU_8 {n : Nat} (h : n ≤ 1000000) : n < FU := by
  show n < 4000000
  omega
theorem sz_t {n : Nat} : iv (n : Int) ≤ iv (n : Int) := Int32.le_refl _
theorem sz_f {n k : Nat} (h : k < n) (hn : n < 2147483648) : ¬ iv (n : Int) ≤ iv (k : Int) := fun w => absurd ((iv_le (sm_k hn) (sm_k (by omega))).mp w) (by omega)
/-! the least of some; a sum of some -/
noncomputable def mnS (c : Nat → Int) (p : Nat → Bool) (k : Nat) (b : Int) : Int := if p k = true ∧ (b = -1 ∨ c k < b) then c k else b
noncomputable def mn (c : Nat → Int) (p : Nat → Bool) : Nat → Int
  | 0 => -1
  | k + 1 => mnS c p k (mn c p k)
noncomputable def su (t : Nat → Int) (p : Nat → Bool) : Nat → Int
  | 0 => 0
  | k + 1 => if p k = true then su t p k + t k else su t p k
theorem mn_b {c : Nat → Int} {p : Nat → Bool} {n : Nat} {M : Int} (h : ∀ j, j < n → 0 ≤ c j ∧ c j ≤ M) (hM : 0 ≤ M) : ∀ k : Nat, k ≤ n → -1 ≤ mn c p k ∧ mn c p k ≤ M
  | 0, _ => ⟨Int.le_refl _, by show (-1 : Int) ≤ M; omega⟩
  | k + 1, hk => by
    have ih := mn_b h hM (p := p) k (by omega)
    have := h k (by omega)
    show -1 ≤ mnS c p k _ ∧ mnS c p k _ ≤ M
    unfold mnS
    split <;> constructor <;> omega
theorem su_b {t : Nat → Int} {p : Nat → Bool} {n : Nat} {M : Int} (h : ∀ j, j < n → 0 ≤ t j ∧ t j ≤ M) (hM : 0 ≤ M) : ∀ k : Nat, k ≤ n → 0 ≤ su t p k ∧ su t p k ≤ M * k
  | 0, _ => ⟨Int.le_refl _, by show (0 : Int) ≤ M * 0; omega⟩
  | k + 1, hk => by
    have ih := su_b h hM (p := p) k (by omega)
    have := h k (by omega)
    have e : M * ((k + 1 : Nat) : Int) = M * k + M := by rw [Int.natCast_add, Int.mul_add]; simp
    unfold su
    rw [e]
    split <;> constructor <;> omega
noncomputable def hlS (c q : Nat → Int) (h x : Int) (k : Nat) (b : Int) : Int := if h < c k ∧ c k < b ∧ x < q k then c k else b
noncomputable def hl (c q : Nat → Int) (h x e : Int) : Nat → Int
  | 0 => e
  | k + 1 => hlS c q h x k (hl c q h x e k)
section LOAD2
variable {z : St} {o n : Nat} {c t q : Nat → Int}
theorem hs_of' {p : Nat → Bool} (hL : LD z o n c t q) (hB : BD n c t q) {s : Nat} (hs : s < 256) (hp : ∀ j, p j = !Nat.testBit s j) {h : Int} (hh : sm h) : f_X4_hourOfSome z o (iv (s : Int)) (iv h) = some (z, iv (max (mn c p n) h)) := by
  have h8 := hL.2.1
  have hm : ∀ k, k ≤ n → -1 ≤ mn c p k ∧ mn c p k ≤ 900 := mn_b (fun j hj => ⟨(hB j hj).1.1, (hB j hj).1.2⟩) (by omega)
  refine loop_up (n := n) (fun F k b => f_X4_hourOfSome_5 F z o (iv (s : Int)) (iv h) (iv b) (iv (k : Int))) (mn c p) (fun F => ?_) (fun F k hk => ?_) n 0 FU (by omega) (FU_8 (by omega))
  · have hm1 := hm n (Nat.le_refl _)
    show f_X4_hourOfSome_5 _ _ _ _ _ _ _ = _
    rw [f_X4_hourOfSome_5, hL.1, if_pos sz_t]
    unfold f_X4_hourOfSome_51
    rw [iv_max ⟨by omega, by omega⟩ hh]
  · obtain ⟨-, e1, -, -, b1, b2, -, -, -, -, i1, i2⟩ := LD_at hL hB hk
    have hm1 := hm k (by omega)
    have bs := bit_all s hs k (by omega)
    show f_X4_hourOfSome_5 _ _ _ _ _ _ _ = f_X4_hourOfSome_5 F z o (iv (s : Int)) (iv h) (iv (mnS c p k (mn c p k))) _
    generalize mn c p k = b at *
    have sb : sm b := ⟨by omega, by omega⟩
    rw [f_X4_hourOfSome_5, hL.1, if_neg (sz_f hk (by omega))]
    unfold f_X4_hourOfSome_14 f_X4_hourOfSome_23 f_X4_hourOfSome_28 f_X4_hourOfSome_38 f_X4_hourOfSome_45 mnS
    have pk := hp k
    simp only [bs, comes_at hL hk, Option.bind_some, iv_s, iv_eqm1 sb, iv_le sb (sm_b b1 b2)]
    generalize p k = w' at *
    generalize Nat.testBit s k = w at *
    subst pk
    grind
theorem hs_of (hL : LD z o n c t q) (hB : BD n c t q) {s : Nat} (hs : s < 256) {h : Int} (hh : sm h) : f_X4_hourOfSome z o (iv (s : Int)) (iv h) = some (z, iv (max (mn c (fun j => !Nat.testBit s j) n) h)) := hs_of' hL hB hs (fun _ => rfl) hh
theorem hl_of (hL : LD z o n c t q) (hB : BD n c t q) {j : Nat} (hj : j < n) {h e : Int} (hh : sm h) (he : 0 ≤ e ∧ e ≤ 2000) : f_X4_hourOfLonger z o (iv (j : Int)) (iv h) (iv e) = some (z, iv (hl c q h (q j) e n)) := by
  have h8 := hL.2.1
  obtain ⟨-, -, -, -, -, -, -, -, b5, b6, -, -⟩ := LD_at hL hB hj
  have hm : ∀ k, k ≤ n → 0 ≤ hl c q h (q j) e k ∧ hl c q h (q j) e k ≤ 2000 := by
    intro k
    induction k with
    | zero => exact fun _ => he
    | succ k ih =>
      intro hk
      have := ih (by omega)
      have := hB k (by omega)
      show 0 ≤ hlS c q h (q j) k _ ∧ hlS c q h (q j) k _ ≤ 2000
      unfold hlS
      split <;> constructor <;> omega
  refine loop_up (n := n) (fun F k b => f_X4_hourOfLonger_6 F z o (iv (j : Int)) (iv h) (iv b) (iv (k : Int))) (hl c q h (q j) e) (fun F => ?_) (fun F k hk => ?_) n 0 FU (by omega) (FU_8 (by omega))
  · show f_X4_hourOfLonger_6 _ _ _ _ _ _ _ = _
    rw [f_X4_hourOfLonger_6, hL.1, if_pos sz_t]
    rfl
  · obtain ⟨-, e1, -, e3, b1, b2, -, -, d5, d6, i1, i2⟩ := LD_at hL hB hk
    have hm1 := hm k (by omega)
    show f_X4_hourOfLonger_6 _ _ _ _ _ _ _ = f_X4_hourOfLonger_6 F z o (iv (j : Int)) (iv h) (iv (hlS c q h (q j) k (hl c q h (q j) e k))) _
    generalize hl c q h (q j) e k = b at *
    rw [f_X4_hourOfLonger_6, hL.1, if_neg (sz_f hk (by omega))]
    unfold f_X4_hourOfLonger_15 f_X4_hourOfLonger_25 f_X4_hourOfLonger_36 f_X4_hourOfLonger_50 f_X4_hourOfLonger_58 hlS
    simp only [comes_at hL hk, cools_at hL hk, cools_at hL hj, iv_s, Option.bind_some, iv_le (sm_b b1 b2) hh, iv_le (sm_b hm1.1 hm1.2) (sm_b b1 b2), iv_le (sm_b d5 d6) (sm_b b5 b6)]
    grind
theorem bo_of (hL : LD z o n c t q) (hB : BD n c t q) {s : Nat} (hs : s < 256) : f_X4_boundOf z o (iv (s : Int)) = some (z, iv (mn c (Nat.testBit s) n + su t (Nat.testBit s) n + mn q (Nat.testBit s) n)) := by
  have h8 := hL.2.1
  have hm : ∀ k, k ≤ n → -1 ≤ mn c (Nat.testBit s) k ∧ mn c (Nat.testBit s) k ≤ 900 := mn_b (fun j hj => ⟨(hB j hj).1.1, (hB j hj).1.2⟩) (by omega)
  have hq : ∀ k, k ≤ n → -1 ≤ mn q (Nat.testBit s) k ∧ mn q (Nat.testBit s) k ≤ 900 := mn_b (fun j hj => ⟨(hB j hj).2.2.1, (hB j hj).2.2.2⟩) (by omega)
  refine loop_up (n := n) (fun F k (b : Int × Int × Int) => f_X4_boundOf_10 F z o (iv (s : Int)) (iv b.1) (iv b.2.1) (iv b.2.2) (iv (k : Int))) (fun k => (mn c (Nat.testBit s) k, su t (Nat.testBit s) k, mn q (Nat.testBit s) k)) (fun F => ?_) (fun F k hk => ?_) n 0 FU (by omega) (FU_8 (by omega))
  · show f_X4_boundOf_10 _ _ _ _ _ _ _ _ = _
    rw [f_X4_boundOf_10, hL.1, if_pos sz_t]
    unfold f_X4_boundOf_96
    rw [iv_add, iv_add]
  · obtain ⟨-, e1, e2, e3, b1, b2, -, -, d5, d6, i1, i2⟩ := LD_at hL hB hk
    have hm1 := hm k (by omega)
    have hq1 := hq k (by omega)
    have bs := bit_all s hs k (by omega)
    show f_X4_boundOf_10 _ _ _ _ _ _ _ _ = f_X4_boundOf_10 F z o (iv (s : Int)) (iv (mnS c (Nat.testBit s) k (mn c (Nat.testBit s) k))) (iv (if Nat.testBit s k = true then su t (Nat.testBit s) k + t k else su t (Nat.testBit s) k)) (iv (mnS q (Nat.testBit s) k (mn q (Nat.testBit s) k))) _
    generalize mn c (Nat.testBit s) k = b at *
    generalize mn q (Nat.testBit s) k = b' at *
    have sb : sm b := ⟨by omega, by omega⟩
    have sb' : sm b' := ⟨by omega, by omega⟩
    rw [f_X4_boundOf_10, hL.1, if_neg (sz_f hk (by omega))]
    unfold f_X4_boundOf_19 f_X4_boundOf_28 f_X4_boundOf_42 f_X4_boundOf_33 f_X4_boundOf_52 f_X4_boundOf_77 f_X4_boundOf_68 f_X4_boundOf_88 f_X4_boundOf_90 mnS
    generalize Nat.testBit s k = w at *
    simp only [bs, comes_at hL hk, takes_at hL hk, cools_at hL hk, Option.bind_some, imin, iv_s, iv_add, iv_eqm1 sb, iv_eqm1 sb', iv_lt (sm_b b1 b2) sb, iv_lt (sm_b d5 d6) sb']
    grind
theorem tall_of (hL : LD z o n c t q) (hB : BD n c t q) : f_X4_takesOfAll z o = some (z, iv (su t (fun _ => true) n)) := by
  have h8 := hL.2.1
  refine loop_up (n := n) (fun F k b => f_X4_takesOfAll_4 F z o (iv b) (iv (k : Int))) (su t (fun _ => true)) (fun F => ?_) (fun F k hk => ?_) n 0 FU (by omega) (FU_8 (by omega))
  · show f_X4_takesOfAll_4 _ _ _ _ _ = _
    rw [f_X4_takesOfAll_4, hL.1, if_pos sz_t]
    rfl
  · obtain ⟨-, e1, e2, e3, b1, b2, -, -, d5, d6, i1, i2⟩ := LD_at hL hB hk
    show f_X4_takesOfAll_4 _ _ _ _ _ = f_X4_takesOfAll_4 F z o (iv (su t (fun _ => true) k + t k)) _
    rw [f_X4_takesOfAll_4, hL.1, if_neg (sz_f hk (by omega))]
    unfold f_X4_takesOfAll_12
    simp only [takes_at hL hk, Option.bind_some, iv_s, iv_add]
theorem ev_all : ∀ n : Nat, n < 9 → ((1 : Int32) <<< ((iv (n : Int)) &&& 31)) - 1 = iv ((2 ^ n - 1 : Nat) : Int) := by decide +kernel
theorem ev_of (hL : LD z o n c t q) : f_X4_everyone z o = some (z, iv ((2 ^ n - 1 : Nat) : Int)) := by
  have h8 := hL.2.1
  unfold f_X4_everyone f_X4_everyone_0
  rw [hL.1, ev_all n (by omega)]
end LOAD2
