/-! MANY: how the model counts -/
noncomputable def sS (t : Nat → Int) (n S : Nat) : Int := su t (Nat.testBit S) n
/-- where a cell is spread to -/
noncomputable def spY (c t : Nat → Int) (n S : Nat) (e : Int) (j : Nat) : Nat := 64 * (S ||| (1 <<< j)) + (max (sS t n S + e) (c j) + t j - sS t n (S ||| (1 <<< j))).toNat
noncomputable def spC (c t q : Nat → Int) (n : Nat) (lim : Int) (C : Nat → Int) (S e : Nat) : Nat → Nat → Int
  | 0 => C
  | j + 1 => if Nat.testBit S j = false ∧ max (sS t n S + (e : Int)) (c j) + t j + q j ≤ lim then up (spC c t q n lim C S e j) (spY c t n S e j) (spC c t q n lim C S e j (spY c t n S e j) + spC c t q n lim C S e j (64 * S + e)) else spC c t q n lim C S e j
def gG (V C : Nat → Int) (x0 : Nat) : Nat → Int
  | 0 => 0
  | x + 1 => gG V C x0 x + (if x0 ≤ x then C x * V x else 0)
noncomputable def sV (V c t q : Nat → Int) (n : Nat) (lim : Int) (S e : Nat) : Nat → Int
  | 0 => 0
  | j + 1 => sV V c t q n lim S e j + (if Nat.testBit S j = false ∧ max (sS t n S + (e : Int)) (c j) + t j + q j ≤ lim then V (spY c t n S e j) else 0)
noncomputable def V1 (c t q : Nat → Int) (n : Nat) (lim : Int) (x : Nat) : Int := (wn c t q n lim n ((2 ^ n - 1) ^^^ (x / 64)) (sS t n (x / 64) + (x % 64 : Nat)) : Int)
noncomputable def V2 (n : Nat) (x : Nat) : Int := 8 ^ (n - cb (Nat.testBit (x / 64)) n)
section MANY
variable {z : St} {n : Nat} {c t q : Nat → Int} {lim : Int} {V C : Nat → Int} {S e : Nat}
theorem gG_up {y x0 : Nat} {w : Int} : ∀ N, gG V (up C y w) x0 N = gG V C x0 N + (if x0 ≤ y ∧ y < N then (w - C y) * V y else 0)
  | 0 => by
    rw [if_neg (by omega)]
    rfl
  | N + 1 => by
    have ih := gG_up (y := y) (x0 := x0) (w := w) N
    show gG V (up C y w) x0 N + (if x0 ≤ N then up C y w N * V N else 0) = gG V C x0 N + (if x0 ≤ N then C N * V N else 0) + _
    rw [ih]
    by_cases e : N = y
    · rw [e, up_eq, if_neg (show ¬ (x0 ≤ y ∧ y < y) by omega)]
      by_cases g : x0 ≤ y
      · rw [if_pos g, if_pos g, if_pos ⟨g, Nat.lt_succ_self y⟩, Int.sub_mul]
        omega
      · rw [if_neg g, if_neg g, if_neg (fun w => g w.1)]
    · have A : (if x0 ≤ y ∧ y < N + 1 then (w - C y) * V y else 0) = (if x0 ≤ y ∧ y < N then (w - C y) * V y else 0) := by
        by_cases g : x0 ≤ y ∧ y < N
        · rw [if_pos g, if_pos ⟨g.1, by omega⟩]
        · rw [if_neg g, if_neg (fun w => g ⟨w.1, by omega⟩)]
      rw [up_ne e, A]
      generalize (if x0 ≤ y ∧ y < N then (w - C y) * V y else 0) = P
      generalize (if x0 ≤ N then C N * V N else 0) = Q
      omega
theorem gG_0 {x0 : Nat} : ∀ N, N ≤ x0 → gG V C x0 N = 0
  | 0, _ => rfl
  | N + 1, h => by
    show gG V C x0 N + (if x0 ≤ N then C N * V N else 0) = 0
    rw [gG_0 N (by omega), if_neg (by omega)]
    rfl
theorem gG_s {x0 : Nat} : ∀ N, x0 < N → gG V C x0 N = C x0 * V x0 + gG V C (x0 + 1) N
  | 0, h => absurd h (Nat.not_lt_zero _)
  | N + 1, h => by
    show gG V C x0 N + (if x0 ≤ N then C N * V N else 0) = C x0 * V x0 + (gG V C (x0 + 1) N + (if x0 + 1 ≤ N then C N * V N else 0))
    by_cases e : x0 = N
    · rw [e, gG_0 N (Nat.le_refl _), gG_0 N (by omega), if_pos (Nat.le_refl _), if_neg (by omega)]
      omega
    · rw [gG_s N (by omega), if_pos (show x0 ≤ N by omega), if_pos (show x0 + 1 ≤ N by omega)]
      omega
theorem gG_p {x0 : Nat} : ∀ N, (∀ x, x < N → 0 ≤ C x ∧ 0 ≤ V x) → 0 ≤ gG V C x0 N
  | 0, _ => Int.le_refl _
  | N + 1, h => by
    have ih := gG_p (x0 := x0) N (fun x hx => h x (by omega))
    have b := h N (Nat.lt_succ_self N)
    have m := Int.mul_nonneg b.1 b.2
    show 0 ≤ gG V C x0 N + (if x0 ≤ N then C N * V N else 0)
    split <;> omega
theorem sS_up {j : Nat} (hj : j < n) (hb : Nat.testBit S j = false) : sS t n (S ||| (1 <<< j)) = sS t n S + t j := su_up (p := Nat.testBit S) (p' := Nat.testBit (S ||| (1 <<< j))) (fun i => or_bit) hb n hj
theorem sS_b (hB : BD n c t q) (hn : n ≤ 8) : 0 ≤ sS t n S ∧ sS t n S ≤ 200 := by
  have := su_b (t := t) (p := Nat.testBit S) (n := n) (M := 25) (fun j hj => ⟨by have := hB j hj; omega, by have := hB j hj; omega⟩) (by decide) n (Nat.le_refl _)
  unfold sS
  omega
theorem or_gt {j : Nat} (hb : Nat.testBit S j = false) : S < S ||| (1 <<< j) := by
  rcases Nat.lt_or_ge S (S ||| (1 <<< j)) with h | h
  · exact h
  · have e : S ||| (1 <<< j) = S := Nat.le_antisymm h Nat.left_le_or
    have : Nat.testBit (S ||| (1 <<< j)) j = true := by
      rw [or_bit]
      simp
    rw [e, hb] at this
    exact absurd this (by decide)
/-- the cell that one is spread to: its set, its idle hours -/
theorem spY_ok (hB : BD n c t q) (hn : n ≤ 8) (hc : ∀ j, j < n → c j ≤ 63) (hS : S < 2 ^ n) (he : e < 64) {j : Nat} (hj : j < n) (hb : Nat.testBit S j = false) : spY c t n S e j / 64 = S ||| (1 <<< j) ∧ sS t n (S ||| (1 <<< j)) + ((spY c t n S e j % 64 : Nat) : Int) = max (sS t n S + (e : Int)) (c j) + t j ∧ 64 * S + 64 ≤ spY c t n S e j ∧ spY c t n S e j < 64 * 2 ^ n ∧ (spY c t n S e j : Int) = 64 * ((S ||| (1 <<< j) : Nat) : Int) + (max (sS t n S + (e : Int)) (c j) + t j) - sS t n (S ||| (1 <<< j)) := by
  have u := sS_up (t := t) hj hb
  have b := sS_b (S := S) hB hn
  have cj := hc j hj
  have bj := hB j hj
  have g := or_gt hb
  have l := or_lt n (by omega) S hS j hj
  obtain ⟨M, hM⟩ : ∃ M, M = S ||| (1 <<< j) := ⟨_, rfl⟩
  obtain ⟨I, hI⟩ : ∃ I : Nat, (max (sS t n S + (e : Int)) (c j) + t j - sS t n M) = (I : Int) ∧ I < 64 := by
    rw [hM, u]
    exact ⟨(max (sS t n S + (e : Int)) (c j) + t j - (sS t n S + t j)).toNat, by omega, by omega⟩
  have y : spY c t n S e j = 64 * M + I := by
    unfold spY
    rw [← hM, hI.1]
    rfl
  rw [← hM] at g l u ⊢
  rw [y]
  refine ⟨by omega, ?_, by omega, by omega, by omega⟩
  have : (64 * M + I) % 64 = I := by omega
  rw [this]
  omega
theorem spC_s {j : Nat} : spC c t q n lim C S e (j + 1) = if Nat.testBit S j = false ∧ max (sS t n S + (e : Int)) (c j) + t j + q j ≤ lim then up (spC c t q n lim C S e j) (spY c t n S e j) (spC c t q n lim C S e j (spY c t n S e j) + spC c t q n lim C S e j (64 * S + e)) else spC c t q n lim C S e j := rfl
theorem spC_lo (hB : BD n c t q) (hn : n ≤ 8) (hc : ∀ j, j < n → c j ≤ 63) (hS : S < 2 ^ n) (he : e < 64) {x : Nat} (hx : x < 64 * S + 64) : ∀ k, k ≤ n → spC c t q n lim C S e k x = C x
  | 0, _ => rfl
  | k + 1, hk => by
    have ih := spC_lo hB hn hc hS he hx k (by omega)
    rw [spC_s]
    by_cases g : Nat.testBit S k = false ∧ max (sS t n S + (e : Int)) (c k) + t k + q k ≤ lim
    · have y := spY_ok hB hn hc hS he (show k < n by omega) g.1
      rw [if_pos g, up_ne (by omega)]
      exact ih
    · rw [if_neg g]
      exact ih
theorem spC_p (hB : BD n c t q) (hn : n ≤ 8) (hc : ∀ j, j < n → c j ≤ 63) (hS : S < 2 ^ n) (he : e < 64) (hC : ∀ x, x < 64 * 2 ^ n → 0 ≤ C x) : ∀ k, k ≤ n → ∀ x, x < 64 * 2 ^ n → 0 ≤ spC c t q n lim C S e k x
  | 0, _ => hC
  | k + 1, hk => fun x hx => by
    have ih := spC_p hB hn hc hS he hC k (by omega)
    rw [spC_s]
    by_cases g : Nat.testBit S k = false ∧ max (sS t n S + (e : Int)) (c k) + t k + q k ≤ lim
    · have y := spY_ok hB hn hc hS he (show k < n by omega) g.1
      rw [if_pos g]
      by_cases w : x = spY c t n S e k
      · rw [w, up_eq]
        have a := ih (spY c t n S e k) y.2.2.2.1
        have b := ih (64 * S + e) (by omega)
        omega
      · rw [up_ne w]
        exact ih x hx
    · rw [if_neg g]
      exact ih x hx
theorem gG_sp (hB : BD n c t q) (hn : n ≤ 8) (hc : ∀ j, j < n → c j ≤ 63) (hS : S < 2 ^ n) (he : e < 64) : ∀ k, k ≤ n → gG V (spC c t q n lim C S e k) (64 * S + e + 1) (64 * 2 ^ n) = gG V C (64 * S + e + 1) (64 * 2 ^ n) + C (64 * S + e) * sV V c t q n lim S e k
  | 0, _ => by
    show gG V C _ _ = gG V C _ _ + C (64 * S + e) * 0
    rw [Int.mul_zero, Int.add_zero]
  | k + 1, hk => by
    have ih := gG_sp hB hn hc hS he k (by omega)
    rw [spC_s]
    show _ = _ + C (64 * S + e) * (sV V c t q n lim S e k + (if Nat.testBit S k = false ∧ max (sS t n S + (e : Int)) (c k) + t k + q k ≤ lim then V (spY c t n S e k) else 0))
    by_cases g : Nat.testBit S k = false ∧ max (sS t n S + (e : Int)) (c k) + t k + q k ≤ lim
    · have y := spY_ok hB hn hc hS he (show k < n by omega) g.1
      rw [if_pos g, if_pos g, gG_up, ih, if_pos ⟨by omega, y.2.2.2.1⟩, spC_lo hB hn hc hS he (show 64 * S + e < 64 * S + 64 by omega) k (by omega), Int.mul_add]
      rw [show spC c t q n lim C S e k (spY c t n S e k) + C (64 * S + e) - spC c t q n lim C S e k (spY c t n S e k) = C (64 * S + e) by omega]
      omega
    · rw [if_neg g, if_neg g, ih, Int.add_zero]
theorem sV_1 (hB : BD n c t q) (hn : n ≤ 8) (hc : ∀ j, j < n → c j ≤ 63) (hS : S < 2 ^ n - 1) (he : e < 64) : sV (V1 c t q n lim) c t q n lim S e n = V1 c t q n lim (64 * S + e) := by
  have cn : (2 ^ n - 1) ^^^ S < 2 ^ n := xor_lt_all n (by omega) S (by omega)
  have c0 : (2 ^ n - 1) ^^^ S ≠ 0 := fun w => by
    have x := congrArg (· ^^^ S) w
    have x : ((2 ^ n - 1) ^^^ S) ^^^ S = 0 ^^^ S := x
    rw [Nat.xor_assoc, Nat.xor_self, Nat.xor_zero, Nat.zero_xor] at x
    omega
  have e1 : (64 * S + e) / 64 = S := by omega
  have e2 : (64 * S + e) % 64 = e := by omega
  unfold V1
  rw [e1, e2, wn_unf hn cn c0]
  have key : ∀ k, k ≤ n → sV (V1 c t q n lim) c t q n lim S e k = (wS (wn c t q n lim n) c t q lim ((2 ^ n - 1) ^^^ S) (sS t n S + (e : Int)) k : Int) := fun k => by
    induction k with
    | zero => exact fun _ => rfl
    | succ k ih =>
      intro hk
      have kn : k < n := by omega
      have cb := cmp_bit (S := S) kn
      show sV (V1 c t q n lim) c t q n lim S e k + _ = _
      rw [wS_s, ih (by omega), Int.natCast_add]
      by_cases g : Nat.testBit S k = false ∧ max (sS t n S + (e : Int)) (c k) + t k + q k ≤ lim
      · have y := spY_ok hB hn hc (show S < 2 ^ n by omega) he kn g.1
        rw [if_pos g, if_pos ⟨by rw [cb, g.1]; rfl, g.2⟩]
        unfold V1
        rw [y.1, y.2.1, or_xor g.1, ← Nat.xor_assoc]
      · rw [if_neg g, if_neg (fun w => g ⟨by
          have := w.1
          rw [cb] at this
          cases h : Nat.testBit S k
          · rfl
          · rw [h] at this
            exact absurd this (by decide), w.2⟩)]
        rfl
  exact key n (Nat.le_refl _)
theorem V2_1 {x : Nat} : 1 ≤ V2 n x := by
  unfold V2
  have : (1 : Int) ≤ 8 ^ (n - cb (Nat.testBit (x / 64)) n) := by
    have := Int.pow_pos (n := 8) (m := n - cb (Nat.testBit (x / 64)) n) (by decide)
    omega
  exact this
theorem sV_2 (hB : BD n c t q) (hn : n ≤ 8) (hc : ∀ j, j < n → c j ≤ 63) (hS : S < 2 ^ n) (he : e < 64) : sV (V2 n) c t q n lim S e n ≤ V2 n (64 * S + e) := by
  have e1 : (64 * S + e) / 64 = S := by omega
  have key : ∀ k, k ≤ n → 0 ≤ sV (V2 n) c t q n lim S e k ∧ 8 * sV (V2 n) c t q n lim S e k ≤ (k : Int) * V2 n (64 * S + e) := fun k => by
    induction k with
    | zero =>
      intro _
      have : sV (V2 n) c t q n lim S e 0 = 0 := rfl
      rw [this]
      omega
    | succ k ih =>
      intro hk
      have kn : k < n := by omega
      obtain ⟨i1, i2⟩ := ih (by omega)
      have v1 := V2_1 (n := n) (x := 64 * S + e)
      have eq : ((k + 1 : Nat) : Int) * V2 n (64 * S + e) = (k : Int) * V2 n (64 * S + e) + V2 n (64 * S + e) := by
        rw [Int.natCast_add, Int.add_mul]
        simp
      show 0 ≤ sV (V2 n) c t q n lim S e k + _ ∧ 8 * (sV (V2 n) c t q n lim S e k + _) ≤ _
      rw [eq]
      by_cases g : Nat.testBit S k = false ∧ max (sS t n S + (e : Int)) (c k) + t k + q k ≤ lim
      · have y := spY_ok hB hn hc hS he kn g.1
        have cu := cb_up (p := Nat.testBit S) (p' := Nat.testBit (S ||| (1 <<< k))) (j := k) (fun i => or_bit) g.1 n kn
        have cl := cb_le (Nat.testBit (S ||| (1 <<< k))) n
        have h8 : 8 * V2 n (spY c t n S e k) = V2 n (64 * S + e) := by
          unfold V2
          rw [y.1, e1, cu, show n - cb (Nat.testBit S) n = (n - (cb (Nat.testBit S) n + 1)) + 1 by omega, Int.pow_succ, Int.mul_comm]
        have p := V2_1 (n := n) (x := spY c t n S e k)
        rw [if_pos g]
        omega
      · rw [if_neg g]
        omega
  have k := (key n (Nat.le_refl _)).2
  have v1 := V2_1 (n := n) (x := 64 * S + e)
  have : (n : Int) * V2 n (64 * S + e) ≤ 8 * V2 n (64 * S + e) := Int.mul_le_mul_of_nonneg_right (by omega) (by omega)
  omega
end MANY
