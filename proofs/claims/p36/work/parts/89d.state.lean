/-! P36: the law's number for all jobs and the bench -/
def tdF (v : Nat → Nat → Int) (j : Nat) (d : Int64) : Nat → Int64
  | 0 => d
  | w + 1 => 1000003 * tdF v j d w + Int32.toInt64 (iv (itsV v (w : Int) j))
def jbF (n : Nat) (v : Nat → Nat → Int) (x : Tr) : Nat → Int64
  | 0 => 7
  | j + 1 => 1000003 * tdF v j (jbF n v x j) 7 + Int32.toInt64 (iv (bgV n x (j : Int)))
def beF (x : Tr) (d : Int64) : Nat → Int64
  | 0 => d
  | w + 1 => 1000003 * beF x d w + Int32.toInt64 (iv (beV x (w : Int)))
def stV (n : Nat) (v : Nat → Nat → Int) (x : Tr) (m : Nat) : Int64 := 1000003 * beF x (jbF n v x n) 4 + Int32.toInt64 (iv (m : Int))
section STA
variable {z : St} {y : Sy}
theorem st_of (h : IK z y) : f_L_state z 0 = some (z, stV y.1 y.2.1 y.2.2.2.2.1 y.2.2.2.1.1) := by
  have h8 := h.1.1.2.1
  unfold f_L_state f_L_state_0
  refine loop_up (n := y.1) (fun F k d => f_L_state_6 F z 0 d (iv (k : Int))) (jbF y.1 y.2.1 y.2.2.2.2.1) (fun F => ?_) (fun F k hk => ?_) y.1 0 FU (by omega) (FU_8 (by omega))
  · show f_L_state_6 _ _ _ _ _ = _
    rw [f_L_state_6, n_0, p_count h (sm_d 0), Option.bind_some]
    show (if iv (coV y 0) ≤ iv (y.1 : Int) then _ else _) = _
    rw [show coV y 0 = (y.1 : Int) from rfl, if_pos sz_t]
    unfold f_L_state_65
    refine loop_up (n := 4) (fun F k d => f_L_state_67 F z 0 d (iv (k : Int))) (beF y.2.2.2.2.1 (jbF y.1 y.2.1 y.2.2.2.2.1 y.1)) (fun F => ?_) (fun F k hk => ?_) 4 0 FU (by omega) (FU_8 (by omega))
    · show f_L_state_67 _ _ _ _ _ = _
      rw [f_L_state_67, if_pos (by decide)]
      unfold f_L_state_91
      rw [n_2, p_count h (sm_d 2), Option.bind_some]
      rfl
    · show f_L_state_67 _ _ _ _ _ = f_L_state_67 F z 0 (beF y.2.2.2.2.1 (jbF y.1 y.2.1 y.2.2.2.2.1 y.1) (k + 1)) (iv ((k + 1 : Nat) : Int))
      rw [f_L_state_67, if_neg (fun e => by
        rw [n_4] at e
        have := (iv_kle (sm_k (show k < 2147483648 by omega)) 4).mp e
        omega)]
      unfold f_L_state_72
      rw [p_bench h (sm_k (by omega)), Option.bind_some, iv_s]
      rfl
  · show f_L_state_6 _ _ _ _ _ = f_L_state_6 F z 0 (jbF y.1 y.2.1 y.2.2.2.2.1 (k + 1)) (iv ((k + 1 : Nat) : Int))
    rw [f_L_state_6, n_0, p_count h (sm_d 0), Option.bind_some]
    show (if iv (coV y 0) ≤ iv (k : Int) then _ else _) = _
    rw [show coV y 0 = (y.1 : Int) from rfl, if_neg (sz_f hk (by omega))]
    unfold f_L_state_15
    refine loop_up (n := 7) (fun F' w d => f_L_state_18 (f_L_state_6 F) F' z 0 d (iv (k : Int)) (iv (w : Int))) (tdF y.2.1 k (jbF y.1 y.2.1 y.2.2.2.2.1 k)) (fun F' => ?_) (fun F' w hw => ?_) 7 0 FU (by omega) (FU_8 (by omega))
    · show f_L_state_18 _ _ _ _ _ _ _ = _
      rw [f_L_state_18, if_pos (by decide)]
      unfold f_L_state_46
      rw [p_began h (sm_k (by omega)), Option.bind_some, iv_s]
      rfl
    · show f_L_state_18 _ _ _ _ _ _ _ = f_L_state_18 (f_L_state_6 F) F' z 0 (tdF y.2.1 k (jbF y.1 y.2.1 y.2.2.2.2.1 k) (w + 1)) (iv (k : Int)) (iv ((w + 1 : Nat) : Int))
      rw [f_L_state_18, if_neg (fun e => by
        rw [show (7 : Int32) = iv 7 by decide] at e
        have := (iv_kle (sm_k (show w < 2147483648 by omega)) 7).mp e
        omega)]
      unfold f_L_state_25
      rw [p_told h (sm_k (by omega)) (sm_k (by omega)), Option.bind_some, iv_s, if_pos ⟨⟨by omega, by omega⟩, by omega, by omega⟩, Int.toNat_natCast]
      rfl
/-! the script's numbers -/
theorem at_of {xs : Nat → Int32} {L : Nat} (hL : L ≤ 260) {k : Nat} (hk : k < 100) : ∃ a, ∀ z : St, f_L_at xs L z (iv (k : Int)) = some (z, a) := by
  have eL : Int32.ofNat L = iv (L : Int) := by
    unfold iv
    rfl
  by_cases g : L ≤ k
  · refine ⟨0, fun z => ?_⟩
    unfold f_L_at f_L_at_0 f_L_at_12 f_L_at_13
    rw [eL, if_pos ((iv_le (sm_k (by omega)) (sm_k (by omega))).mpr (by omega))]
  · refine ⟨xs k, fun z => ?_⟩
    unfold f_L_at f_L_at_0 f_L_at_6 f_L_at_13
    rw [eL, if_neg (fun e => by have := (iv_le (sm_k (by omega)) (sm_k (by omega))).mp e; omega), inb_k (by omega) (by omega), if_pos rfl, iv_natN (by omega)]
theorem some_of {a : Int32} {N : Int} (hN : 1 ≤ N ∧ N ≤ 1000) : ∃ r : Int, (0 ≤ r ∧ r < N) ∧ ∀ z : St, f_L_some z a (iv N) = some (z, iv r) := by
  obtain ⟨A, sA, rfl⟩ := ex_iv a
  have sN : sm N := ⟨by omega, by omega⟩
  have nz : decide (iv N ≠ 0) = true := decide_eq_true (fun e => by
    rw [n_0] at e
    have := (iv_eqk sN 0).mp e
    omega)
  have eq : iv A / iv N = iv (A.tdiv N) := by
    have b1 : -2147483648 ≤ A.tdiv N ∧ A.tdiv N < 2147483648 := by
      have a1 := sA.1
      have a2 := sA.2
      rcases Int.lt_or_le A 0 with g | g
      · have e : A.tdiv N = -((-A) / N) := by
          rw [← Int.tdiv_eq_ediv_of_nonneg (by omega), Int.neg_tdiv, Int.neg_neg]
        have h1 : 0 ≤ (-A) / N := Int.ediv_nonneg (by omega) (by omega)
        have h2 : (-A) / N ≤ -A := Int.ediv_le_self _ (by omega)
        omega
      · have h1 : 0 ≤ A / N := Int.ediv_nonneg (by omega) (by omega)
        have h2 : A / N ≤ A := Int.ediv_le_self _ (by omega)
        rw [Int.tdiv_eq_ediv_of_nonneg (by omega)]
        omega
    rw [← Int32.toInt_inj, Int32.toInt_div, iv_toInt sA, iv_toInt sN, iv_toInt b1]
    exact Int.bmod_eq_of_le (by omega) (by omega)
  have em : A - A.tdiv N * N = A.tmod N := by
    have := Int.tmod_def A N
    have e : N * A.tdiv N = A.tdiv N * N := Int.mul_comm _ _
    omega
  have lo : -N < A.tmod N := by
    have := Int.lt_tmod_of_pos A (show 0 < N by omega)
    omega
  have hi : A.tmod N < N := Int.tmod_lt_of_pos A (show 0 < N by omega)
  have sm0 : sm (A.tmod N) := ⟨by omega, by omega⟩
  refine ⟨if 0 ≤ A.tmod N then A.tmod N else A.tmod N + N, by split <;> omega, fun z => ?_⟩
  unfold f_L_some f_L_some_0 f_L_some_14 f_L_some_8 f_L_some_15
  rw [if_pos nz, eq, iv_mul, iv_sub, em, n_0, iv_add]
  simp only [iv_kle sm0 0]
  split <;> rfl
theorem lc_eq (a : Int64) : lg_cmp a a = 0 := by
  unfold lg_cmp
  simp
theorem lc_ne {a : Int32} : ¬ lg_cmp (Int32.toInt64 a) 123456789012345 = 0 := by
  have h : (Int32.toInt64 a).toInt = a.toInt := Int32.toInt_toInt64 a
  have h2 := Int32.toInt_lt a
  have hc : (123456789012345 : Int64).toInt = 123456789012345 := by decide
  have n1 : ¬ (Int32.toInt64 a > 123456789012345) := fun e => by
    have := Int64.lt_iff_toInt_lt.mp e
    rw [h, hc] at this
    omega
  have n2 : ¬ (Int32.toInt64 a = 123456789012345) := fun e => by
    rw [e, hc] at h
    omega
  unfold lg_cmp
  rw [if_neg n1, if_neg n2]
  decide
end STA
