/-! BREAKING is no less than what a set of jobs needs -/
section BREAKSET
variable {n : Nat} {c t q : Nat → Int} {x : Br} {p : Nat → Bool} {r0 q0 : Int}
theorem su_atp {f f' : Nat → Int} {j : Nat} {v : Int} (hj : f' j = v) (hf : ∀ i, i ≠ j → f' i = f i) : ∀ n, su f' p n = su f p n + (if j < n ∧ p j = true then v - f j else 0)
  | 0 => by
    rw [if_neg (by omega)]
    rfl
  | n + 1 => by
    have ih := su_atp hj hf n
    unfold su
    rw [ih]
    by_cases e : j = n
    · subst e
      rw [if_neg (show ¬ (j < j ∧ p j = true) by omega), hj]
      by_cases g : p j = true
      · rw [if_pos g, if_pos g, if_pos ⟨Nat.lt_succ_self j, g⟩]
        omega
      · rw [if_neg g, if_neg g, if_neg (fun w => g w.2)]
    · rw [hf n (fun x => e x.symm)]
      have ei : (j < n + 1 ∧ p j = true) ↔ (j < n ∧ p j = true) := ⟨fun w => ⟨by omega, w.2⟩, fun w => ⟨by omega, w.2⟩⟩
      by_cases g : p n = true
      · rw [if_pos g, if_pos g]
        by_cases w : j < n ∧ p j = true
        · rw [if_pos w, if_pos (ei.mpr w)]
          omega
        · rw [if_neg w, if_neg (fun y => w (ei.mp y))]
          omega
      · rw [if_neg g, if_neg g]
        by_cases w : j < n ∧ p j = true
        · rw [if_pos w, if_pos (ei.mpr w)]
        · rw [if_neg w, if_neg (fun y => w (ei.mp y))]
theorem su_zero {f : Nat → Int} : ∀ n, (∀ i, i < n → p i = true → f i = 0) → su f p n = 0
  | 0, _ => rfl
  | n + 1, h => by
    unfold su
    rw [su_zero n (fun i hi => h i (by omega))]
    by_cases g : p n = true
    · rw [if_pos g, h n (Nat.lt_succ_self n) g]
      rfl
    · rw [if_neg g]
theorem su_pge {f : Nat → Int} {j : Nat} (hp : p j = true) : ∀ n, (∀ i, i < n → 0 ≤ f i) → j < n → f j ≤ su f p n
  | 0, _, h => absurd h (Nat.not_lt_zero _)
  | n + 1, hf, h => by
    have h0 := hf n (Nat.lt_succ_self n)
    have hn : 0 ≤ su f p n := by
      have : ∀ m, m ≤ n → 0 ≤ su f p m := fun m => by
        induction m with
        | zero => exact fun _ => Int.le_refl _
        | succ m ih =>
          intro hm
          have a := ih (by omega)
          have b := hf m (by omega)
          unfold su
          split <;> omega
      exact this n (Nat.le_refl _)
    unfold su
    by_cases e : j = n
    · subst e
      rw [if_pos hp]
      omega
    · have := su_pge hp n (fun i hi => hf i (by omega)) (by omega)
      split <;> omega
def BS (t : Nat → Int) (n : Nat) (p : Nat → Bool) (r0 q0 : Int) (x : Br) : Prop := (su x.1 p n = su t p n ∨ r0 + (su t p n - su x.1 p n) ≤ x.2.2.1) ∧ ((∀ j, j < n → p j = true → Nat.testBit x.2.1 j = true) → r0 + su t p n + q0 ≤ x.2.2.2.1)
theorem ns1 {T A lj h H U r0 : Int} (e : A = T ∨ r0 + (T - A) ≤ h) (hh : h ≤ H) (hr : r0 ≤ H) : r0 + (T - (A + (lj - (U - H) - lj))) ≤ U := by omega
theorem ns2 {T A h H U r0 : Int} (e : A = T ∨ r0 + (T - A) ≤ h) (hh : h ≤ H) (hU : H ≤ U) : A + 0 = T ∨ r0 + (T - (A + 0)) ≤ U := by omega
theorem ns3 {T A f U r0 q0 qj : Int} (hT : 0 < T) (hA : A = 0) (e : A = T ∨ r0 + (T - A) ≤ U) (hq : q0 ≤ qj) : r0 + T + q0 ≤ max f (U + qj) := by omega
theorem BS_S (hB : BD n c t q) (hn : n ≤ 8) (hW : BW n t x) (hW' : BW n t (brS c t q n x)) (hc : cb (Nat.testBit x.2.1) n < n) (hr : ∀ j, j < n → p j = true → r0 ≤ c j ∧ q0 ≤ q j) (hT : 0 < su t p n) (h : BS t n p r0 q0 x) : BS t n p r0 q0 (brS c t q n x) := by
  obtain ⟨-, jn, jb, jc, -⟩ := br_next hB hW hc
  obtain ⟨u1, u2⟩ := br_u hB hW hc
  have hH : x.2.2.1 ≤ brH c n x := Int.le_max_right _ _
  obtain ⟨h1, h2⟩ := h
  have st := su_atp (p := p) (f := x.1) (f' := up x.1 (brJ c t q n x) (x.1 (brJ c t q n x) - (brU c t q n x - brH c n x))) (j := brJ c t q n x) (v := x.1 (brJ c t q n x) - (brU c t q n x - brH c n x)) (by unfold up; rw [if_pos rfl]) (fun i hi => by unfold up; rw [if_neg hi]) n
  have k1 : su (up x.1 (brJ c t q n x) (x.1 (brJ c t q n x) - (brU c t q n x - brH c n x))) p n = su t p n ∨ r0 + (su t p n - su (up x.1 (brJ c t q n x) (x.1 (brJ c t q n x) - (brU c t q n x - brH c n x))) p n) ≤ brU c t q n x := by
    rw [st]
    by_cases g : p (brJ c t q n x) = true
    · rw [if_pos ⟨jn, g⟩]
      exact Or.inr (ns1 h1 hH (Int.le_trans (hr _ jn g).1 jc))
    · rw [if_neg (fun w => g w.2)]
      exact ns2 h1 hH (Int.le_of_lt u1)
  have k2 := hW'.2.1
  unfold brS at k2 ⊢
  by_cases g : x.1 (brJ c t q n x) - (brU c t q n x - brH c n x) ≤ 0
  · rw [if_pos g] at k2 ⊢
    refine ⟨k1, fun ha => ?_⟩
    show r0 + su t p n + q0 ≤ max x.2.2.2.1 (brU c t q n x + q (brJ c t q n x))
    by_cases w : p (brJ c t q n x) = true
    · have z0 := su_zero (p := p) (f := up x.1 (brJ c t q n x) (x.1 (brJ c t q n x) - (brU c t q n x - brH c n x))) n (fun i hi hp => (k2 i hi).2.2.mpr (ha i hi hp))
      exact ns3 hT z0 k1 (hr _ jn w).2
    · refine Int.le_trans (h2 (fun j hj hp => ?_)) (Int.le_max_left _ _)
      have hb : Nat.testBit (x.2.1 ||| (1 <<< brJ c t q n x)) j = true := ha j hj hp
      have e : j ≠ brJ c t q n x := fun e => w (by rw [← e]; exact hp)
      rw [or_bit, decide_eq_false e, Bool.or_false] at hb
      exact hb
  · rw [if_neg g]
    exact ⟨k1, fun ha => h2 ha⟩
theorem bi_BS (hB : BD n c t q) (hn : n ≤ 8) (hr : ∀ j, j < n → p j = true → r0 ≤ c j ∧ q0 ≤ q j) {j0 : Nat} (hj : j0 < n) (hp : p j0 = true) : ∀ k : Nat, k ≤ 98 → BS t n p r0 q0 (bi c t q n k)
  | 0, _ => by
    have e : su (fun j => if j < n then t j else 0) p n = su t p n := by
      have : ∀ m, m ≤ n → su (fun j => if j < n then t j else 0) p m = su t p m := fun m => by
        induction m with
        | zero => exact fun _ => rfl
        | succ m ih =>
          intro hm
          unfold su
          rw [ih (by omega), if_pos (show m < n by omega)]
      exact this n (Nat.le_refl _)
    refine ⟨Or.inl e, fun ha => ?_⟩
    have : Nat.testBit 0 j0 = true := ha j0 hj hp
    rw [Nat.zero_testBit] at this
    exact absurd this (by decide)
  | k + 1, hk => by
    have h1 := (bi_inv hB hn k (by omega)).1
    have h3 := (bi_inv hB hn (k + 1) (by omega)).1
    have h2 := bi_BS hB hn hr hj hp k (by omega)
    have hT := su_pge (f := t) hp n (fun i hi => by have := hB i hi; omega) hj
    have tj := hB j0 hj
    unfold bi at h3 ⊢
    split
    · exact h2
    · rename_i w
      rw [if_neg w] at h3
      exact BS_S hB hn h1 h3 (not_all hn h1 w) hr (by omega) h2
/-- BREAKING beside a set -/
theorem bi_set (hB : BD n c t q) (hn : n ≤ 8) (hr : ∀ j, j < n → p j = true → r0 ≤ c j ∧ q0 ≤ q j) {j0 : Nat} (hj : j0 < n) (hp : p j0 = true) : r0 + su t p n + q0 ≤ (bi c t q n 16).2.2.2.1 := by
  refine (bi_BS hB hn hr hj hp 16 (by decide)).2 (fun j hj2 _ => ?_)
  rw [bi_end hB hn, Nat.testBit_two_pow_sub_one]
  exact decide_eq_true hj2
end BREAKSET
