/-! BREAKING is no more than what some set of jobs needs -/
def pX (c q : Nat → Int) (x0 s : Int) (j : Nat) : Bool := decide (x0 ≤ q j ∧ s ≤ c j)
def SB (c t q : Nat → Int) (n : Nat) (F : Int) : Prop := ∀ (p : Nat → Bool) (r0 q0 : Int) (j0 : Nat), j0 < n → p j0 = true → (∀ j, j < n → p j = true → r0 ≤ c j ∧ q0 ≤ q j) → r0 + su t p n + q0 ≤ F
def BI (c t q : Nat → Int) (n : Nat) (F : Int) (x : Br) : Prop := (∀ x0 : Int, ∃ s : Int, (∀ j, j < n → x0 ≤ q j → c j < s → Nat.testBit x.2.1 j = true) ∧ x.2.2.1 ≤ s + (su t (pX c q x0 s) n - su x.1 (pX c q x0 s) n)) ∧ x.2.2.2.1 ≤ F
section BREAKLE
variable {n : Nat} {c t q : Nat → Int} {x : Br} {F : Int}
theorem su_mn {f g : Nat → Int} {p : Nat → Bool} : ∀ n, (∀ i, i < n → f i ≤ g i) → su f p n ≤ su g p n
  | 0, _ => Int.le_refl _
  | n + 1, h => by
    have a := su_mn n (fun i hi => h i (Nat.lt_succ_of_lt hi)) (p := p)
    have b := h n (Nat.lt_succ_self n)
    unfold su
    split <;> omega
theorem nl1 {h s T A H U lj : Int} (w : h ≤ s + (T - A)) (e : H = h) : U ≤ s + (T - (A + (lj - (U - H) - lj))) := by omega
theorem nl2 {H T A U lj : Int} (w : A ≤ T) : U ≤ H + (T - (A + (lj - (U - H) - lj))) := by omega
theorem nl3 {U T A : Int} (w : A ≤ T) : U ≤ U + (T - (A + 0)) := by omega
theorem nl4 {U s T A qj F : Int} (w : U ≤ s + (T - A)) (a0 : 0 ≤ A) (h : s + T + qj ≤ F) : U + qj ≤ F := by omega
theorem BI_S (hB : BD n c t q) (hW : BW n t x) (hW' : BW n t (brS c t q n x)) (hc : cb (Nat.testBit x.2.1) n < n) (hF : SB c t q n F) (h : BI c t q n F x) : BI c t q n F (brS c t q n x) := by
  obtain ⟨-, jn, jb, jc, -⟩ := br_next hB hW hc
  obtain ⟨u1, u2⟩ := br_u hB hW hc
  have hH : x.2.2.1 ≤ brH c n x := Int.le_max_right _ _
  have hm : brH c n x = x.2.2.1 ∨ ∀ j, j < n → Nat.testBit x.2.1 j = false → brH c n x ≤ c j := by
    unfold brH
    rcases Int.lt_or_le x.2.2.1 (mn c (fun j => !Nat.testBit x.2.1 j) n) with g | g
    · refine Or.inr (fun j hj hb => ?_)
      rw [Int.max_eq_left (Int.le_of_lt g)]
      exact (mn_le (c := c) (p := fun j => !Nat.testBit x.2.1 j) (by show (!Nat.testBit x.2.1 j) = true; rw [hb]; rfl) n (fun i hi => (hB i hi).1.1) hj).2
    · exact Or.inl (Int.max_eq_right g)
  have nm := fun j hj hb w => (nb_max (c := c) (t := t) (q := q) (s := x.2.1) (h := brH c n x) (j := j) hb w n hj).2
  have ho := (hl_ok (c := c) (q := q) (h := brH c n x) (x := q (brJ c t q n x)) (e := brH c n x + x.1 (brJ c t q n x)) (by omega) n).2.2.1
  have st := fun p => su_atp (p := p) (f := x.1) (f' := up x.1 (brJ c t q n x) (x.1 (brJ c t q n x) - (brU c t q n x - brH c n x))) (j := brJ c t q n x) (v := x.1 (brJ c t q n x) - (brU c t q n x - brH c n x)) (by unfold up; rw [if_pos rfl]) (fun i hi => by unfold up; rw [if_neg hi]) n
  have lt : ∀ p, su x.1 p n ≤ su t p n := fun p => su_mn n (fun i hi => (hW.2.1 i hi).2.1)
  obtain ⟨h1, h2⟩ := h
  -- what holds of the hour, whether one ends or is broken off
  have k1 : ∀ x0 : Int, ∃ s : Int, (∀ j, j < n → x0 ≤ q j → c j < s → Nat.testBit x.2.1 j = true) ∧ brU c t q n x ≤ s + (su t (pX c q x0 s) n - su (up x.1 (brJ c t q n x) (x.1 (brJ c t q n x) - (brU c t q n x - brH c n x))) (pX c q x0 s) n) ∧ (x0 ≤ q (brJ c t q n x) → s ≤ c (brJ c t q n x)) := fun x0 => by
    by_cases g : x0 ≤ q (brJ c t q n x)
    · rcases hm with e | e
      · obtain ⟨s, s1, s2⟩ := h1 x0
        have sj : s ≤ c (brJ c t q n x) := by
          rcases Int.lt_or_le (c (brJ c t q n x)) s with w | w
          · have := s1 _ jn g w
            rw [jb] at this
            exact absurd this (by decide)
          · exact w
        refine ⟨s, s1, ?_, fun _ => sj⟩
        rw [st, if_pos ⟨jn, decide_eq_true ⟨g, sj⟩⟩]
        exact nl1 s2 e
      · have sj := e _ jn jb
        refine ⟨brH c n x, fun j hj _ w => ?_, ?_, fun _ => sj⟩
        · cases hb : Nat.testBit x.2.1 j
          · have := e j hj hb
            omega
          · rfl
        · rw [st, if_pos ⟨jn, decide_eq_true ⟨g, sj⟩⟩]
          exact nl2 (lt _)
    · refine ⟨brU c t q n x, fun j hj w1 w2 => ?_, ?_, fun w => absurd w g⟩
      · cases hb : Nat.testBit x.2.1 j
        · rcases Int.lt_or_le (brH c n x) (c j) with w | w
          · have := ho j hj w (by omega)
            have : brU c t q n x ≤ c j := this
            omega
          · have := nm j hj hb w
            have : q j ≤ q (brJ c t q n x) := this
            omega
        · rfl
      · rw [st, if_neg (fun w => g (of_decide_eq_true w.2).1)]
        exact nl3 (lt _)
  have k2 := hW'.2.1
  unfold brS at k2 ⊢
  by_cases g : x.1 (brJ c t q n x) - (brU c t q n x - brH c n x) ≤ 0
  · rw [if_pos g] at k2 ⊢
    refine ⟨fun x0 => ?_, ?_⟩
    · obtain ⟨s, s1, s2, -⟩ := k1 x0
      refine ⟨s, fun j hj w1 w2 => ?_, s2⟩
      show Nat.testBit (x.2.1 ||| (1 <<< brJ c t q n x)) j = true
      rw [or_bit, s1 j hj w1 w2, Bool.true_or]
    · show max x.2.2.2.1 (brU c t q n x + q (brJ c t q n x)) ≤ F
      obtain ⟨s, s1, s2, s3⟩ := k1 (q (brJ c t q n x))
      have sj := s3 (Int.le_refl _)
      have a := hF (pX c q (q (brJ c t q n x)) s) s (q (brJ c t q n x)) (brJ c t q n x) jn (decide_eq_true ⟨Int.le_refl _, sj⟩) (fun j hj w => ⟨(of_decide_eq_true w).2, (of_decide_eq_true w).1⟩)
      have a0 : 0 ≤ su (up x.1 (brJ c t q n x) (x.1 (brJ c t q n x) - (brU c t q n x - brH c n x))) (pX c q (q (brJ c t q n x)) s) n := by
        have := su_mn (f := fun _ => 0) (g := up x.1 (brJ c t q n x) (x.1 (brJ c t q n x) - (brU c t q n x - brH c n x))) (p := pX c q (q (brJ c t q n x)) s) n (fun i hi => (k2 i hi).1)
        rw [su_zero n (fun _ _ _ => rfl)] at this
        exact this
      exact Int.max_le.mpr ⟨h2, nl4 s2 a0 a⟩
  · rw [if_neg g]
    exact ⟨fun x0 => by
      obtain ⟨s, s1, s2, -⟩ := k1 x0
      exact ⟨s, s1, s2⟩, h2⟩
theorem bi_BI (hB : BD n c t q) (hn : n ≤ 8) (hF : SB c t q n F) (h0 : 0 ≤ F) : ∀ k : Nat, k ≤ 98 → BI c t q n F (bi c t q n k)
  | 0, _ => by
    refine ⟨fun x0 => ⟨0, fun j hj _ w => ?_, ?_⟩, h0⟩
    · have := (hB j hj).1.1
      omega
    · have e : su (fun j => if j < n then t j else 0) (pX c q x0 0) n = su t (pX c q x0 0) n := by
        have : ∀ m, m ≤ n → su (fun j => if j < n then t j else 0) (pX c q x0 0) m = su t (pX c q x0 0) m := fun m => by
          induction m with
          | zero => exact fun _ => rfl
          | succ m ih =>
            intro hm
            unfold su
            rw [ih (by omega), if_pos (show m < n by omega)]
        exact this n (Nat.le_refl _)
      show (0 : Int) ≤ 0 + (su t (pX c q x0 0) n - su (fun j => if j < n then t j else 0) (pX c q x0 0) n)
      rw [e]
      omega
  | k + 1, hk => by
    have h1 := (bi_inv hB hn k (by omega)).1
    have h3 := (bi_inv hB hn (k + 1) (by omega)).1
    have h2 := bi_BI hB hn hF h0 k (by omega)
    unfold bi at h3 ⊢
    split
    · exact h2
    · rename_i w
      rw [if_neg w] at h3
      exact BI_S hB h1 h3 (not_all hn h1 w) hF h2
theorem bi_le (hB : BD n c t q) (hn : n ≤ 8) (hF : SB c t q n F) (h0 : 0 ≤ F) : (bi c t q n 16).2.2.2.1 ≤ F := (bi_BI hB hn hF h0 16 (by decide)).2
end BREAKLE
