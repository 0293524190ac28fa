/-! SEARCH: a node as it is told by numbers alone, and those ahead of it -/
def zN (n : Nat) (t c q : Nat → Int) (U : Int) (b P : Nat) (F D : Nat → Bool) (S r : Int) : Prop :=
  (b < n ∧ c b ≤ S ∧ S < r ∧ q b < q P ∧ D P = true ∧ U ≤ S + t b + su t D n + q P) ∧
  (∀ d, D d = true → d < n ∧ r ≤ c d ∧ q P ≤ q d ∧ q d + t d ≤ su t D n + q P) ∧
  (∃ y, D y = true ∧ c y = r) ∧
  (∀ z, F z = true → c z ≤ S) ∧
  (∀ (p : Nat → Bool) (x : Int), (∀ j, p j = true → F j = true ∧ x ≤ c j) → (∃ j, j < n ∧ p j = true) → x + su t p n ≤ S) ∧
  (∀ (p : Nat → Bool) (x : Int), (∀ j, p j = true → j < n ∧ j ≠ b ∧ F j = false ∧ D j = false ∧ x ≤ q j) → (∃ j, j < n ∧ p j = true) → x + su t p n < q P)
def zH (n : Nat) (t c0 q0 : Nat → Int) (U : Int) : Nat → (Nat → Int) → (Nat → Int) → Prop
  | 0, c, q => (∀ j, c j = c0 j) ∧ ∀ j, q j = q0 j
  | k + 1, c, q => ∃ (c1 q1 : Nat → Int) (b P : Nat) (F D : Nat → Bool) (S r : Int), zH n t c0 q0 U k c1 q1 ∧ zN n t c1 q1 U b P F D S r ∧ (((∀ j, c j = up c1 b (r + su t D n) j) ∧ ∀ j, q j = q1 j) ∨ ((∀ j, c j = c1 j) ∧ ∀ j, q j = up q1 b (su t D n + q1 P) j))
section HIST
variable {n : Nat} {t c0 q0 c q : Nat → Int} {U U' : Int} {b P : Nat} {F D : Nat → Bool} {S r : Int} {p p1 p2 : Nat → Bool}
theorem zu_nn (ht : ∀ j, j < n → 1 ≤ t j) : ∀ m, m ≤ n → 0 ≤ su t p m
  | 0, _ => Int.le_refl _
  | m + 1, h => by
    have a := zu_nn ht m (by omega)
    have b := ht m (by omega)
    unfold su
    split <;> omega
theorem zu_or (ht : ∀ j, j < n → 1 ≤ t j) : ∀ m, m ≤ n → (∀ j, j < n → p j = true → p1 j = true ∨ p2 j = true) → su t p m ≤ su t p1 m + su t p2 m
  | 0, _, _ => Int.le_refl _
  | m + 1, h, hp => by
    have a := zu_or ht m (by omega) hp
    have b := ht m (by omega)
    have g := hp m (by omega)
    unfold su
    by_cases w : p m = true
    · rcases g w with g | g
      · rw [if_pos w, if_pos g]
        split <;> omega
      · rw [if_pos w, if_pos g]
        split <;> omega
    · rw [if_neg w]
      split <;> split <;> omega
theorem zu_mn (ht : ∀ j, j < n → 1 ≤ t j) (hp : ∀ j, j < n → p j = true → p1 j = true) : su t p n ≤ su t p1 n := by
  have a := zu_or (p := p) (p1 := p1) (p2 := fun _ => false) ht n (Nat.le_refl _) (fun j h w => Or.inl (hp j h w))
  have z : su t (fun _ => false) n = 0 := by
    have : ∀ m, su t (fun _ => false) m = 0 := fun m => by
      induction m with
      | zero => rfl
      | succ m ih => unfold su; rw [if_neg (by decide)]; exact ih
    exact this n
  omega
theorem zu_no (hp : ∀ j, j < n → p j = false) : su t p n = 0 := by
  rw [su_cong n (p' := fun _ => false) hp]
  have : ∀ m, su t (fun _ => false) m = 0 := fun m => by
    induction m with
    | zero => rfl
    | succ m ih => unfold su; rw [if_neg (by decide)]; exact ih
  exact this n
theorem zN_U (hU : U' ≤ U) (h : zN n t c q U b P F D S r) : zN n t c q U' b P F D S r :=
  ⟨⟨h.1.1, h.1.2.1, h.1.2.2.1, h.1.2.2.2.1, h.1.2.2.2.2.1, Int.le_trans hU h.1.2.2.2.2.2⟩, h.2⟩
theorem zH_U (hU : U' ≤ U) : ∀ k c q, zH n t c0 q0 U k c q → zH n t c0 q0 U' k c q
  | 0, _, _, h => h
  | k + 1, c, q, ⟨c1, q1, b, P, F, D, S, r, h1, h2, h3⟩ => ⟨c1, q1, b, P, F, D, S, r, zH_U hU k c1 q1 h1, zN_U hU h2, h3⟩
/-- one who is behind all is nobody of note -/
theorem zN_B (ht : ∀ j, j < n → 1 ≤ t j) (h : zN n t c q U b P F D S r) {a : Nat} (hn : a < n) (hb : a ≠ b) (hF : F a = false) (hD : D a = false) : q a < q P := by
  have e := h.2.2.2.2.2 (fun j => decide (j = a)) (q a) (fun j w => by
    have w : j = a := of_decide_eq_true w
    subst w
    exact ⟨hn, hb, hF, hD, Int.le_refl _⟩) ⟨a, hn, decide_eq_true rfl⟩
  have s := su_pge (f := t) (p := fun j => decide (j = a)) (j := a) (decide_eq_true rfl) n (fun i hi => by have := ht i hi; omega) hn
  have := ht a hn
  omega
theorem zN_up (ht : ∀ j, j < n → 1 ≤ t j) (h : zN n t c q U b P F D S r) : c b ≤ r + su t D n ∧ q b ≤ su t D n + q P := by
  have s := zu_nn (p := D) ht n (Nat.le_refl _)
  have a := h.1
  omega
theorem zH_mono (ht : ∀ j, j < n → 1 ≤ t j) : ∀ k c q, zH n t c0 q0 U k c q → ∀ j, c0 j ≤ c j ∧ q0 j ≤ q j
  | 0, c, q, h, j => ⟨by rw [h.1 j]; exact Int.le_refl _, by rw [h.2 j]; exact Int.le_refl _⟩
  | k + 1, c, q, ⟨c1, q1, b, P, F, D, S, r, h1, h2, h3⟩, j => by
    have i := zH_mono ht k c1 q1 h1 j
    have u := zN_up ht h2
    rcases h3 with ⟨e1, e2⟩ | ⟨e1, e2⟩
    · rw [e1 j, e2 j]
      unfold up
      by_cases g : j = b
      · rw [if_pos g]
        subst g
        omega
      · rw [if_neg g]
        exact i
    · rw [e1 j, e2 j]
      unfold up
      by_cases g : j = b
      · rw [if_pos g]
        subst g
        omega
      · rw [if_neg g]
        exact i
/-- the latest of some to be changed -/
theorem zsp (ht : ∀ j, j < n → 1 ≤ t j) (E : Nat → Prop) : ∀ k c q, zH n t c0 q0 U k c q → (∀ j, E j → c j = c0 j ∧ q j = q0 j) ∨ ∃ (m : Nat) (c1 q1 : Nat → Int) (b P : Nat) (F D : Nat → Bool) (S r : Int), m < k ∧ zH n t c0 q0 U m c1 q1 ∧ zN n t c1 q1 U b P F D S r ∧ E b ∧ (∀ j, c1 j ≤ c j ∧ q1 j ≤ q j) ∧ (∀ j, E j → j ≠ b → c j = c1 j ∧ q j = q1 j) ∧ ((c b = r + su t D n ∧ q b = q1 b) ∨ (c b = c1 b ∧ q b = su t D n + q1 P))
  | 0, c, q, h => Or.inl (fun j _ => ⟨h.1 j, h.2 j⟩)
  | k + 1, c, q, ⟨c1, q1, b, P, F, D, S, r, h1, h2, h3⟩ => by
    have u := zN_up ht h2
    have mo : ∀ j, c1 j ≤ c j ∧ q1 j ≤ q j := fun j => by
      rcases h3 with ⟨e1, e2⟩ | ⟨e1, e2⟩
      · rw [e1 j, e2 j]
        unfold up
        by_cases g : j = b
        · rw [if_pos g]
          subst g
          omega
        · rw [if_neg g]
          omega
      · rw [e1 j, e2 j]
        unfold up
        by_cases g : j = b
        · rw [if_pos g]
          subst g
          omega
        · rw [if_neg g]
          omega
    have ne : ∀ j, j ≠ b → c j = c1 j ∧ q j = q1 j := fun j g => by
      rcases h3 with ⟨e1, e2⟩ | ⟨e1, e2⟩
      · rw [e1 j, e2 j]
        unfold up
        rw [if_neg g]
        exact ⟨rfl, rfl⟩
      · rw [e1 j, e2 j]
        unfold up
        rw [if_neg g]
        exact ⟨rfl, rfl⟩
    by_cases hE : E b
    · refine Or.inr ⟨k, c1, q1, b, P, F, D, S, r, Nat.lt_succ_self k, h1, h2, hE, mo, fun j _ g => ne j g, ?_⟩
      rcases h3 with ⟨e1, e2⟩ | ⟨e1, e2⟩
      · refine Or.inl ⟨?_, e2 b⟩
        rw [e1 b]
        unfold up
        rw [if_pos rfl]
      · refine Or.inr ⟨e1 b, ?_⟩
        rw [e2 b]
        unfold up
        rw [if_pos rfl]
    · have nb : ∀ j, E j → j ≠ b := fun j w e => hE (by rw [← e]; exact w)
      rcases zsp ht E k c1 q1 h1 with w | ⟨m, c2, q2, b2, P2, F2, D2, S2, r2, m1, m2, m3, m4, m5, m6, m7⟩
      · refine Or.inl (fun j hj => ?_)
        have a := ne j (nb j hj)
        have d := w j hj
        exact ⟨by rw [a.1, d.1], by rw [a.2, d.2]⟩
      · refine Or.inr ⟨m, c2, q2, b2, P2, F2, D2, S2, r2, by omega, m2, m3, m4, fun j => ?_, fun j hj g => ?_, ?_⟩
        · have a := mo j
          have d := m5 j
          omega
        · have a := ne j (nb j hj)
          have d := m6 j hj g
          exact ⟨by rw [a.1, d.1], by rw [a.2, d.2]⟩
        · have a := ne b2 (nb b2 m4)
          rw [a.1, a.2]
          exact m7
/-- .. to come later -/
theorem zspR (ht : ∀ j, j < n → 1 ≤ t j) (E : Nat → Prop) : ∀ k c q, zH n t c0 q0 U k c q → (∀ j, E j → c j = c0 j) ∨ ∃ (m : Nat) (c1 q1 : Nat → Int) (b P : Nat) (F D : Nat → Bool) (S r : Int), m < k ∧ zH n t c0 q0 U m c1 q1 ∧ zN n t c1 q1 U b P F D S r ∧ E b ∧ (∀ j, c1 j ≤ c j ∧ q1 j ≤ q j) ∧ (∀ j, E j → j ≠ b → c j = c1 j) ∧ c b = r + su t D n
  | 0, c, q, h => Or.inl (fun j _ => h.1 j)
  | k + 1, c, q, ⟨c1, q1, b, P, F, D, S, r, h1, h2, h3⟩ => by
    have u := zN_up ht h2
    have mo : ∀ j, c1 j ≤ c j ∧ q1 j ≤ q j := fun j => by
      rcases h3 with ⟨e1, e2⟩ | ⟨e1, e2⟩
      · rw [e1 j, e2 j]
        unfold up
        by_cases g : j = b
        · rw [if_pos g]
          subst g
          omega
        · rw [if_neg g]
          omega
      · rw [e1 j, e2 j]
        unfold up
        by_cases g : j = b
        · rw [if_pos g]
          subst g
          omega
        · rw [if_neg g]
          omega
    have back : (∀ j, E j → c j = c1 j) → ((∀ j, E j → c j = c0 j) ∨ ∃ (m : Nat) (c1 q1 : Nat → Int) (b P : Nat) (F D : Nat → Bool) (S r : Int), m < k + 1 ∧ zH n t c0 q0 U m c1 q1 ∧ zN n t c1 q1 U b P F D S r ∧ E b ∧ (∀ j, c1 j ≤ c j ∧ q1 j ≤ q j) ∧ (∀ j, E j → j ≠ b → c j = c1 j) ∧ c b = r + su t D n) := fun ne => by
      rcases zspR ht E k c1 q1 h1 with w | ⟨m, c2, q2, b2, P2, F2, D2, S2, r2, m1, m2, m3, m4, m5, m6, m7⟩
      · exact Or.inl (fun j hj => by rw [ne j hj, w j hj])
      · refine Or.inr ⟨m, c2, q2, b2, P2, F2, D2, S2, r2, by omega, m2, m3, m4, fun j => ?_, fun j hj g => ?_, ?_⟩
        · have a := mo j
          have d := m5 j
          omega
        · rw [ne j hj, m6 j hj g]
        · rw [ne b2 m4, m7]
    rcases h3 with ⟨e1, e2⟩ | ⟨e1, e2⟩
    · by_cases hE : E b
      · refine Or.inr ⟨k, c1, q1, b, P, F, D, S, r, Nat.lt_succ_self k, h1, h2, hE, mo, fun j _ g => ?_, ?_⟩
        · rw [e1 j]
          unfold up
          rw [if_neg g]
        · rw [e1 b]
          unfold up
          rw [if_pos rfl]
      · refine back (fun j hj => ?_)
        rw [e1 j]
        unfold up
        rw [if_neg (fun e => hE (by rw [← e]; exact hj))]
    · exact back (fun j _ => e1 j)
end HIST
