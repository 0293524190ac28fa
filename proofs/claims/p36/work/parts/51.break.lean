/-! BREAKING: a round of the class; its numbers -/
abbrev Br : Type := (Nat → Int) × Nat × Int × Int × Int
noncomputable def brH (c : Nat → Int) (n : Nat) (x : Br) : Int := max (mn c (fun j => !Nat.testBit x.2.1 j) n) x.2.2.1
noncomputable def brJ (c t q : Nat → Int) (n : Nat) (x : Br) : Nat := (nb c t q x.2.1 (brH c n x) n).toNat
noncomputable def brU (c t q : Nat → Int) (n : Nat) (x : Br) : Int := hl c q (brH c n x) (q (brJ c t q n x)) (brH c n x + x.1 (brJ c t q n x)) n
noncomputable def brS (c t q : Nat → Int) (n : Nat) (x : Br) : Br :=
  if x.1 (brJ c t q n x) - (brU c t q n x - brH c n x) ≤ 0 then
    (up x.1 (brJ c t q n x) (x.1 (brJ c t q n x) - (brU c t q n x - brH c n x)), x.2.1 ||| (1 <<< brJ c t q n x), brU c t q n x, max x.2.2.2.1 (brU c t q n x + q (brJ c t q n x)), x.2.2.2.2)
  else (up x.1 (brJ c t q n x) (x.1 (brJ c t q n x) - (brU c t q n x - brH c n x)), x.2.1, brU c t q n x, x.2.2.2.1, x.2.2.2.2 + 1)
noncomputable def br0 (t : Nat → Int) (n : Nat) : Br := (fun j => if j < n then t j else 0, 0, 0, 0, 0)
theorem hl_ok {c q : Nat → Int} {h x e : Int} (he : h < e) : ∀ k : Nat, h < hl c q h x e k ∧ hl c q h x e k ≤ e ∧ (∀ i, i < k → h < c i → x < q i → hl c q h x e k ≤ c i) ∧ (hl c q h x e k = e ∨ ∃ i, i < k ∧ c i = hl c q h x e k ∧ x < q i)
  | 0 => ⟨he, Int.le_refl _, fun i hi => absurd hi (Nat.not_lt_zero _), Or.inl rfl⟩
  | k + 1 => by
    obtain ⟨a1, a2, a3, a4⟩ := hl_ok he k (c := c) (q := q) (x := x)
    have eq : hl c q h x e (k + 1) = hlS c q h x k (hl c q h x e k) := rfl
    rw [eq]
    unfold hlS
    by_cases w : h < c k ∧ c k < hl c q h x e k ∧ x < q k
    · rw [if_pos w]
      refine ⟨w.1, by omega, fun i hi h1 h2 => ?_, Or.inr ⟨k, Nat.lt_succ_self k, rfl, w.2.2⟩⟩
      by_cases e : i = k
      · rw [e]
        exact Int.le_refl _
      · have := a3 i (by omega) h1 h2
        omega
    · rw [if_neg w]
      refine ⟨a1, a2, fun i hi h1 h2 => ?_, ?_⟩
      · by_cases e : i = k
        · subst e
          rcases Int.lt_or_le (c i) (hl c q h x e i) with g | g
          · exact absurd ⟨h1, g, h2⟩ w
          · exact g
        · exact a3 i (by omega) h1 h2
      · rcases a4 with g | ⟨i, i1, i2, i3⟩
        · exact Or.inl g
        · exact Or.inr ⟨i, by omega, i2, i3⟩
def BW (n : Nat) (t : Nat → Int) (x : Br) : Prop := x.2.1 < 2 ^ n ∧ (∀ j, j < n → 0 ≤ x.1 j ∧ x.1 j ≤ t j ∧ (x.1 j = 0 ↔ Nat.testBit x.2.1 j = true)) ∧ (0 ≤ x.2.2.1 ∧ x.2.2.1 + su x.1 (fun _ => true) n ≤ 900 + su t (fun _ => true) n) ∧ (0 ≤ x.2.2.2.1 ∧ x.2.2.2.1 ≤ 2000) ∧ (0 ≤ x.2.2.2.2 ∧ x.2.2.2.2 ≤ 100)
theorem su_at {f f' : Nat → Int} {j : Nat} {v : Int} (hj : f' j = v) (hf : ∀ i, i ≠ j → f' i = f i) : ∀ n, su f' (fun _ => true) n = su f (fun _ => true) n + (if j < n then v - f j else 0)
  | 0 => rfl
  | n + 1 => by
    have ih := su_at hj hf n
    show su f' (fun _ => true) n + f' n = su f (fun _ => true) n + f n + _
    rw [ih]
    by_cases e : j = n
    · subst e
      rw [if_neg (by omega), if_pos (by omega), hj]
      omega
    · rw [hf n (fun x => e x.symm)]
      by_cases g : j < n
      · rw [if_pos g, if_pos (by omega)]
        omega
      · rw [if_neg g, if_neg (by omega)]
        omega
theorem su_le {f : Nat → Int} {j : Nat} : ∀ n, (∀ i, i < n → 0 ≤ f i) → j < n → f j ≤ su f (fun _ => true) n ∧ 0 ≤ su f (fun _ => true) n
  | 0, _, h => absurd h (Nat.not_lt_zero _)
  | n + 1, hf, h => by
    have h0 := hf n (Nat.lt_succ_self n)
    show f j ≤ su f (fun _ => true) n + f n ∧ 0 ≤ su f (fun _ => true) n + f n
    by_cases e : j = n
    · subst e
      have : 0 ≤ su f (fun _ => true) j := by
        clear h h0
        have hf' : ∀ i, i < j → 0 ≤ f i := fun i hi => hf i (by omega)
        clear hf
        induction j with
        | zero => exact Int.le_refl _
        | succ k ih =>
          have := ih (fun i hi => hf' i (by omega))
          have := hf' k (by omega)
          show 0 ≤ su f (fun _ => true) k + f k
          omega
      omega
    · have := su_le n (fun i hi => hf i (by omega)) (show j < n by omega)
      omega
theorem br_next {c t q : Nat → Int} {n : Nat} (hB : BD n c t q) {x : Br} (hW : BW n t x) (hc : cb (Nat.testBit x.2.1) n < n) : nb c t q x.2.1 (brH c n x) n = (brJ c t q n x : Int) ∧ brJ c t q n x < n ∧ Nat.testBit x.2.1 (brJ c t q n x) = false ∧ c (brJ c t q n x) ≤ brH c n x ∧ (0 ≤ brH c n x ∧ brH c n x ≤ max 900 x.2.2.1) ∧ 1 ≤ x.1 (brJ c t q n x) ∧ x.1 (brJ c t q n x) ≤ 25 ∧ x.2.2.1 ≤ brH c n x := by
  obtain ⟨j, h1, h2⟩ := cb_ex n hc
  have hp : (fun j => !Nat.testBit x.2.1 j) j = true := by
    show (!Nat.testBit x.2.1 j) = true
    rw [h2]
    rfl
  have m1 := mn_le (c := c) (p := fun j => !Nat.testBit x.2.1 j) hp n (fun i hi => (hB i hi).1.1) h1
  have hm := mn_b (c := c) (p := fun j => !Nat.testBit x.2.1 j) (n := n) (M := 900) (fun j hj => (hB j hj).1) (by decide) n (Nat.le_refl _)
  obtain ⟨i, i1, i2, i3⟩ := mn_ok n m1.1
  have i4 : Nat.testBit x.2.1 i = false := by simpa using i2
  have p0 : 0 ≤ nb c t q x.2.1 (brH c n x) n := nb_pos i4 (by unfold brH; omega) n i1
  have p1 := nb_ok n p0
  have p2 : nb c t q x.2.1 (brH c n x) n = (brJ c t q n x : Int) := by
    unfold brJ
    omega
  obtain ⟨w1, w2, w3, w4, w5⟩ := hW
  have a := w2 (brJ c t q n x) p1.2.2
  have b := hB (brJ c t q n x) p1.2.2
  have a0 : x.1 (brJ c t q n x) ≠ 0 := fun g => by
    have := a.2.2.mp g
    rw [show Nat.testBit x.2.1 (brJ c t q n x) = false from p1.1] at this
    exact absurd this (by decide)
  refine ⟨p2, p1.2.2, p1.1, p1.2.1, ?_, by omega, by omega, ?_⟩
  · unfold brH
    omega
  · unfold brH
    omega
theorem br_u {c t q : Nat → Int} {n : Nat} (hB : BD n c t q) {x : Br} (hW : BW n t x) (hc : cb (Nat.testBit x.2.1) n < n) : brH c n x < brU c t q n x ∧ brU c t q n x ≤ brH c n x + x.1 (brJ c t q n x) := by
  obtain ⟨g1, g2, g3, g4, g5, g6, g7, g8⟩ := br_next hB hW hc
  have := hl_ok (c := c) (q := q) (h := brH c n x) (x := q (brJ c t q n x)) (e := brH c n x + x.1 (brJ c t q n x)) (by omega) n
  exact ⟨this.1, this.2.1⟩
theorem su_200 {n : Nat} {c t q : Nat → Int} (hB : BD n c t q) (hn : n ≤ 8) : 0 ≤ su t (fun _ => true) n ∧ su t (fun _ => true) n ≤ 200 := by
  have := su_b (t := t) (p := fun _ => true) (n := n) (M := 25) (fun j hj => ⟨by have := hB j hj; omega, by have := hB j hj; omega⟩) (by decide) n (Nat.le_refl _)
  omega
theorem BW_S {c t q : Nat → Int} {n : Nat} (hB : BD n c t q) (hn : n ≤ 8) {x : Br} (hW : BW n t x) (hc : cb (Nat.testBit x.2.1) n < n) (hb : x.2.2.2.2 < 100) : BW n t (brS c t q n x) := by
  obtain ⟨g1, g2, g3, g4, g5, g6, g7, g8⟩ := br_next hB hW hc
  obtain ⟨u1, u2⟩ := br_u hB hW hc
  have s200 := su_200 hB hn
  obtain ⟨w1, w2, w3, w4, w5⟩ := hW
  have sx := su_le (f := x.1) (j := brJ c t q n x) n (fun i hi => (w2 i hi).1) g2
  have hq := hB _ g2
  have st := su_at (f := x.1) (f' := up x.1 (brJ c t q n x) (x.1 (brJ c t q n x) - (brU c t q n x - brH c n x))) (j := brJ c t q n x) (v := x.1 (brJ c t q n x) - (brU c t q n x - brH c n x)) (by unfold up; rw [if_pos rfl]) (fun i hi => by unfold up; rw [if_neg hi]) n
  rw [if_pos g2] at st
  have hH : brU c t q n x + (su x.1 (fun _ => true) n + (x.1 (brJ c t q n x) - (brU c t q n x - brH c n x) - x.1 (brJ c t q n x))) ≤ 900 + su t (fun _ => true) n := by
    have l1 : su x.1 (fun _ => true) n ≤ su t (fun _ => true) n := by
      have : ∀ m, m ≤ n → su x.1 (fun _ => true) m ≤ su t (fun _ => true) m := fun m => by
        induction m with
        | zero => exact fun _ => Int.le_refl _
        | succ m ih =>
          intro hm
          have a := ih (by omega)
          have b := (w2 m (by omega)).2.1
          show su x.1 (fun _ => true) m + x.1 m ≤ su t (fun _ => true) m + t m
          omega
      exact this n (Nat.le_refl _)
    omega
  unfold brS
  split
  · rename_i hz
    refine ⟨or_lt n (by omega) _ w1 _ g2, fun j hj => ?_, ⟨by show 0 ≤ brU c t q n x; omega, by show brU c t q n x + su (up _ _ _) _ n ≤ _; rw [st]; exact hH⟩, ⟨by show 0 ≤ max _ _; omega, by show max _ _ ≤ (2000 : Int); omega⟩, w5⟩
    show 0 ≤ up _ _ _ j ∧ up _ _ _ j ≤ t j ∧ (up _ _ _ j = 0 ↔ Nat.testBit (x.2.1 ||| 1 <<< brJ c t q n x) j = true)
    rw [or_bit]
    unfold up
    by_cases e : j = brJ c t q n x
    · rw [if_pos e, decide_eq_true e, Bool.or_true]
      have := w2 j hj
      rw [e] at this
      exact ⟨by omega, by rw [e]; omega, ⟨fun _ => rfl, fun _ => by omega⟩⟩
    · rw [if_neg e, decide_eq_false e, Bool.or_false]
      exact w2 j hj
  · rename_i hz
    refine ⟨w1, fun j hj => ?_, ⟨by show 0 ≤ brU c t q n x; omega, by show brU c t q n x + su (up _ _ _) _ n ≤ _; rw [st]; exact hH⟩, w4, ⟨by show 0 ≤ x.2.2.2.2 + 1; omega, by show x.2.2.2.2 + 1 ≤ 100; omega⟩⟩
    show 0 ≤ up _ _ _ j ∧ up _ _ _ j ≤ t j ∧ (up _ _ _ j = 0 ↔ Nat.testBit x.2.1 j = true)
    unfold up
    by_cases e : j = brJ c t q n x
    · rw [if_pos e, e, g3]
      have := w2 (brJ c t q n x) g2
      exact ⟨by omega, by omega, ⟨fun h => by omega, fun h => absurd h (by decide)⟩⟩
    · rw [if_neg e]
      exact w2 j hj
