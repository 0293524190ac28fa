/-! BREAKING: rounds of the class are hours of the model -/
theorem nb_max {c t q : Nat → Int} {s : Nat} {h : Int} {j : Nat} (h1 : Nat.testBit s j = false) (h2 : c j ≤ h) : ∀ k : Nat, j < k → 0 ≤ nb c t q s h k ∧ q j ≤ q (nb c t q s h k).toNat
  | 0, w => absurd w (Nat.not_lt_zero _)
  | k + 1, w => by
    have e : nb c t q s h (k + 1) = nbS c t q s h k (nb c t q s h k) := rfl
    rw [e]
    unfold nbS
    by_cases e2 : j = k
    · subst e2
      split
      · exact ⟨by omega, by rw [Int.toNat_natCast]; exact Int.le_refl _⟩
      · rename_i g
        constructor
        · rcases Int.lt_or_le (nb c t q s h j) 0 with a | a
          · exact absurd ⟨h1, h2, Or.inl a⟩ g
          · exact a
        · rcases Int.lt_or_le (q (nb c t q s h j).toNat) (q j) with a | a
          · exact absurd ⟨h1, h2, Or.inr (Or.inl a)⟩ g
          · exact a
    · have ih := nb_max h1 h2 (t := t) (q := q) k (by omega)
      split
      · rename_i g
        refine ⟨by omega, ?_⟩
        rw [Int.toNat_natCast]
        rcases g.2.2 with a | a | a <;> omega
      · exact ih
theorem nb_neg {c t q : Nat → Int} {s : Nat} {h : Int} : ∀ k : Nat, (∀ j, j < k → Nat.testBit s j = false → h < c j) → nb c t q s h k = -1
  | 0, _ => rfl
  | k + 1, hk => by
    have e : nb c t q s h (k + 1) = nbS c t q s h k (nb c t q s h k) := rfl
    rw [e, nb_neg k (fun j hj => hk j (by omega))]
    unfold nbS
    rw [if_neg (fun g => by have := hk k (Nat.lt_succ_self k) g.1; omega)]
noncomputable def mh (c t q : Nat → Int) (n : Nat) : Nat → Mb
  | 0 => ((br0 t n).1, 0, -1, 0, 0)
  | h + 1 => mbS c t q n (h : Int) (mh c t q n h)
def BRel (c t q : Nat → Int) (n : Nat) (x : Br) (m : Mb) : Prop := m.1 = x.1 ∧ m.2.1 = x.2.1 ∧ m.2.2.2.1 = x.2.2.2.1 ∧ (∀ k, k < n → Nat.testBit x.2.1 k = true → c k ≤ x.2.2.1) ∧ ((m.2.2.1 = -1 ∧ m.2.2.2.2 = x.2.2.2.2) ∨ (0 ≤ m.2.2.1 ∧ q m.2.2.1.toNat < q (nb c t q x.2.1 x.2.2.1 n).toNat ∧ 0 ≤ nb c t q x.2.1 x.2.2.1 n ∧ m.2.2.2.2 = x.2.2.2.2 - 1))
theorem up_up {f : Nat → Int} {k : Nat} {v w : Int} : up (up f k v) k w = up f k w := by
  funext j
  unfold up
  split <;> rfl
theorem up_id {f : Nat → Int} {k : Nat} {v : Int} (h : v = f k) : up f k v = f := by
  funext j
  unfold up
  split
  · rename_i e
    rw [h, e]
  · rfl
theorem su_pos {f : Nat → Int} {n j : Nat} (h0 : ∀ i, i < n → 0 ≤ f i) (hj : j < n) (h1 : 1 ≤ f j) : 0 < su f (fun _ => true) n := by
  have := su_le (f := f) (j := j) n h0 hj
  omega
section BREL
variable {n : Nat} {c t q : Nat → Int}
theorem br_idle (hB : BD n c t q) {x : Br} (hW : BW n t x) (hc : cb (Nat.testBit x.2.1) n < n) {a : Nat} (ha : (a : Int) = x.2.2.1) (hR : BRel c t q n x (mh c t q n a)) : ∀ i : Nat, (i : Int) + x.2.2.1 ≤ brH c n x → mh c t q n (a + i) = mh c t q n a
  | 0, _ => rfl
  | i + 1, hi => by
    have ih := br_idle hB hW hc ha hR i (by omega)
    show mbS c t q n ((a + i : Nat) : Int) (mh c t q n (a + i)) = _
    rw [ih]
    obtain ⟨r1, r2, r3, r4, r5⟩ := hR
    have hop : ∀ j, j < n → Nat.testBit x.2.1 j = false → brH c n x ≤ c j := fun j hj hb => by
      have hp : (fun j => !Nat.testBit x.2.1 j) j = true := by
        show (!Nat.testBit x.2.1 j) = true
        rw [hb]
        rfl
      have m1 := mn_le (c := c) (p := fun j => !Nat.testBit x.2.1 j) hp n (fun i hi => (hB i hi).1.1) hj
      unfold brH at *
      omega
    have e0 : nb c t q x.2.1 ((a + i : Nat) : Int) n = -1 := nb_neg n (fun j hj hb => by have := hop j hj hb; omega)
    have now : (mh c t q n a).2.2.1 = -1 ∧ (mh c t q n a).2.2.2.2 = x.2.2.2.2 := by
      rcases r5 with g | ⟨g1, g2, g3, g4⟩
      · exact g
      · exfalso
        have g3' := nb_ok n g3
        have := hop _ g3'.2.2 g3'.1
        omega
    have eN : mbN c t q n ((a + i : Nat) : Int) (mh c t q n a) = -1 := by
      unfold mbN
      rw [now.1, if_pos (by decide), r2, e0]
    have eB : mbB c t q n ((a + i : Nat) : Int) (mh c t q n a) = (mh c t q n a).2.2.2.2 := by
      unfold mbB
      rw [now.1, if_pos (by decide)]
    unfold mbS
    rw [eN, eB, if_pos (by decide)]
    refine Prod.ext rfl (Prod.ext rfl (Prod.ext ?_ rfl))
    exact now.1.symm
theorem br_run (hB : BD n c t q) {x : Br} (hW : BW n t x) (hc : cb (Nat.testBit x.2.1) n < n) {a : Nat} (ha : (a : Int) = brH c n x) (h1 : (mh c t q n a).1 = x.1) (h2 : (mh c t q n a).2.1 = x.2.1) (h3 : (mh c t q n a).2.2.2.1 = x.2.2.2.1) (h4 : mbN c t q n (a : Int) (mh c t q n a) = (brJ c t q n x : Int)) (h5 : mbB c t q n (a : Int) (mh c t q n a) = x.2.2.2.2) : ∀ i : Nat, (i : Int) < brU c t q n x - brH c n x → (mh c t q n (a + i)).1 = up x.1 (brJ c t q n x) (x.1 (brJ c t q n x) - i) ∧ (mh c t q n (a + i)).2.1 = x.2.1 ∧ (mh c t q n (a + i)).2.2.2.1 = x.2.2.2.1 ∧ mbN c t q n ((a + i : Nat) : Int) (mh c t q n (a + i)) = (brJ c t q n x : Int) ∧ mbB c t q n ((a + i : Nat) : Int) (mh c t q n (a + i)) = x.2.2.2.2
  | 0, _ => ⟨by rw [up_id (by omega)]; exact h1, h2, h3, h4, h5⟩
  | i + 1, hi => by
    obtain ⟨i1, i2, i3, i4, i5⟩ := br_run hB hW hc ha h1 h2 h3 h4 h5 i (by omega)
    obtain ⟨g1, g2, g3, g4, g5, g6, g7, g8⟩ := br_next hB hW hc
    obtain ⟨u1, u2⟩ := br_u hB hW hc
    have hlk := hl_ok (c := c) (q := q) (h := brH c n x) (x := q (brJ c t q n x)) (e := brH c n x + x.1 (brJ c t q n x)) (by omega) n
    have e : mh c t q n (a + (i + 1)) = (up x.1 (brJ c t q n x) (x.1 (brJ c t q n x) - ((i + 1 : Nat) : Int)), x.2.1, (brJ c t q n x : Int), x.2.2.2.1, x.2.2.2.2) := by
      show mbS c t q n ((a + i : Nat) : Int) (mh c t q n (a + i)) = _
      unfold mbS
      rw [i4, i5, if_neg (by omega), Int.toNat_natCast, i1, i2, i3, up_up, up_up]
      have ev : up x.1 (brJ c t q n x) (x.1 (brJ c t q n x) - (i : Int)) (brJ c t q n x) = x.1 (brJ c t q n x) - (i : Int) := by
        unfold up
        rw [if_pos rfl]
      rw [ev, if_neg (by omega)]
      rw [show x.1 (brJ c t q n x) - (i : Int) - 1 = x.1 (brJ c t q n x) - ((i + 1 : Nat) : Int) by omega]
    rw [e]
    have nob : ¬ q (brJ c t q n x) < q (nb c t q x.2.1 ((a + (i + 1) : Nat) : Int) n).toNat := fun w => by
      have p0 : 0 ≤ nb c t q x.2.1 ((a + (i + 1) : Nat) : Int) n := nb_pos g3 (by omega) n g2
      have p1 := nb_ok n p0
      by_cases w2 : c (nb c t q x.2.1 ((a + (i + 1) : Nat) : Int) n).toNat ≤ brH c n x
      · have := nb_max (t := t) (q := q) p1.1 w2 n p1.2.2
        rw [g1, Int.toNat_natCast] at this
        omega
      · have := hlk.2.2.1 _ p1.2.2 (by omega) w
        have eu : hl c q (brH c n x) (q (brJ c t q n x)) (brH c n x + x.1 (brJ c t q n x)) n = brU c t q n x := rfl
        rw [eu] at this
        omega
    refine ⟨rfl, rfl, rfl, ?_, ?_⟩
    · unfold mbN
      show (if (brJ c t q n x : Int) < 0 then _ else if q (Int.toNat (brJ c t q n x : Int)) < _ then _ else _) = _
      rw [if_neg (by omega), Int.toNat_natCast, if_neg nob]
    · unfold mbB
      show (if (brJ c t q n x : Int) < 0 then _ else if q (Int.toNat (brJ c t q n x : Int)) < _ then _ else _) = _
      rw [if_neg (by omega), Int.toNat_natCast, if_neg nob]
theorem br_rel (hB : BD n c t q) {x : Br} (hW : BW n t x) (hc : cb (Nat.testBit x.2.1) n < n) {a : Nat} (ha : (a : Int) = x.2.2.1) (hR : BRel c t q n x (mh c t q n a)) : ∃ a' : Nat, (a' : Int) = (brS c t q n x).2.2.1 ∧ a < a' ∧ BRel c t q n (brS c t q n x) (mh c t q n a') ∧ ∀ i, a ≤ i → i < a' → 0 < su (mh c t q n i).1 (fun _ => true) n := by
  obtain ⟨g1, g2, g3, g4, g5, g6, g7, g8⟩ := br_next hB hW hc
  obtain ⟨u1, u2⟩ := br_u hB hW hc
  have idle := br_idle hB hW hc ha hR
  obtain ⟨r1, r2, r3, r4, r5⟩ := hR
  have hw2 := hW.2.1
  -- the hour at which it begins
  obtain ⟨b, hb⟩ : ∃ b : Nat, (b : Int) = brH c n x := ⟨(brH c n x).toNat, by omega⟩
  have eb : mh c t q n b = mh c t q n a := by
    have := idle (b - a) (by omega)
    rw [show a + (b - a) = b by omega] at this
    exact this
  have h4 : mbN c t q n (b : Int) (mh c t q n b) = (brJ c t q n x : Int) ∧ mbB c t q n (b : Int) (mh c t q n b) = x.2.2.2.2 := by
    rw [eb]
    rcases r5 with ⟨s1, s2⟩ | ⟨s1, s2, s3, s4⟩
    · unfold mbN mbB
      rw [s1, if_pos (by decide), if_pos (by decide), r2, hb, g1]
      exact ⟨rfl, s2⟩
    · have eH : brH c n x = x.2.2.1 := by
        have p := nb_ok n s3
        have hp : (fun j => !Nat.testBit x.2.1 j) (nb c t q x.2.1 x.2.2.1 n).toNat = true := by
          show (!Nat.testBit x.2.1 _) = true
          rw [p.1]
          rfl
        have m1 := mn_le (c := c) (p := fun j => !Nat.testBit x.2.1 j) hp n (fun i hi => (hB i hi).1.1) p.2.2
        unfold brH
        omega
      unfold mbN mbB
      have nn : ¬ (mh c t q n a).2.2.1 < 0 := by omega
      simp only [nn, if_false, r2, hb, eH, s2, if_true]
      exact ⟨by rw [← eH]; exact g1, by omega⟩
  have run := br_run hB hW hc hb (by rw [eb]; exact r1) (by rw [eb]; exact r2) (by rw [eb]; exact r3) h4.1 h4.2
  obtain ⟨d, hd⟩ : ∃ d : Nat, ((d + 1 : Nat) : Int) = brU c t q n x - brH c n x := ⟨(brU c t q n x - brH c n x - 1).toNat, by omega⟩
  obtain ⟨i1, i2, i3, i4, i5⟩ := run d (by omega)
  have hU : (brS c t q n x).2.2.1 = brU c t q n x := by
    unfold brS
    split <;> rfl
  have ev : up x.1 (brJ c t q n x) (x.1 (brJ c t q n x) - (d : Int)) (brJ c t q n x) = x.1 (brJ c t q n x) - (d : Int) := by
    unfold up
    rw [if_pos rfl]
  have end1 : mh c t q n (b + d + 1) = if x.1 (brJ c t q n x) - (d : Int) - 1 = 0 then (up x.1 (brJ c t q n x) 0, x.2.1 ||| (1 <<< brJ c t q n x), -1, max x.2.2.2.1 (((b + d : Nat) : Int) + 1 + q (brJ c t q n x)), x.2.2.2.2) else (up x.1 (brJ c t q n x) (x.1 (brJ c t q n x) - (d : Int) - 1), x.2.1, (brJ c t q n x : Int), x.2.2.2.1, x.2.2.2.2) := by
    show mbS c t q n ((b + d : Nat) : Int) (mh c t q n (b + d)) = _
    unfold mbS
    rw [i4, i5, if_neg (by omega), Int.toNat_natCast, i1, i2, i3, up_up, up_up, ev]
  refine ⟨b + d + 1, by rw [hU]; omega, by omega, ?_, fun i hi1 hi2 => ?_⟩
  · have came : ∀ k, k < n → Nat.testBit (brS c t q n x).2.1 k = true → c k ≤ (brS c t q n x).2.2.1 := fun k hk hbk => by
      rw [hU]
      by_cases w : x.1 (brJ c t q n x) - (brU c t q n x - brH c n x) ≤ 0
      · have eS : (brS c t q n x).2.1 = x.2.1 ||| (1 <<< brJ c t q n x) := by
          unfold brS
          rw [if_pos w]
        rw [eS, or_bit, Bool.or_eq_true, decide_eq_true_eq] at hbk
        rcases hbk with y | y
        · have := r4 k hk y
          omega
        · rw [y]
          omega
      · have eS : (brS c t q n x).2.1 = x.2.1 := by
          unfold brS
          rw [if_neg w]
        rw [eS] at hbk
        have := r4 k hk hbk
        omega
    refine ⟨?_, ?_, ?_, came, ?_⟩
    all_goals
      rw [end1]
      unfold brS
      by_cases w : x.1 (brJ c t q n x) - (brU c t q n x - brH c n x) ≤ 0
    · rw [if_pos w, if_pos (by omega)]
      show up _ _ _ = up _ _ _
      rw [show x.1 (brJ c t q n x) - (brU c t q n x - brH c n x) = 0 by omega]
    · rw [if_neg w, if_neg (by omega)]
      show up _ _ _ = up _ _ _
      rw [show x.1 (brJ c t q n x) - (brU c t q n x - brH c n x) = x.1 (brJ c t q n x) - (d : Int) - 1 by omega]
    · rw [if_pos w, if_pos (by omega)]
    · rw [if_neg w, if_neg (by omega)]
    · rw [if_pos w, if_pos (by omega)]
      show max _ _ = max _ _
      rw [show brU c t q n x = ((b + d : Nat) : Int) + 1 by omega]
    · rw [if_neg w, if_neg (by omega)]
    · rw [if_pos w, if_pos (by omega)]
      exact Or.inl ⟨rfl, rfl⟩
    · rw [if_neg w, if_neg (by omega)]
      refine Or.inr ?_
      have hlk := hl_ok (c := c) (q := q) (h := brH c n x) (x := q (brJ c t q n x)) (e := brH c n x + x.1 (brJ c t q n x)) (by omega) n
      have eu : hl c q (brH c n x) (q (brJ c t q n x)) (brH c n x + x.1 (brJ c t q n x)) n = brU c t q n x := rfl
      rw [eu] at hlk
      rcases hlk.2.2.2 with y | ⟨k, k1, k2, k3⟩
      · omega
      · have kb : Nat.testBit x.2.1 k = false := by
          cases hbk : Nat.testBit x.2.1 k
          · rfl
          · have := r4 k k1 hbk
            omega
        have km := nb_max (c := c) (t := t) (q := q) (h := brU c t q n x) kb (by omega) n k1
        refine ⟨by show 0 ≤ (brJ c t q n x : Int); omega, ?_, km.1, ?_⟩
        · show q (Int.toNat (brJ c t q n x : Int)) < _
          rw [Int.toNat_natCast]
          exact Int.lt_of_lt_of_le k3 km.2
        · show x.2.2.2.2 = x.2.2.2.2 + 1 - 1
          omega
  · by_cases w : i ≤ b
    · have := idle (i - a) (by omega)
      rw [show a + (i - a) = i by omega] at this
      rw [this, r1]
      exact su_pos (fun k hk => (hw2 k hk).1) g2 g6
    · have := (run (i - b) (by omega)).1
      rw [show b + (i - b) = i by omega] at this
      rw [this]
      refine su_pos (j := brJ c t q n x) (fun k hk => ?_) g2 ?_
      · unfold up
        split
        · omega
        · exact (hw2 k hk).1
      · unfold up
        rw [if_pos rfl]
        omega
end BREL
