/-! P36: who begins in truth is as GREEDY tells -/
noncomputable def gE (c t q : Nat → Int) (n k : Nat) : Int := (gr c t q n k).2.2.2.2.2.1
noncomputable def gI (c t q : Nat → Int) (n k : Nat) : Int := (gr c t q n k).2.2.2.2.2.2.2
noncomputable def gJ (c t q : Nat → Int) (n k : Nat) : Nat := grJ c t q n (gr c t q n k)
noncomputable def gH (c t q : Nat → Int) (n k : Nat) : Int := grH c n (gr c t q n k)
noncomputable def gM (c t q : Nat → Int) (n k : Nat) : Nat := (gr c t q n k).2.1
section GOM
variable {n : Nat} {c t q : Nat → Int}
theorem gs (hB : BD n c t q) (hn : n ≤ 8) {k : Nat} (hk : k < n) : gE c t q n (k + 1) = gH c t q n k + t (gJ c t q n k) ∧ gI c t q n (k + 1) = gI c t q n k + (gH c t q n k - gE c t q n k) ∧ gE c t q n k ≤ gH c t q n k ∧ gM c t q n (k + 1) = gM c t q n k ||| (1 <<< gJ c t q n k) ∧ gJ c t q n k < n ∧ Nat.testBit (gM c t q n k) (gJ c t q n k) = false ∧ (1 ≤ t (gJ c t q n k) ∧ t (gJ c t q n k) ≤ 25) ∧ max (gE c t q n k) (c (gJ c t q n k)) = gH c t q n k := by
  obtain ⟨h1, h2, h3⟩ := gr_inv hB hn k (by omega)
  obtain ⟨g1, g2, g3, g4, g5⟩ := gr_next hB (y := gr c t q n k) (by omega)
  have hp : (fun j => !Nat.testBit (gr c t q n k).2.1 j) (grJ c t q n (gr c t q n k)) = true := by
    show (!Nat.testBit (gr c t q n k).2.1 (grJ c t q n (gr c t q n k))) = true
    rw [g3]
    rfl
  have m1 := mn_le (c := c) (p := fun j => !Nat.testBit (gr c t q n k).2.1 j) hp n (fun i hi => (hB i hi).1.1) g2
  have tb := (hB _ g2).2.1
  have e : max (gE c t q n k) (c (gJ c t q n k)) = gH c t q n k := by
    unfold gE gJ gH
    unfold grH at g4 ⊢
    omega
  refine ⟨?_, ?_, ?_, rfl, g2, g3, tb, e⟩
  · rw [← e]
    rfl
  · rw [← e]
    rfl
  · rw [← e]
    omega
theorem gE_mono (hB : BD n c t q) (hn : n ≤ 8) {i : Nat} : ∀ k, i ≤ k → k ≤ n → gE c t q n i ≤ gE c t q n k
  | 0, h, _ => by
    have : i = 0 := by omega
    subst this
    exact Int.le_refl _
  | k + 1, h, hk => by
    by_cases e : i = k + 1
    · subst e
      exact Int.le_refl _
    · have ih := gE_mono hB hn (i := i) k (by omega) (by omega)
      obtain ⟨g1, g2, g3, g4, g5, g6, g7, g8⟩ := gs hB hn (k := k) (by omega)
      omega
theorem gb_mono (hB : BD n c t q) (hn : n ≤ 8) {i j : Nat} (hb : Nat.testBit (gM c t q n i) j = true) : ∀ k, i ≤ k → k ≤ n → Nat.testBit (gM c t q n k) j = true
  | 0, h, _ => by
    have : i = 0 := by omega
    subst this
    exact hb
  | k + 1, h, hk => by
    by_cases e : i = k + 1
    · subst e
      exact hb
    · have ih := gb_mono hB hn (i := i) hb k (by omega) (by omega)
      rw [(gs hB hn (k := k) (by omega)).2.2.2.1, or_bit, ih]
      rfl
theorem gb_t (hB : BD n c t q) (hn : n ≤ 8) {i k : Nat} (h : i < k) (hk : k ≤ n) : Nat.testBit (gM c t q n k) (gJ c t q n i) = true := by
  refine gb_mono hB hn (i := i + 1) ?_ k (by omega) hk
  rw [(gs hB hn (k := i) (by omega)).2.2.2.1, or_bit, decide_eq_true rfl]
  simp
theorem gb_f (hB : BD n c t q) (hn : n ≤ 8) {i k : Nat} (h : k ≤ i) (hi : i < n) : Nat.testBit (gM c t q n k) (gJ c t q n i) = false := by
  cases hb : Nat.testBit (gM c t q n k) (gJ c t q n i) with
  | false => rfl
  | true =>
    have := gb_mono hB hn hb i h (by omega)
    rw [(gs hB hn hi).2.2.2.2.2.1] at this
    exact absurd this (by decide)
theorem gb_iff (hB : BD n c t q) (hn : n ≤ 8) {i k : Nat} (hi : i < n) (hk : k ≤ n) : Nat.testBit (gM c t q n k) (gJ c t q n i) = true ↔ i < k := by
  by_cases h : i < k
  · exact ⟨fun _ => h, fun _ => gb_t hB hn h hk⟩
  · refine ⟨fun e => ?_, fun e => absurd e h⟩
    rw [gb_f hB hn (by omega) hi] at e
    exact absurd e (by decide)
theorem gJ_ne (hB : BD n c t q) (hn : n ≤ 8) {i j : Nat} (h : i < j) (hj : j < n) : gJ c t q n i ≠ gJ c t q n j := fun e => by
  have h1 := gb_t hB hn h (by omega)
  rw [e, (gs hB hn hj).2.2.2.2.2.1] at h1
  exact absurd h1 (by decide)
theorem gJ_inj (hB : BD n c t q) (hn : n ≤ 8) {i j : Nat} (hi : i < n) (hj : j < n) (e : gJ c t q n i = gJ c t q n j) : i = j := by
  rcases Nat.lt_trichotomy i j with h | h | h
  · exact absurd e (gJ_ne hB hn h hj)
  · exact h
  · exact absurd e.symm (gJ_ne hB hn h hi)
/-- GREEDY's row and its begins -/
theorem gr_at (hB : BD n c t q) (hn : n ≤ 8) : ∀ k, k ≤ n → ∀ i, i < k → (gr c t q n k).2.2.1 i = gJ c t q n i ∧ (gr c t q n k).2.2.2.1 (gJ c t q n i) = gH c t q n i
  | 0, _, i, hi => absurd hi (Nat.not_lt_zero _)
  | k + 1, hk, i, hi => by
    have k1 := (gr_inv hB hn k (by omega)).2.2
    have g := gs hB hn (k := k) (by omega)
    have e1 : (gr c t q n (k + 1)).2.2.1 = up (gr c t q n k).2.2.1 (gr c t q n k).1 (gJ c t q n k) := rfl
    have e2 : (gr c t q n (k + 1)).2.2.2.1 = up (gr c t q n k).2.2.2.1 (gJ c t q n k) (max (gE c t q n k) (c (gJ c t q n k))) := rfl
    rw [e1, e2, k1, g.2.2.2.2.2.2.2]
    unfold up
    by_cases e : i = k
    · subst e
      rw [if_pos rfl, if_pos rfl]
      exact ⟨rfl, rfl⟩
    · rw [if_neg e, if_neg (gJ_ne hB hn (show i < k by omega) (by omega))]
      exact gr_at hB hn k (by omega) i (by omega)
def GO (c t q : Nat → Int) (n : Nat) (h : Int) (x : Tr) : Prop := x.1 = h ∧ ∃ k, k ≤ n ∧ x.2.2.2.1 = gM c t q n k ∧ (∀ i, i < k → x.2.2.2.2.2.2 (gJ c t q n i) = gH c t q n i) ∧
  ((x.2.1 = -1 ∧ x.2.2.2.2.1 = gM c t q n k ∧ gE c t q n k ≤ h ∧ (k < n → h ≤ gH c t q n k) ∧ x.2.2.2.2.2.1 = gI c t q n k + (h - gE c t q n k)) ∨
   ∃ i, k = i + 1 ∧ x.2.1 = (gJ c t q n i : Int) ∧ x.2.2.1 = gE c t q n k - h ∧ h < gE c t q n k ∧ gH c t q n i < h ∧ x.2.2.2.2.1 = gM c t q n i ∧ x.2.2.2.2.2.1 = gI c t q n k)
theorem GO_0 : GO c t q n 0 tr0 := by
  refine ⟨rfl, 0, Nat.zero_le _, rfl, fun i hi => absurd hi (Nat.not_lt_zero _), Or.inl ⟨rfl, rfl, Int.le_refl _, fun _ => ?_, rfl⟩⟩
  have : gE c t q n 0 = 0 := rfl
  have h2 : gH c t q n 0 = max (mn c (fun j => !Nat.testBit (gr c t q n 0).2.1 j) n) (gE c t q n 0) := rfl
  omega
theorem nb_no (hB : BD n c t q) (hn : n ≤ 8) {k : Nat} (hk : k ≤ n) {h : Int} (h1 : gE c t q n k ≤ h) (h2 : k < n → h < gH c t q n k) : nb c t q (gM c t q n k) h n < 0 := by
  refine Classical.byContradiction fun w => ?_
  have p := nb_ok n (show 0 ≤ nb c t q (gM c t q n k) h n by omega)
  obtain ⟨j, hj⟩ : ∃ j, j = (nb c t q (gM c t q n k) h n).toNat := ⟨_, rfl⟩
  rw [← hj] at p
  by_cases e : k < n
  · have hp : (fun j => !Nat.testBit (gr c t q n k).2.1 j) j = true := by
      show (!Nat.testBit (gM c t q n k) j) = true
      rw [p.1]
      rfl
    have m1 := mn_le (c := c) (p := fun j => !Nat.testBit (gr c t q n k).2.1 j) hp n (fun i hi => (hB i hi).1.1) p.2.2
    have h3 := h2 e
    have h4 : gH c t q n k = max (mn c (fun j => !Nat.testBit (gr c t q n k).2.1 j) n) (gE c t q n k) := rfl
    omega
  · have : k = n := by omega
    subst this
    have m := gr_mem (c := c) (t := t) (q := q) hB hn p.2.2
    have p1 : Nat.testBit (gr c t q k k).2.1 j = false := p.1
    rw [p1] at m
    exact absurd m (by decide)
theorem go_s (hB : BD n c t q) (hn : n ≤ 8) {h : Int} {x : Tr} (g : GO c t q n h x) : GO c t q n (h + 1) (trP (trB c t q n x)) := by
  obtain ⟨x1, x2, x3, x4, x5, x6, x7⟩ := x
  obtain ⟨e1, k, hk, e4, e7, g⟩ := g
  dsimp only at e1 e4 e7 g
  subst e1
  subst e4
  rcases g with ⟨a1, a2, a3, a4, a5⟩ | ⟨i, hi, b1, b2, b3, b4, b5, b6⟩
  · subst a1
    subst a2
    by_cases gn : k < n ∧ x1 = gH c t q n k
    · obtain ⟨kn, hh⟩ := gn
      obtain ⟨g1, g2, g3, g4, g5, g6, g7, g8⟩ := gs hB hn kn
      have cbk := (gr_inv hB hn k hk).2.1
      have nx := gr_next hB (y := gr c t q n k) (by omega)
      have en : nb c t q (gM c t q n k) x1 n = (gJ c t q n k : Int) := by
        rw [hh]
        have : (gJ c t q n k : Int) = ((nb c t q (gM c t q n k) (gH c t q n k) n).toNat : Int) := rfl
        have n0 : 0 ≤ nb c t q (gM c t q n k) (gH c t q n k) n := nx.1
        omega
      have eB : trB c t q n (x1, -1, x3, gM c t q n k, gM c t q n k, x6, x7) = (x1, (gJ c t q n k : Int), t (gJ c t q n k), gM c t q n (k + 1), gM c t q n k, x6, up x7 (gJ c t q n k) x1) := by
        unfold trB
        dsimp only
        rw [en, if_pos ⟨by decide, by omega⟩, Int.toNat_natCast, g4]
      have hrs : ∀ i, i < k + 1 → up x7 (gJ c t q n k) x1 (gJ c t q n i) = gH c t q n i := fun i hi => by
        unfold up
        by_cases e : i = k
        · rw [e, if_pos rfl, hh]
        · rw [if_neg (gJ_ne hB hn (show i < k by omega) kn)]
          exact e7 i (by omega)
      rw [eB]
      unfold trP
      dsimp only
      rw [if_neg (by omega)]
      by_cases w : t (gJ c t q n k) - 1 ≤ 0
      · rw [if_pos w, Int.toNat_natCast, ← g4]
        refine ⟨rfl, k + 1, kn, rfl, hrs, Or.inl ⟨rfl, rfl, by omega, fun k1 => ?_, ?_⟩⟩
        · have := (gs hB hn k1).2.2.1
          omega
        · show x6 = _
          omega
      · rw [if_neg w]
        refine ⟨rfl, k + 1, kn, rfl, hrs, Or.inr ⟨k, rfl, rfl, ?_, ?_, ?_, rfl, ?_⟩⟩
        · show t (gJ c t q n k) - 1 = _
          omega
        · omega
        · omega
        · show x6 = _
          omega
    · have no : nb c t q (gM c t q n k) x1 n < 0 := nb_no hB hn hk a3 (fun kn => by
        have := a4 kn
        have : x1 ≠ gH c t q n k := fun e => gn ⟨kn, e⟩
        omega)
      have eB : trB c t q n (x1, -1, x3, gM c t q n k, gM c t q n k, x6, x7) = (x1, -1, x3, gM c t q n k, gM c t q n k, x6, x7) := by
        unfold trB
        dsimp only
        rw [if_neg (fun e => by omega)]
      rw [eB]
      unfold trP
      dsimp only
      rw [if_pos (by decide)]
      refine ⟨rfl, k, hk, rfl, e7, Or.inl ⟨rfl, rfl, by omega, fun kn => ?_, ?_⟩⟩
      · have := a4 kn
        have : x1 ≠ gH c t q n k := fun e => gn ⟨kn, e⟩
        omega
      · show x6 + 1 = _
        omega
  · subst hi
    subst b1
    subst b5
    obtain ⟨g1, g2, g3, g4, g5, g6, g7, g8⟩ := gs hB hn (k := i) (by omega)
    have eB : trB c t q n (x1, (gJ c t q n i : Int), x3, gM c t q n (i + 1), gM c t q n i, x6, x7) = (x1, (gJ c t q n i : Int), x3, gM c t q n (i + 1), gM c t q n i, x6, x7) := by
      unfold trB
      dsimp only
      rw [if_neg (fun e => by omega)]
    rw [eB]
    unfold trP
    dsimp only
    rw [if_neg (by omega)]
    by_cases w : x3 - 1 ≤ 0
    · rw [if_pos w, Int.toNat_natCast, ← g4]
      refine ⟨rfl, i + 1, hk, rfl, e7, Or.inl ⟨rfl, rfl, by omega, fun k1 => ?_, ?_⟩⟩
      · have := (gs hB hn k1).2.2.1
        omega
      · show x6 = _
        omega
    · rw [if_neg w]
      refine ⟨rfl, i + 1, hk, rfl, e7, Or.inr ⟨i, rfl, rfl, ?_, ?_, ?_, rfl, b6⟩⟩
      · show x3 - 1 = _
        omega
      · omega
      · omega
theorem go_all (hB : BD n c t q) (hn : n ≤ 8) : ∀ m : Nat, GO c t q n (m : Int) (goT c t q n tr0 m)
  | 0 => GO_0
  | m + 1 => by
    have := go_s hB hn (go_all hB hn m)
    rw [show ((m + 1 : Nat) : Int) = (m : Int) + 1 by omega]
    exact this
/-! what GO says of each job of GREEDY's row -/
noncomputable def tks (c t q : Nat → Int) (n : Nat) (h : Int) : Nat → Int
  | 0 => 0
  | i + 1 => tks c t q n h i + max 0 (min h (gE c t q n (i + 1)) - min h (gH c t q n i))
theorem gH_ge (hB : BD n c t q) (hn : n ≤ 8) {i k : Nat} (hk : k ≤ i) (hi : i < n) : gE c t q n k ≤ gH c t q n i := by
  have h1 := gE_mono hB hn i hk (by omega)
  have h2 := (gs hB hn hi).2.2.1
  omega
theorem gH_lt (hB : BD n c t q) (hn : n ≤ 8) {i k : Nat} (hi : i < k) (hk : k ≤ n) : gH c t q n i < gE c t q n (i + 1) ∧ gE c t q n (i + 1) ≤ gE c t q n k := by
  have h1 := gE_mono hB hn (i := i + 1) k (by omega) hk
  obtain ⟨g1, g2, g3, g4, g5, g6, g7, g8⟩ := gs hB hn (k := i) (by omega)
  omega
theorem tks_a (hB : BD n c t q) (hn : n ≤ 8) {h : Int} : ∀ i, i ≤ n → gE c t q n i ≤ h → tks c t q n h i = gE c t q n i - gI c t q n i
  | 0, _, _ => rfl
  | i + 1, hi, he => by
    obtain ⟨g1, g2, g3, g4, g5, g6, g7, g8⟩ := gs hB hn (k := i) (by omega)
    have ih := tks_a hB hn (h := h) i (by omega) (by omega)
    show tks c t q n h i + max 0 (min h (gE c t q n (i + 1)) - min h (gH c t q n i)) = _
    omega
theorem tks_z (hB : BD n c t q) (hn : n ≤ 8) {h : Int} {k : Nat} : ∀ i, k ≤ i → i ≤ n → (∀ j, k ≤ j → j < n → h ≤ gH c t q n j) → tks c t q n h i = tks c t q n h k
  | 0, h1, _, _ => by
    have : k = 0 := by omega
    rw [this]
  | i + 1, h1, h2, h3 => by
    by_cases e : k = i + 1
    · rw [e]
    · have ih := tks_z hB hn (h := h) (k := k) i (by omega) (by omega) h3
      have g := h3 i (by omega) (by omega)
      have l := (gH_lt hB hn (i := i) (k := i + 1) (by omega) h2).1
      show tks c t q n h i + max 0 (min h (gE c t q n (i + 1)) - min h (gH c t q n i)) = _
      omega
theorem tks_b {h : Int} (h0 : 0 ≤ h) (hB : BD n c t q) (hn : n ≤ 8) : ∀ i, i ≤ n → 0 ≤ tks c t q n h i ∧ tks c t q n h i ≤ h * i
  | 0, _ => ⟨Int.le_refl _, by show (0 : Int) ≤ h * ((0 : Nat) : Int); omega⟩
  | i + 1, hi => by
    have ih := tks_b h0 hB hn i (by omega)
    have l := (gH_lt hB hn (i := i) (k := i + 1) (by omega) hi).1
    have e0 : 0 ≤ gE c t q n 0 := Int.le_refl _
    have l0 := gH_ge hB hn (k := 0) (i := i) (by omega) (by omega)
    have em : h * ((i + 1 : Nat) : Int) = h * (i : Int) + h := by
      rw [show ((i + 1 : Nat) : Int) = (i : Int) + 1 by omega, Int.mul_add, Int.mul_one]
    rw [em]
    show 0 ≤ tks c t q n h i + max 0 (min h (gE c t q n (i + 1)) - min h (gH c t q n i)) ∧ tks c t q n h i + max 0 (min h (gE c t q n (i + 1)) - min h (gH c t q n i)) ≤ _
    omega
theorem go_v (hB : BD n c t q) (hn : n ≤ 8) {h : Int} {x : Tr} (g : GO c t q n h x) : (∀ i, i < n → ((Nat.testBit x.2.2.2.1 (gJ c t q n i) = true ↔ gH c t q n i < h) ∧ (gH c t q n i < h → x.2.2.2.2.2.2 (gJ c t q n i) = gH c t q n i) ∧ (Nat.testBit x.2.2.2.2.1 (gJ c t q n i) = true ↔ gE c t q n (i + 1) ≤ h) ∧ (x.2.1 = (gJ c t q n i : Int) ↔ (gH c t q n i < h ∧ h < gE c t q n (i + 1))))) ∧ x.2.2.2.2.2.1 = h - tks c t q n h n := by
  obtain ⟨e1, k, hk, e4, e7, g⟩ := g
  rcases g with ⟨a1, a2, a3, a4, a5⟩ | ⟨i0, hi, b1, b2, b3, b4, b5, b6⟩
  · have late : ∀ j, k ≤ j → j < n → h ≤ gH c t q n j := fun j h1 h2 => by
      have h3 := a4 (by omega)
      by_cases e : j = k
      · rw [e]
        exact h3
      · have := gH_ge hB hn (k := k + 1) (i := j) (by omega) h2
        have := (gH_lt hB hn (i := k) (k := k + 1) (by omega) (by omega)).1
        omega
    refine ⟨fun i hi => ⟨?_, fun w => ?_, ?_, ?_⟩, ?_⟩
    · rw [e4, gb_iff hB hn hi hk]
      refine ⟨fun w => ?_, fun w => Classical.byContradiction fun q => by have := late i (by omega) hi; omega⟩
      have := gH_lt hB hn w hk
      omega
    · refine e7 i (Classical.byContradiction fun q => by have := late i (by omega) hi; omega)
    · rw [a2, gb_iff hB hn hi hk]
      refine ⟨fun w => ?_, fun w => Classical.byContradiction fun q => ?_⟩
      · have := gH_lt hB hn w hk
        omega
      · have := late i (by omega) hi
        have := (gH_lt hB hn (i := i) (k := i + 1) (by omega) (by omega)).1
        omega
    · rw [a1]
      refine ⟨fun w => by omega, fun w => ?_⟩
      by_cases q : i < k
      · have := gH_lt hB hn q hk
        omega
      · have := late i (by omega) hi
        omega
    · rw [a5, tks_z hB hn n hk (Nat.le_refl _) late, tks_a hB hn k hk a3]
      omega
  · subst hi
    have late : ∀ j, i0 + 1 ≤ j → j < n → h < gH c t q n j := fun j h1 h2 => by
      have := gH_ge hB hn (k := i0 + 1) (i := j) (by omega) h2
      omega
    obtain ⟨g1, g2, g3, g4, g5, g6, g7, g8⟩ := gs hB hn (k := i0) (by omega)
    refine ⟨fun i hi => ⟨?_, fun w => ?_, ?_, ?_⟩, ?_⟩
    · rw [e4, gb_iff hB hn hi hk]
      refine ⟨fun w => ?_, fun w => Classical.byContradiction fun q => by have := late i (by omega) hi; omega⟩
      by_cases e : i = i0
      · rw [e]
        exact b4
      · have := gH_lt hB hn (i := i) (k := i0) (by omega) (by omega)
        omega
    · refine e7 i (Classical.byContradiction fun q => by have := late i (by omega) hi; omega)
    · rw [b5, gb_iff hB hn hi (by omega)]
      refine ⟨fun w => ?_, fun w => Classical.byContradiction fun q => ?_⟩
      · have := gH_lt hB hn w (by omega)
        omega
      · have l := (gH_lt hB hn (i := i) (k := i + 1) (by omega) (by omega)).1
        by_cases e : i = i0
        · rw [e] at w
          omega
        · have := late i (by omega) hi
          omega
    · rw [b1]
      refine ⟨fun w => ?_, fun w => ?_⟩
      · have e : i0 = i := gJ_inj hB hn (by omega) hi (by omega)
        subst e
        exact ⟨b4, b3⟩
      · by_cases e : i = i0
        · rw [e]
        · by_cases q : i < i0
          · have := gH_lt hB hn q (by omega)
            omega
          · have := late i (by omega) hi
            omega
    · have z := tks_z hB hn n hk (Nat.le_refl _) (h := h) (fun j h1 h2 => by have := late j h1 h2; omega)
      have ta := tks_a hB hn i0 (by omega) (h := h) (by omega)
      have st : tks c t q n h (i0 + 1) = tks c t q n h i0 + max 0 (min h (gE c t q n (i0 + 1)) - min h (gH c t q n i0)) := rfl
      rw [b6, z, st, ta]
      omega
end GOM
