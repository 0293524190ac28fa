/-! SEARCH: a node of the class's tree, told by numbers alone -/
section ROWS
variable {n : Nat} {c t q : Nat → Int} {U : Int}
def GE (y : Ly) : Prop := ∀ i, i + 1 < y.1 → y.2.2.2.2.1 (y.2.2.1 i) ≤ y.2.2.2.1 (y.2.2.1 (i + 1))
theorem GE_ap {y : Ly} (hG : GI n t q y) {j : Nat} (hj : Nat.testBit y.2.1 j = false) (h : GE y) : GE (ap c t q y j) := by
  intro i hi
  have hi : i + 1 < y.1 + 1 := hi
  have ne : ∀ k, k < y.1 → y.2.2.1 k ≠ j := fun k hk e => by
    have := hG.1 k hk
    rw [e, hj] at this
    exact absurd this (by decide)
  show up y.2.2.2.2.1 j (max y.2.2.2.2.2.1 (c j) + t j) (up y.2.2.1 y.1 j i) ≤ up y.2.2.2.1 j (max y.2.2.2.2.2.1 (c j)) (up y.2.2.1 y.1 j (i + 1))
  have e1 : up y.2.2.1 y.1 j i = y.2.2.1 i := by
    unfold up
    rw [if_neg (by omega)]
  rw [e1]
  have e2 : up y.2.2.2.2.1 j (max y.2.2.2.2.2.1 (c j) + t j) (y.2.2.1 i) = y.2.2.2.2.1 (y.2.2.1 i) := by
    unfold up
    rw [if_neg (ne i (by omega))]
  rw [e2]
  by_cases g : i + 1 = y.1
  · have e3 : up y.2.2.1 y.1 j (i + 1) = j := by
      unfold up
      rw [if_pos g]
    rw [e3]
    have e4 : up y.2.2.2.1 j (max y.2.2.2.2.2.1 (c j)) j = max y.2.2.2.2.2.1 (c j) := by
      unfold up
      rw [if_pos rfl]
    rw [e4]
    exact Int.le_trans (hG.2.2.2 i (by omega)).2.2.1 (Int.le_max_left _ _)
  · have e3 : up y.2.2.1 y.1 j (i + 1) = y.2.2.1 (i + 1) := by
      unfold up
      rw [if_neg g]
    rw [e3]
    have e4 : up y.2.2.2.1 j (max y.2.2.2.2.2.1 (c j)) (y.2.2.1 (i + 1)) = y.2.2.2.1 (y.2.2.1 (i + 1)) := by
      unfold up
      rw [if_neg (ne (i + 1) (by omega))]
    rw [e4]
    exact h i (by omega)
theorem gr_GE (hB : BD n c t q) (hn : n ≤ 8) : ∀ k, k ≤ n → GE (gr c t q n k)
  | 0, _ => fun i hi => absurd hi (Nat.not_lt_zero _)
  | k + 1, hk => by
    have h2 := (gr_inv hB hn k (by omega)).2.1
    exact GE_ap (gr_GI hB hn k (by omega)) (gr_next hB (y := gr c t q n k) (by omega)).2.2.1 (gr_GE hB hn k (by omega))
theorem GE_lt {y : Ly} (ht : ∀ j, j < n → 1 ≤ t j) (hw : ∀ k, k < y.1 → y.2.2.1 k < n) (hG : GI n t q y) (hE : GE y) : ∀ k i, i < k → k < y.1 → y.2.2.2.2.1 (y.2.2.1 i) ≤ y.2.2.2.1 (y.2.2.1 k)
  | 0, i, h, _ => absurd h (Nat.not_lt_zero _)
  | k + 1, i, h, hk => by
    have a := hE k hk
    by_cases e : i = k
    · rw [e]
      exact a
    · have b := GE_lt ht hw hG hE k i (by omega) (by omega)
      have d := (hG.2.2.2 k (by omega)).2.1
      have tk := ht _ (hw k (by omega))
      omega
/-- some of the row's first m: the last of them ends no sooner than all of them take -/
theorem zrow {y : Ly} (ht : ∀ j, j < n → 1 ≤ t j) (hw : ∀ k, k < y.1 → y.2.2.1 k < n) (hG : GI n t q y) (hE : GE y) {X : Int} : ∀ m, m ≤ y.1 → ∀ p : Nat → Bool, (∀ j, p j = true → X ≤ y.2.2.2.1 j ∧ ∃ i, i < m ∧ y.2.2.1 i = j) → (∃ j, p j = true) → ∃ i, i < m ∧ p (y.2.2.1 i) = true ∧ X + su t p n ≤ y.2.2.2.2.1 (y.2.2.1 i)
  | 0, _, p, hp, ⟨j, hj⟩ => by
    obtain ⟨-, i, i1, -⟩ := hp j hj
    exact absurd i1 (Nat.not_lt_zero _)
  | m + 1, hm, p, hp, hex => by
    by_cases g : p (y.2.2.1 m) = true
    · have d := (hG.2.2.2 m (by omega)).2.1
      have hx := (hp _ g).1
      have st := su_up (t := t) (p := fun j => p j && !decide (j = y.2.2.1 m)) (p' := p) (j := y.2.2.1 m) (fun i => by
        show p i = ((p i && !decide (i = y.2.2.1 m)) || decide (i = y.2.2.1 m))
        by_cases e : i = y.2.2.1 m
        · rw [e, g]
          simp
        · simp [e]) (by
        show (p (y.2.2.1 m) && !decide (y.2.2.1 m = y.2.2.1 m)) = false
        simp) n (hw m (by omega))
      refine ⟨m, Nat.lt_succ_self m, g, ?_⟩
      by_cases w : ∃ j, (p j && !decide (j = y.2.2.1 m)) = true
      · obtain ⟨i, i1, i2, i3⟩ := zrow ht hw hG hE m (by omega) (fun j => p j && !decide (j = y.2.2.1 m)) (fun j hj => by
          rw [Bool.and_eq_true] at hj
          obtain ⟨a1, i, i1, i2⟩ := hp j hj.1
          refine ⟨a1, i, ?_, i2⟩
          have ne : j ≠ y.2.2.1 m := by simpa using hj.2
          have : i ≠ m := fun e => ne (by rw [← i2, e])
          omega) w
        have := GE_lt ht hw hG hE m i i1 (by omega)
        omega
      · have z0 : su t (fun j => p j && !decide (j = y.2.2.1 m)) n = 0 := zu_no (fun j _ => by
          cases h : (p j && !decide (j = y.2.2.1 m))
          · rfl
          · exact absurd ⟨j, h⟩ w)
        omega
    · obtain ⟨i, i1, i2, i3⟩ := zrow ht hw hG hE m (by omega) p (fun j hj => by
        obtain ⟨a1, i, i1, i2⟩ := hp j hj
        refine ⟨a1, i, ?_, i2⟩
        have : i ≠ m := fun e => g (by rw [← e, i2]; exact hj)
        omega) hex
      exact ⟨i, by omega, i2, i3⟩
theorem zN_of (hB : BD n c t q) (hn : n ≤ 8) (hb : 0 ≤ bkB q n (gr c t q n n)) (hU : U ≤ (gr c t q n n).2.2.2.2.2.2.1) : ∃ (P : Nat) (F D : Nat → Bool) (S r : Int), zN n t c q U (svB c t q n) P F D S r ∧ (gr c t q n n).2.2.2.2.2.2.1 = S + t (svB c t q n) + su t D n + q P ∧ svQ c t q n = su t D n + q P ∧ svR c t q n = r + su t D n := by
  have ht : ∀ j, j < n → 1 ≤ t j := fun j hj => (hB j hj).2.1.1
  obtain ⟨b, P, y, D, r, S, e1, b1, b2, b3, n1, n2, g1, g2, g3, g4, g5, g6, g7, g8, g9, g10, g11, g12, g13, g14, g15, g16⟩ := ed_facts hB hn hb
  obtain ⟨-, -, l3, l4⟩ := svB_lt hB hn hb
  obtain ⟨w1, w2, w3⟩ := gr_inv hB hn n (Nat.le_refl _)
  have hG := gr_GI hB hn n (Nat.le_refl _)
  have hS := gr_GS hB hn n (Nat.le_refl _)
  have hE := gr_GE hB hn n (Nat.le_refl _)
  have hp : 0 ≤ pl q (gr c t q n n) n := by
    rcases hG.2.2.1 with e | ⟨i, i1, i2⟩
    · omega
    · exact pl_ex i2 n (by omega)
  have pm := pl_max (q := q) (y := gr c t q n n) n
  have eB : svB c t q n = (gr c t q n n).2.2.1 (bkB q n (gr c t q n n)).toNat := rfl
  have eL : svL c t q n = (gr c t q n n).2.2.1 (pl q (gr c t q n n) n).toNat := rfl
  have eD : svD c t q n = mkR (gr c t q n n).2.2.1 ((bkB q n (gr c t q n n)).toNat + 1) ((pl q (gr c t q n n) n).toNat + 1) := rfl
  have eS : svS0 c t q n = (gr c t q n n).2.2.2.1 (svB c t q n) := rfl
  have pe := pl_eq (q := q) (y := gr c t q n n) n hp
  obtain ⟨a, ha⟩ : ∃ a : Nat, (bkB q n (gr c t q n n)).toNat = a := ⟨_, rfl⟩
  obtain ⟨l, hl⟩ : ∃ l : Nat, (pl q (gr c t q n n) n).toNat = l := ⟨_, rfl⟩
  have hl2 : pl q (gr c t q n n) n = (l : Int) := by omega
  rw [hl2] at pm
  rw [ha] at eB l4
  rw [hl] at eL l3 l4 pe
  rw [ha, hl] at eD
  rw [← e1] at eB eS ⊢
  rw [g10] at eS
  rw [g11] at eL
  rw [eD] at g12 g13 g14 g15 g16
  rw [g7] at hU
  have fin := g7
  have sQ := g8
  have sR := g9
  clear g8 g9 g10 g11 e1 eD ha hl hl2 hp hb
  generalize gr c t q n n = Y at *
  obtain ⟨dd, hd⟩ : ∃ dd : Nat → Bool, dd = Nat.testBit (mkR Y.2.2.1 (a + 1) (l + 1)) := ⟨_, rfl⟩
  have hdb : ∀ j, dd j = true ↔ ∃ m, a + 1 ≤ m ∧ m < l + 1 ∧ Y.2.2.1 m = j := fun j => by
    rw [hd]
    exact mkR_bit _
  rw [← hd] at g12 g13 g14 g15 g16
  clear hd
  obtain ⟨ff, hf⟩ : ∃ ff : Nat → Bool, ff = Nat.testBit (mkR Y.2.2.1 0 a) := ⟨_, rfl⟩
  have hfb : ∀ j, ff j = true ↔ ∃ m, 0 ≤ m ∧ m < a ∧ Y.2.2.1 m = j := fun j => by
    rw [hf]
    exact mkR_bit _
  clear hf
  have hw : ∀ k, k < Y.1 → Y.2.2.1 k < n := w1.2.2.2.2.2
  have al : a < l := by
    rcases Nat.lt_or_ge a l with g | g
    · exact g
    · have : a = l := by omega
      rw [eL, eB, this] at n1
      exact absurd rfl n1
  have ltE := GE_lt ht hw hG hE
  have inj := hG.2.1
  have hfin := hG.2.2.2
  have allin : ∀ j, j < n → ∃ i, i < Y.1 ∧ Y.2.2.1 i = j := fun j hj => hS.1 j (cb_all n w2 j hj)
  subst g12
  refine ⟨P, ff, dd, S, r, ⟨⟨b1, g1, g2, by assumption, g15, by omega⟩, fun d hdd => ?_, ⟨y, g16, by assumption⟩, fun z hz => ?_, fun p x hpx hex => ?_, fun p x hpx hex => ?_⟩, fin, sQ, sR⟩
  · have k := g14 d hdd
    obtain ⟨m, m1, m2, m3⟩ := (hdb d).mp hdd
    have u := ltE m a (by omega) (by omega)
    have v := hfin m (by omega)
    have v2 := hfin a (by omega)
    rw [m3] at u v
    rw [← eB] at u v2
    exact ⟨k.1, k.2.2.1, k.2.2.2, by omega⟩
  · obtain ⟨m, m1, m2, m3⟩ := (hfb z).mp hz
    have u := ltE a m (by omega) (by omega)
    have v := hfin m (by omega)
    have v2 := (hS.2 m (by omega)).1
    have tm := ht _ (hw m (by omega))
    rw [m3] at u v v2 tm
    rw [← eB] at u
    omega
  · obtain ⟨i, i1, i2, i3⟩ := zrow ht hw hG hE (X := x) a (by omega) p (fun j hj => by
      have k := hpx j hj
      obtain ⟨m, m1, m2, m3⟩ := (hfb j).mp k.1
      have v2 := (hS.2 m (by omega)).1
      rw [m3] at v2
      exact ⟨by omega, m, m2, m3⟩) (by obtain ⟨j, j1, j2⟩ := hex; exact ⟨j, j2⟩)
    have u := ltE a i (by omega) (by omega)
    rw [← eB] at u
    omega
  · have plc : ∀ j, p j = true → ∃ i, l < i ∧ i < Y.1 ∧ Y.2.2.1 i = j := fun j hj => by
      have k := hpx j hj
      obtain ⟨i, i1, i2⟩ := allin j k.1
      refine ⟨i, ?_, i1, i2⟩
      rcases Nat.lt_or_ge l i with g | g
      · exact g
      · exfalso
        by_cases h1 : i < a
        · have := (hfb j).mpr ⟨i, Nat.zero_le _, h1, i2⟩
          rw [k.2.2.1] at this
          exact absurd this (by decide)
        · by_cases h2 : i = a
          · exact k.2.1 (by rw [← i2, h2, eB])
          · have := (hdb j).mpr ⟨i, by omega, by omega, i2⟩
            rw [k.2.2.2.1] at this
            exact absurd this (by decide)
    obtain ⟨i, i1, i2, i3⟩ := zrow ht hw hG hE (X := Y.2.2.2.2.1 (Y.2.2.1 l)) Y.1 (Nat.le_refl _) p (fun j hj => by
      obtain ⟨m, m1, m2, m3⟩ := plc j hj
      have u := ltE m l m1 m2
      rw [m3] at u
      exact ⟨u, m, m2, m3⟩) (by obtain ⟨j, j1, j2⟩ := hex; exact ⟨j, j2⟩)
    obtain ⟨m, m1, m2, m3⟩ := plc _ i2
    have im : m = i := inj m i m2 i1 m3
    have k := (hpx _ i2).2.2.2.2
    have v := (hfin i i1).2.2.2
    have v2 := pm i (by omega) (by omega)
    rw [← eL] at i3 pe
    omega
end ROWS
