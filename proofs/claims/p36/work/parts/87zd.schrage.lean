/-! GREEDY's row: what the bar and those behind it are like -/
section SCHRAGE
variable {n : Nat} {c t q : Nat → Int}
def GS (n : Nat) (c q : Nat → Int) (y : Ly) : Prop := (∀ j, Nat.testBit y.2.1 j = true → ∃ i, i < y.1 ∧ y.2.2.1 i = j) ∧ ∀ i, i < y.1 → c (y.2.2.1 i) ≤ y.2.2.2.1 (y.2.2.1 i) ∧ ∀ j, j < n → (∀ k, k ≤ i → y.2.2.1 k ≠ j) → c j ≤ y.2.2.2.1 (y.2.2.1 i) → q j ≤ q (y.2.2.1 i)
theorem GS_ap {y : Ly} (hB : BD n c t q) (hG : GI n t q y) (hc : cb (Nat.testBit y.2.1) n < n) (h : GS n c q y) : GS n c q (ap c t q y (grJ c t q n y)) := by
  obtain ⟨g1, g2, g3, g4, g5⟩ := gr_next hB hc
  obtain ⟨h1, h2⟩ := h
  have ne : ∀ i, i < y.1 → y.2.2.1 i ≠ grJ c t q n y := fun i hi e => by
    have := hG.1 i hi
    rw [e, g3] at this
    exact absurd this (by decide)
  have hend : y.2.2.2.2.2.1 ≤ grH c n y := Int.le_max_right _ _
  have hmx : max y.2.2.2.2.2.1 (c (grJ c t q n y)) ≤ grH c n y := Int.max_le.mpr ⟨hend, g4⟩
  refine ⟨fun j hj => ?_, fun i hi => ?_⟩
  · have hj2 : Nat.testBit (y.2.1 ||| (1 <<< grJ c t q n y)) j = true := hj
    rw [or_bit, Bool.or_eq_true, decide_eq_true_eq] at hj2
    rcases hj2 with w | w
    · obtain ⟨i, i1, i2⟩ := h1 j w
      refine ⟨i, Nat.lt_succ_of_lt i1, ?_⟩
      show up y.2.2.1 y.1 _ i = j
      unfold up
      rw [if_neg (by omega)]
      exact i2
    · refine ⟨y.1, Nat.lt_succ_self _, ?_⟩
      show up y.2.2.1 y.1 _ y.1 = j
      unfold up
      rw [if_pos rfl]
      exact w.symm
  · have hi : i < y.1 + 1 := hi
    by_cases e : i = y.1
    · have er : up y.2.2.1 y.1 (grJ c t q n y) i = grJ c t q n y := by
        unfold up
        rw [if_pos e]
      show c (up y.2.2.1 y.1 (grJ c t q n y) i) ≤ up y.2.2.2.1 (grJ c t q n y) (max y.2.2.2.2.2.1 (c (grJ c t q n y))) (up y.2.2.1 y.1 (grJ c t q n y) i) ∧ ∀ j, j < n → (∀ k, k ≤ i → up y.2.2.1 y.1 (grJ c t q n y) k ≠ j) → c j ≤ up y.2.2.2.1 (grJ c t q n y) (max y.2.2.2.2.2.1 (c (grJ c t q n y))) (up y.2.2.1 y.1 (grJ c t q n y) i) → q j ≤ q (up y.2.2.1 y.1 (grJ c t q n y) i)
      rw [er]
      have eb : up y.2.2.2.1 (grJ c t q n y) (max y.2.2.2.2.2.1 (c (grJ c t q n y))) (grJ c t q n y) = max y.2.2.2.2.2.1 (c (grJ c t q n y)) := by
        unfold up
        rw [if_pos rfl]
      rw [eb]
      refine ⟨Int.le_max_right _ _, fun j hj hk hcj => ?_⟩
      have hm : Nat.testBit y.2.1 j = false := by
        cases hb : Nat.testBit y.2.1 j
        · rfl
        · obtain ⟨i2, i3, i4⟩ := h1 j hb
          have := hk i2 (by omega)
          unfold up at this
          rw [if_neg (by omega)] at this
          exact absurd i4 this
      exact (nb_max (c := c) (t := t) (q := q) (s := y.2.1) (h := grH c n y) (j := j) hm (Int.le_trans hcj hmx) n hj).2
    · have hi2 : i < y.1 := by omega
      have er : up y.2.2.1 y.1 (grJ c t q n y) i = y.2.2.1 i := by
        unfold up
        rw [if_neg e]
      show c (up y.2.2.1 y.1 (grJ c t q n y) i) ≤ up y.2.2.2.1 (grJ c t q n y) (max y.2.2.2.2.2.1 (c (grJ c t q n y))) (up y.2.2.1 y.1 (grJ c t q n y) i) ∧ ∀ j, j < n → (∀ k, k ≤ i → up y.2.2.1 y.1 (grJ c t q n y) k ≠ j) → c j ≤ up y.2.2.2.1 (grJ c t q n y) (max y.2.2.2.2.2.1 (c (grJ c t q n y))) (up y.2.2.1 y.1 (grJ c t q n y) i) → q j ≤ q (up y.2.2.1 y.1 (grJ c t q n y) i)
      rw [er]
      have eb : up y.2.2.2.1 (grJ c t q n y) (max y.2.2.2.2.2.1 (c (grJ c t q n y))) (y.2.2.1 i) = y.2.2.2.1 (y.2.2.1 i) := by
        unfold up
        rw [if_neg (ne i hi2)]
      rw [eb]
      refine ⟨(h2 i hi2).1, fun j hj hk hcj => (h2 i hi2).2 j hj (fun k hk2 => ?_) hcj⟩
      have := hk k hk2
      unfold up at this
      rw [if_neg (by omega)] at this
      exact this
theorem gr_GS (hB : BD n c t q) (hn : n ≤ 8) : ∀ k, k ≤ n → GS n c q (gr c t q n k)
  | 0, _ => ⟨fun j hj => by
      have : Nat.testBit 0 j = true := hj
      rw [Nat.zero_testBit] at this
      exact absurd this (by decide), fun i hi => absurd hi (Nat.not_lt_zero _)⟩
  | k + 1, hk => by
    have h2 := (gr_inv hB hn k (by omega)).2.1
    exact GS_ap hB (gr_GI hB hn k (by omega)) (by omega) (gr_GS hB hn k (by omega))
/-- GREEDY's row goes on as it began -/
theorem fp_chain {y : Ly} : ∀ m k : Nat, fp y m ≤ k → k < m → y.2.2.2.1 (y.2.2.1 (k + 1)) = y.2.2.2.2.1 (y.2.2.1 k)
  | 0, k, _, h => absurd h (Nat.not_lt_zero _)
  | m + 1, k, h1, h2 => by
    unfold fp at h1
    by_cases g : y.2.2.2.1 (y.2.2.1 (m + 1)) = y.2.2.2.2.1 (y.2.2.1 m)
    · rw [if_pos g] at h1
      by_cases e : k = m
      · rw [e]
        exact g
      · exact fp_chain m k h1 (by omega)
    · rw [if_neg g] at h1
      omega
theorem pl_eq {y : Ly} : ∀ k : Nat, 0 ≤ pl q y k → y.2.2.2.2.1 (y.2.2.1 (pl q y k).toNat) + q (y.2.2.1 (pl q y k).toNat) = y.2.2.2.2.2.2.1
  | 0, h => absurd h (by show ¬ (0 : Int) ≤ -1; decide)
  | k + 1, h => by
    have e : pl q y (k + 1) = plS q y k (pl q y k) := rfl
    rw [e] at h ⊢
    unfold plS at h ⊢
    by_cases g : y.2.2.2.2.1 (y.2.2.1 k) + q (y.2.2.1 k) = y.2.2.2.2.2.2.1
    · rw [if_pos g, show ((k : Int)).toNat = k from rfl]
      exact g
    · rw [if_neg g] at h ⊢
      exact pl_eq k h
/-- who comes behind LAST ends sooner -/
theorem pl_max {y : Ly} : ∀ k i : Nat, pl q y k < i → i < k → y.2.2.2.2.1 (y.2.2.1 i) + q (y.2.2.1 i) ≠ y.2.2.2.2.2.2.1
  | 0, i, _, h => absurd h (Nat.not_lt_zero _)
  | k + 1, i, h1, h2 => by
    have e : pl q y (k + 1) = plS q y k (pl q y k) := rfl
    rw [e] at h1
    unfold plS at h1
    by_cases g : y.2.2.2.2.1 (y.2.2.1 k) + q (y.2.2.1 k) = y.2.2.2.2.2.2.1
    · rw [if_pos g] at h1
      omega
    · rw [if_neg g] at h1
      by_cases e2 : i = k
      · rw [e2]
        exact g
      · exact pl_max k i h1 (by omega)
theorem bp_max {y : Ly} {x : Int} {fr : Nat} : ∀ k i : Nat, 0 ≤ bp q y x fr k → bp q y x fr k < i → i < k → x ≤ q (y.2.2.1 i)
  | 0, i, _, _, h => absurd h (Nat.not_lt_zero _)
  | k + 1, i, h0, h1, h2 => by
    unfold bp at h0 h1
    by_cases g1 : k < fr
    · rw [if_pos g1] at h0
      omega
    · rw [if_neg g1] at h0 h1
      by_cases g2 : q (y.2.2.1 k) < x
      · rw [if_pos g2] at h1
        omega
      · rw [if_neg g2] at h0 h1
        by_cases e : i = k
        · rw [e]
          exact Int.not_lt.mp g2
        · exact bp_max k i h0 h1 (by omega)
/-- a row without a break ends as late as all in it take together -/
theorem row_end {y : Ly} (hn : n ≤ 8) (hw : ∀ k, k < y.1 → y.2.2.1 k < n) (hi : ∀ i j, i < y.1 → j < y.1 → y.2.2.1 i = y.2.2.1 j → i = j) (he : ∀ i, i < y.1 → y.2.2.2.2.1 (y.2.2.1 i) = y.2.2.2.1 (y.2.2.1 i) + t (y.2.2.1 i)) (a : Nat) : ∀ d : Nat, a + d < y.1 → (∀ k, a ≤ k → k < a + d → y.2.2.2.1 (y.2.2.1 (k + 1)) = y.2.2.2.2.1 (y.2.2.1 k)) → y.2.2.2.2.1 (y.2.2.1 (a + d)) = y.2.2.2.1 (y.2.2.1 a) + t (y.2.2.1 a) + su t (Nat.testBit (mkR y.2.2.1 (a + 1) (a + d + 1))) n
  | 0, h1, _ => by
    rw [mkR_out (a + 0 + 1) (Nat.le_refl _)]
    have z0 : su t (Nat.testBit 0) n = 0 := by
      rw [su_cong n (p' := fun _ => false) (fun i _ => Nat.zero_testBit i)]
      have : ∀ m, su t (fun _ => false) m = 0 := fun m => by
        induction m with
        | zero => rfl
        | succ m ih => unfold su; rw [if_neg (by decide)]; exact ih
      exact this n
    rw [z0]
    have := he a h1
    show y.2.2.2.2.1 (y.2.2.1 a) = _
    omega
  | d + 1, h1, h2 => by
    have ih := row_end hn hw hi he a d (by omega) (fun k k1 k2 => h2 k k1 (by omega))
    have ch := h2 (a + d) (by omega) (by omega)
    have e1 := he (a + d + 1) (by omega)
    have nb : Nat.testBit (mkR y.2.2.1 (a + 1) (a + d + 1)) (y.2.2.1 (a + d + 1)) = false := by
      cases hb : Nat.testBit (mkR y.2.2.1 (a + 1) (a + d + 1)) (y.2.2.1 (a + d + 1))
      · rfl
      · obtain ⟨m, m1, m2, m3⟩ := (mkR_bit _).mp hb
        have := hi m (a + d + 1) (by omega) (by omega) m3
        omega
    have st : su t (Nat.testBit (mkR y.2.2.1 (a + 1) (a + d + 1 + 1))) n = su t (Nat.testBit (mkR y.2.2.1 (a + 1) (a + d + 1))) n + t (y.2.2.1 (a + d + 1)) := by
      refine su_up (fun i => ?_) nb n (hw _ (by omega))
      show Nat.testBit (mkR y.2.2.1 (a + 1) (a + d + 1 + 1)) i = _
      rw [mkR, if_pos (by omega), or_bit]
    show y.2.2.2.2.1 (y.2.2.1 (a + d + 1)) = y.2.2.2.1 (y.2.2.1 a) + t (y.2.2.1 a) + su t (Nat.testBit (mkR y.2.2.1 (a + 1) (a + d + 1 + 1))) n
    rw [st]
    omega
/-- BEHIND, as bits -/
noncomputable def svD (c t q : Nat → Int) (n : Nat) : Nat := mkR (gr c t q n n).2.2.1 ((bkB q n (gr c t q n n)).toNat + 1) ((pl q (gr c t q n n) n).toNat + 1)
/-- when the bar begins -/
noncomputable def svS0 (c t q : Nat → Int) (n : Nat) : Int := (gr c t q n n).2.2.2.1 (svB c t q n)
theorem sv_facts (hB : BD n c t q) (hn : n ≤ 8) (hb : 0 ≤ bkB q n (gr c t q n n)) : c (svB c t q n) ≤ svS0 c t q n ∧ (gr c t q n n).2.2.2.2.2.2.1 = svS0 c t q n + t (svB c t q n) + su t (Nat.testBit (svD c t q n)) n + q (svL c t q n) ∧ (∀ d, Nat.testBit (svD c t q n) d = true → d < n ∧ svS0 c t q n < c d ∧ q (svL c t q n) ≤ q d) ∧ Nat.testBit (svD c t q n) (svL c t q n) = true ∧ q (svB c t q n) < q (svL c t q n) := by
  obtain ⟨b1, b2, b3, b4⟩ := svB_lt hB hn hb
  obtain ⟨w1, w2, w3⟩ := gr_inv hB hn n (Nat.le_refl _)
  have hG := gr_GI hB hn n (Nat.le_refl _)
  have hS := gr_GS hB hn n (Nat.le_refl _)
  have n0 : 0 < n := by omega
  have hp : 0 ≤ pl q (gr c t q n n) n := by
    rcases hG.2.2.1 with e | ⟨i, i1, i2⟩
    · omega
    · exact pl_ex i2 n (by omega)
  have bb := bp_b (q := q) (y := gr c t q n n) (x := q ((gr c t q n n).2.2.1 (pl q (gr c t q n n) n).toNat)) (fr := fp (gr c t q n n) (pl q (gr c t q n n) n).toNat) ((pl q (gr c t q n n) n).toNat + 1)
  have bm := bp_max (q := q) (y := gr c t q n n) (x := q ((gr c t q n n).2.2.1 (pl q (gr c t q n n) n).toNat)) (fr := fp (gr c t q n n) (pl q (gr c t q n n) n).toNat) ((pl q (gr c t q n n) n).toNat + 1)
  have e : bkB q n (gr c t q n n) = bp q (gr c t q n n) (q ((gr c t q n n).2.2.1 (pl q (gr c t q n n) n).toNat)) (fp (gr c t q n n) (pl q (gr c t q n n) n).toNat) ((pl q (gr c t q n n) n).toNat + 1) := rfl
  rw [← e] at bb bm
  have pe := pl_eq (q := q) (y := gr c t q n n) n hp
  have fc := fp_chain (y := gr c t q n n) (pl q (gr c t q n n) n).toNat
  have eB : svB c t q n = (gr c t q n n).2.2.1 (bkB q n (gr c t q n n)).toNat := rfl
  have eL : svL c t q n = (gr c t q n n).2.2.1 (pl q (gr c t q n n) n).toNat := rfl
  have eD : svD c t q n = mkR (gr c t q n n).2.2.1 ((bkB q n (gr c t q n n)).toNat + 1) ((pl q (gr c t q n n) n).toNat + 1) := rfl
  have eS : svS0 c t q n = (gr c t q n n).2.2.2.1 (svB c t q n) := rfl
  rw [eS, eD, eL, eB]
  obtain ⟨a, ha⟩ : ∃ a : Nat, (bkB q n (gr c t q n n)).toNat = a := ⟨_, rfl⟩
  obtain ⟨l, hl⟩ : ∃ l : Nat, (pl q (gr c t q n n) n).toNat = l := ⟨_, rfl⟩
  have ha2 : bkB q n (gr c t q n n) = (a : Int) := by omega
  rw [ha2] at bb bm
  rw [hl] at bb bm pe fc b3 b4
  rw [ha] at b4
  rw [ha, hl]
  clear e ha2 ha hl eB eL eD eS hb hp
  generalize gr c t q n n = y at w1 w2 w3 hG hS bb bm pe fc ⊢
  rcases bb with bb | ⟨k1, k2, k3⟩
  · omega
  · rw [show ((a : Int)).toNat = a from rfl] at k3
    have al : a < l := by
      rcases Nat.lt_or_ge a l with g | g
      · exact g
      · have : a = l := by omega
        rw [this] at k3
        exact absurd k3 (Int.lt_irrefl _)
    have re := row_end (t := t) hn (fun k hk => w1.2.2.2.2.2 k hk) hG.2.1 (fun i hi => (hG.2.2.2 i hi).2.1) a (l - a) (by omega) (fun k h1 h2 => fc k (by omega) (by omega))
    rw [show a + (l - a) = l by omega] at re
    refine ⟨(hS.2 a (by omega)).1, by rw [← pe, re], fun d hd => ?_, (mkR_bit _).mpr ⟨l, by omega, by omega, rfl⟩, k3⟩
    obtain ⟨m, m1, m2, m3⟩ := (mkR_bit _).mp hd
    have qm := bm m (by omega) (by omega) (by omega)
    rw [m3] at qm
    have dn : d < n := by
      rw [← m3]
      exact w1.2.2.2.2.2 m (by omega)
    refine ⟨dn, ?_, qm⟩
    rcases Int.lt_or_le (y.2.2.2.1 (y.2.2.1 a)) (c d) with g | g
    · exact g
    · have := (hS.2 a (by omega)).2 d dn (fun k hk e => by
        have := hG.2.1 k m (by omega) (by omega) (by rw [e, m3])
        omega) g
      omega
end SCHRAGE
