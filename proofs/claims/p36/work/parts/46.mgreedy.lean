/-! THE MODEL's greedy row -/
def MG (z : St) (n : Nat) (y : Ly) : Prop := (∀ k, k < y.1 → z.1 78 k = iv (y.2.2.1 k : Int)) ∧ ∀ j, j < n → Nat.testBit y.2.1 j = true → z.1 79 j = iv (y.2.2.2.1 j) ∧ z.1 80 j = iv (y.2.2.2.2.1 j)
noncomputable def mgS (y' : Ly) (z : St) (k j : Nat) : St := zI (zI (zI z 78 k (iv (j : Int))) 79 j (iv (y'.2.2.2.1 j))) 80 j (iv (y'.2.2.2.2.1 j))
noncomputable def mgZ (c t q : Nat → Int) (z : St) (n : Nat) : Nat → St
  | 0 => z
  | k + 1 => mgS (gr c t q n (k + 1)) (mgZ c t q z n k) k (grJ c t q n (gr c t q n k))
section MGREEDY
variable {z : St} {n : Nat} {c t q : Nat → Int} {y : Ly}
theorem gr_beg (hB : BD n c t q) (hc : cb (Nat.testBit y.2.1) n < n) : max y.2.2.2.2.2.1 (c (grJ c t q n y)) = grH c n y := by
  obtain ⟨g1, g2, g3, g4, g5⟩ := gr_next hB (t := t) (q := q) hc
  have hp : (fun j => !Nat.testBit y.2.1 j) (grJ c t q n y) = true := by
    show (!Nat.testBit y.2.1 (grJ c t q n y)) = true
    rw [g3]
    rfl
  have m1 := mn_le (c := c) (p := fun j => !Nat.testBit y.2.1 j) hp n (fun i hi => (hB i hi).1.1) g2
  unfold grH at *
  omega
theorem gr_e1 (hB : BD n c t q) (hc : cb (Nat.testBit y.2.1) n < n) (h : 0 ≤ nb c t q y.2.1 y.2.2.2.2.2.1 n) : grH c n y = y.2.2.2.2.2.1 := by
  obtain ⟨p1, p2, p3⟩ := nb_ok n h
  have hp : (fun j => !Nat.testBit y.2.1 j) (nb c t q y.2.1 y.2.2.2.2.2.1 n).toNat = true := by
    show (!Nat.testBit y.2.1 _) = true
    rw [p1]
    rfl
  have m1 := mn_le (c := c) (p := fun j => !Nat.testBit y.2.1 j) hp n (fun i hi => (hB i hi).1.1) p3
  unfold grH
  omega
theorem gr_e2 (hB : BD n c t q) (hc : cb (Nat.testBit y.2.1) n < n) (h : ¬ 0 ≤ nb c t q y.2.1 y.2.2.2.2.2.1 n) : grH c n y = nc c y.2.1 n := by
  obtain ⟨g1, g2, g3, g4, g5⟩ := gr_next hB (t := t) (q := q) hc
  obtain ⟨j, j1, j2, j3⟩ := mn_ok n g5
  have j4 : Nat.testBit y.2.1 j = false := by simpa using j2
  have hm := mn_b (c := c) (p := fun j => !Nat.testBit y.2.1 j) (n := n) (M := 900) (fun j hj => (hB j hj).1) (by decide) n (Nat.le_refl _)
  have hl : y.2.2.2.2.2.1 < c j := by
    rcases Int.lt_or_le y.2.2.2.2.2.1 (c j) with w | w
    · exact w
    · exact absurd (nb_pos (t := t) (q := q) j4 w n j1) h
  rw [nc_mn hB, if_neg (by omega)]
  unfold grH
  omega
theorem mgZ_fr : ∀ k, Fr (fun a => 78 ≤ a ∧ a ≤ 80) z (mgZ c t q z n k)
  | 0 => Fr.refl
  | k + 1 => (mgZ_fr k).trans (((Fr.refl.zI ⟨by decide, by decide⟩).zI ⟨by decide, by decide⟩).zI ⟨by decide, by decide⟩)
theorem mgZ_MD (hL : MD z n c t q) (k : Nat) : MD (mgZ c t q z n k) n c t q :=
  MD_fr hL (by rw [(mgZ_fr k 68 (by omega)).1]) (fun a h1 h2 => (mgZ_fr k a (by omega)).1)
theorem mgZ_MG (hB : BD n c t q) (hn : n ≤ 8) : ∀ k, k ≤ n → MG (mgZ c t q z n k) n (gr c t q n k)
  | 0, _ => ⟨fun k hk => absurd hk (Nat.not_lt_zero _), fun j _ hm => absurd hm (by show ¬ Nat.testBit 0 j = true; rw [Nat.zero_testBit]; decide)⟩
  | k + 1, hk => by
    obtain ⟨hr, hb⟩ := mgZ_MG hB hn k (by omega)
    have e3 := (gr_inv hB hn k (by omega)).2.2
    unfold MG mgZ mgS
    simp only [rI, reduceIte, Nat.reduceEqDiff, false_and, true_and]
    refine ⟨fun i hi => ?_, fun i hi hm => ?_⟩
    · have hi : i < (gr c t q n k).1 + 1 := hi
      show _ = iv ((up (gr c t q n k).2.2.1 (gr c t q n k).1 (grJ c t q n (gr c t q n k)) i : Nat) : Int)
      unfold up
      rw [e3] at hi hr ⊢
      by_cases e : i = k
      · rw [if_pos e, if_pos e]
      · rw [if_neg e, if_neg e]
        exact hr i (by omega)
    · have hm : Nat.testBit ((gr c t q n k).2.1 ||| (1 <<< grJ c t q n (gr c t q n k))) i = true := hm
      by_cases e : i = grJ c t q n (gr c t q n k)
      · subst e
        simp only [if_true, and_self]
      · rw [or_bit, decide_eq_false e, Bool.or_false] at hm
        simp only [e, if_false]
        have := hb i hi hm
        show _ = iv (up (gr c t q n k).2.2.2.1 _ _ i) ∧ _ = iv (up (gr c t q n k).2.2.2.2.1 _ _ i)
        unfold up
        rw [if_neg e, if_neg e]
        exact this
theorem mg_45 (hL : MD z n c t q) (hB : BD n c t q) (hW : WY n y) (hs : y.1 < n) {j : Nat} (hj : j < n) (K : St → Nat → Int32 → Int32 → Int32 → Int32 → Option (St × Int32)) :
    f_X11_greedily_45 K z 68 (iv (max y.2.2.2.2.2.1 (c j))) (iv (y.2.1 : Int)) (iv y.2.2.2.2.2.2.1) (iv (y.1 : Int)) (iv (j : Int)) = K (mgS (ap c t q y j) z y.1 j) 68 (iv (ap c t q y j).2.2.2.2.2.1) (iv ((ap c t q y j).2.1 : Int)) (iv (ap c t q y j).2.2.2.2.2.2.1) (iv ((y.1 + 1 : Nat) : Int)) := by
  obtain ⟨h8, e1, e2, e3, b1, b2, b3, b4, b5, b6, i1, i2⟩ := MD_at hL hB hj
  obtain ⟨w1, w2, w3, w4, w5, w6⟩ := hW
  have is : inb (iv (y.1 : Int)) 8 = true := inb_k (by omega) (by omega)
  have ks : (iv (y.1 : Int)).toNatClampNeg = y.1 := iv_natN (by omega)
  have bo := bit_or y.2.1 (lt_256 h8 w2) j (by omega)
  unfold f_X11_greedily_45
  simp only [r68_14, r68_15, r68_16, r68_17, r68_18, rI, reduceIte, Nat.reduceEqDiff, false_and, is, ks, i1, i2, if_true, e2, e3, bo, iv_s, iv_add]
  rw [iv_max ⟨by omega, by omega⟩ ⟨by omega, by omega⟩]
  unfold mgS ap up
  simp only [if_true]
theorem mg_of (hL : MD z n c t q) (hB : BD n c t q) : f_X11_greedily z 68 = some (zI (mgZ c t q z n n) 68 19 (iv (gr c t q n n).2.2.2.2.2.1), iv (gr c t q n n).2.2.2.2.2.2.1) := by
  have h8 := hL.2.1
  refine loop_up (n := n) (fun F k (b : St × Int × Nat × Int) => f_X11_greedily_9 F b.1 68 (iv b.2.1) (iv (b.2.2.1 : Int)) (iv b.2.2.2) (iv (k : Int))) (fun k => (mgZ c t q z n k, (gr c t q n k).2.2.2.2.2.1, (gr c t q n k).2.1, (gr c t q n k).2.2.2.2.2.2.1)) (fun F => ?_) (fun F k hk => ?_) n 0 FU (by omega) (FU_8 (by omega))
  · show f_X11_greedily_9 _ _ _ _ _ _ _ = _
    rw [f_X11_greedily_9, (mgZ_MD hL n).1, if_pos sz_t]
    rfl
  · have hD := mgZ_MD (c := c) (t := t) (q := q) hL k
    obtain ⟨i1, i2, i3⟩ := gr_inv hB h8 k (by omega)
    have hcn : cb (Nat.testBit (gr c t q n k).2.1) n < n := by omega
    have g := gr_next hB (y := gr c t q n k) hcn
    have gb := gr_beg hB (t := t) (q := q) hcn
    have s45 := mg_45 hD hB i1 (by omega) g.2.1
    have e3 : nb c t q (gr c t q n k).2.1 (grH c n (gr c t q n k)) n = ((grJ c t q n (gr c t q n k) : Nat) : Int) := by
      have := g.1
      unfold grJ
      omega
    obtain ⟨w1, w2, w3, w4, w5, w6⟩ := i1
    have hm := mn_b (c := c) (p := fun j => !Nat.testBit (gr c t q n k).2.1 j) (n := n) (M := 900) (fun j hj => (hB j hj).1) (by decide) n (Nat.le_refl _)
    have sE : sm (gr c t q n k).2.2.2.2.2.1 := ⟨by omega, by omega⟩
    have sH : sm (grH c n (gr c t q n k)) := by
      unfold grH
      exact ⟨by omega, by omega⟩
    show f_X11_greedily_9 (F + 1) (mgZ c t q z n k) 68 (iv (gr c t q n k).2.2.2.2.2.1) (iv ((gr c t q n k).2.1 : Int)) (iv (gr c t q n k).2.2.2.2.2.2.1) (iv (k : Int)) = f_X11_greedily_9 F (mgS (gr c t q n (k + 1)) (mgZ c t q z n k) k (grJ c t q n (gr c t q n k))) 68 (iv (gr c t q n (k + 1)).2.2.2.2.2.1) (iv ((gr c t q n (k + 1)).2.1 : Int)) (iv (gr c t q n (k + 1)).2.2.2.2.2.2.1) (iv ((k + 1 : Nat) : Int))
    rw [f_X11_greedily_9, hD.1, if_neg (sz_f hk (by omega))]
    unfold f_X11_greedily_18
    rw [ch_of hD hB (lt_256 h8 w2) sE, Option.bind_some]
    have nl := nb_lt (c := c) (t := t) (q := q) (s := (gr c t q n k).2.1) (h := (gr c t q n k).2.2.2.2.2.1) n
    have sb : sm (nb c t q (gr c t q n k).2.1 (gr c t q n k).2.2.2.2.2.1 n) := ⟨by omega, by omega⟩
    rw [i3] at s45
    by_cases w : 0 ≤ nb c t q (gr c t q n k).2.1 (gr c t q n k).2.2.2.2.2.1 n
    · have he := gr_e1 hB hcn w
      rw [if_pos ((iv_ge0 sb).mpr w)]
      rw [gb, he] at s45
      rw [he] at e3
      show f_X11_greedily_45 _ _ _ _ _ _ _ (iv (nb c t q (gr c t q n k).2.1 (gr c t q n k).2.2.2.2.2.1 n)) = _
      rw [e3, s45]
      rfl
    · have he := gr_e2 hB (t := t) (q := q) hcn w
      rw [if_neg (fun x => w ((iv_ge0 sb).mp x))]
      unfold f_X11_greedily_31
      rw [nc_of hD hB (lt_256 h8 w2), Option.bind_some, ← he]
      show ((f_X11_chosen _ 68 (iv (grH c n (gr c t q n k))) _).bind _) = _
      rw [ch_of hD hB (lt_256 h8 w2) sH, Option.bind_some]
      rw [gb] at s45
      show f_X11_greedily_45 _ _ _ (iv (grH c n (gr c t q n k))) _ _ _ (iv (nb c t q (gr c t q n k).2.1 (grH c n (gr c t q n k)) n)) = _
      rw [e3, s45]
      rfl
end MGREEDY
