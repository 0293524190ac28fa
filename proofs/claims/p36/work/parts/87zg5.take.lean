/-! SEARCH: how many nodes have a bar, by what is left of a path and by who may still bar -/
theorem zq1 {a X M L : Nat} (h : a ≤ X * (L + 1)) (hM : L + 1 ≤ M) : a ≤ X * M := Nat.le_trans h (Nat.mul_le_mul_left _ hM)
theorem zq2 {a X M : Nat} (h : a ≤ X * M) (hX : 1 ≤ X) : 1 + a ≤ X * (M + 1) := by
  rw [Nat.mul_succ]
  omega
theorem zq3 {a1 a2 X1 X2 X M : Nat} (h1 : a1 ≤ X1 * M) (h2 : a2 ≤ X2 * M) (h : X1 + X2 ≤ X) (hX : 1 ≤ X) : 1 + a1 + a2 ≤ X * (M + 1) := by
  have e : X1 * M + X2 * M ≤ X * M := by
    rw [← Nat.add_mul]
    exact Nat.mul_le_mul_right _ h
  rw [Nat.mul_succ]
  omega
section TAKE
variable {n : Nat} {t c0 q0 : Nat → Int}
theorem zT (hn : n ≤ 8) {A : List Nat} (hA : ∀ b, b < n → b ∈ A) : ∀ (d : Nat) (c q : Nat → Int) (s : Se) (k : Nat) (kf : Nat → Nat), (∀ j, j < n → (0 ≤ c j ∧ c j ≤ 500) ∧ (1 ≤ t j ∧ t j ≤ 25) ∧ (0 ≤ q j ∧ q j ≤ 500)) → (0 ≤ (sN c t q n s).1 ∧ (sN c t q n s).1 ≤ 500) → zH n t c0 q0 (sN c t q n s).1 k c q → (∀ b, b < n → ∀ l, zK n t c0 q0 c q (sN c t q n s).1 b l → l.length ≤ kf b) → tk t n d c q s ≤ zP kf A * (zMm n c0 q0 c q + 1)
  | 0, _, _, _, _, _, _, _, _, _ => Nat.zero_le _
  | d + 1, c, q, s, k, kf, hb, hs, hH, hk => by
    have ih := zT hn hA d
    have hB := GT_BD hb
    have ht : ∀ j, j < n → 1 ≤ t j := fun j hj => (hB j hj).2.1.1
    rw [tk_s]
    by_cases nb : bkB q n (gr c t q n n) < 0
    · rw [if_pos nb]
      exact Nat.zero_le _
    · rw [if_neg nb]
      have nb : 0 ≤ bkB q n (gr c t q n n) := Int.not_lt.mp nb
      have sq := svQR_b hB hn (M := 500) (by decide) (fun j hj => (hb j hj).2.2.2) (fun j hj => (hb j hj).1.2) nb
      have hBl : BD n c t (lQ c t q n) := BD_upq hB (nm6 sq.1)
      have hBr : BD n (rC c t q n) t q := BD_upc hB (nm6 sq.2)
      have sl := sub_le (t := t) (n := n) (d := d) (c := c) (q := lQ c t q n) (s := sN c t q n s) hs.1
      have nf : (sN c t q n s).1 ≤ (gr c t q n n).2.2.2.2.2.2.1 := svN_f
      have mL := svN_le (s := sN c t q n s) (gr_fin0 (c := c) (t := t) (q := lQ c t q n) (n := n) n) hs.1
      have mR := svN_le (s := sub t n d c (lQ c t q n) (sN c t q n s)) (gr_fin0 (c := rC c t q n) (t := t) (q := q) (n := n) n) sl.1
      have mL1 : (sN c t (lQ c t q n) n (sN c t q n s)).1 ≤ (sN c t q n s).1 := mL.2.1
      have mR1 : (sN (rC c t q n) t q n (sub t n d c (lQ c t q n) (sN c t q n s))).1 ≤ (sub t n d c (lQ c t q n) (sN c t q n s)).1 := mR.2.1
      have mR2 : (sN (rC c t q n) t q n (sub t n d c (lQ c t q n) (sN c t q n s))).1 ≤ (sN c t q n s).1 := Int.le_trans mR1 sl.2
      have mL0 : 0 ≤ (sN c t (lQ c t q n) n (sN c t q n s)).1 := mL.1
      have mR0 : 0 ≤ (sN (rC c t q n) t q n (sub t n d c (lQ c t q n) (sN c t q n s))).1 := mR.1
      obtain ⟨P, F, D, S, r, hN, fin, eQ, eR⟩ := zN_of hB hn nb nf
      have b1 := hN.1.1
      have u := zN_up ht hN
      have mo := zH_mono ht k c q hH
      have lQe : lQ c t q n = up q (svB c t q n) (su t D n + q P) := by
        unfold lQ
        rw [eQ]
      have rCe : rC c t q n = up c (svB c t q n) (r + su t D n) := by
        unfold rC
        rw [eR]
      have lQu : ∀ j, q j ≤ lQ c t q n j := by
        rw [lQe]
        exact up_ge u.2
      have rCu : ∀ j, c j ≤ rC c t q n j := by
        rw [rCe]
        exact up_ge u.1
      obtain ⟨st, st1, st2, st3⟩ := zS1 ht hH hN
      have fst := hN.2.1 st st1
      have tst := ht st fst.1
      have ML : zMm n c0 q0 c (lQ c t q n) + 1 ≤ zMm n c0 q0 c q := by
        refine zM_lt (b := svB c t q n) (i := st) (fun j => Int.le_refl _) lQu b1 fst.1 (Or.inr ?_)
        rw [lQe, up_eq]
        have := hN.1
        omega
      have KL : ∀ b l, zK n t c0 q0 c (lQ c t q n) (sN c t (lQ c t q n) n (sN c t q n s)).1 b l → zK n t c0 q0 c q (sN c t q n s).1 b l := fun b l h => zK_mono (fun j => (mo j).1) (fun j => (mo j).2) (fun j => Int.le_refl _) lQu mL1 h
      have KR : ∀ b l, zK n t c0 q0 (rC c t q n) q (sN (rC c t q n) t q n (sub t n d c (lQ c t q n) (sN c t q n s))).1 b l → zK n t c0 q0 c q (sN c t q n s).1 b l := fun b l h => zK_mono (fun j => (mo j).1) (fun j => (mo j).2) rCu (fun j => Int.le_refl _) mR2 h
      have HL : zH n t c0 q0 (sN c t (lQ c t q n) n (sN c t q n s)).1 (k + 1) c (lQ c t q n) := ⟨c, q, svB c t q n, P, F, D, S, r, zH_U mL1 k c q hH, zN_U mL1 hN, Or.inr ⟨fun _ => rfl, fun j => by rw [lQe]⟩⟩
      have HR : zH n t c0 q0 (sN (rC c t q n) t q n (sub t n d c (lQ c t q n) (sN c t q n s))).1 (k + 1) (rC c t q n) q := ⟨c, q, svB c t q n, P, F, D, S, r, zH_U mR2 k c q hH, zN_U mR2 hN, Or.inl ⟨fun j => by rw [rCe], fun _ => rfl⟩⟩
      have IL : ∀ kg : Nat → Nat, see c t (lQ c t q n) n (sN c t q n s) → (∀ b, b < n → ∀ l, zK n t c0 q0 c (lQ c t q n) (sN c t (lQ c t q n) n (sN c t q n s)).1 b l → l.length ≤ kg b) → tk t n d c (lQ c t q n) (sN c t q n s) ≤ zP kg A * zMm n c0 q0 c q := fun kg w hg => zq1 (ih c (lQ c t q n) (sN c t q n s) (k + 1) kg (see_b hBl hn w hs.2) ⟨mL0, Int.le_trans mL1 hs.2⟩ HL hg) ML
      have UR : see (rC c t q n) t q n (sub t n d c (lQ c t q n) (sN c t q n s)) → (∀ j, j < n → rC c t q n j + t j + q j < (sub t n d c (lQ c t q n) (sN c t q n s)).1) := fun w j hj => Int.lt_of_le_of_lt (bi_ge hBr hn hj) w
      have YR : see (rC c t q n) t q n (sub t n d c (lQ c t q n) (sN c t q n s)) → ∃ i, D i = true ∧ c i = c0 i ∧ c i ≤ r + su t D n := fun w => zY ht (zH_U sl.2 k c q hH) (zN_U sl.2 hN) (fun j hj => by
        have a := UR w j hj
        have e := rCu j
        omega)
      have MR : see (rC c t q n) t q n (sub t n d c (lQ c t q n) (sN c t q n s)) → zMm n c0 q0 (rC c t q n) q + 1 ≤ zMm n c0 q0 c q := fun w => by
        obtain ⟨i, i1, i2, i3⟩ := YR w
        have fi := hN.2.1 i i1
        refine zM_lt (b := svB c t q n) (i := i) rCu (fun j => Int.le_refl _) b1 fi.1 (Or.inl ?_)
        rw [rCe, up_eq]
        have := hN.1
        omega
      have IR : ∀ kg : Nat → Nat, see (rC c t q n) t q n (sub t n d c (lQ c t q n) (sN c t q n s)) → (∀ b, b < n → ∀ l, zK n t c0 q0 (rC c t q n) q (sN (rC c t q n) t q n (sub t n d c (lQ c t q n) (sN c t q n s))).1 b l → l.length ≤ kg b) → tk t n d (rC c t q n) q (sub t n d c (lQ c t q n) (sN c t q n s)) ≤ zP kg A * zMm n c0 q0 c q := fun kg w hg => zq1 (ih (rC c t q n) q (sub t n d c (lQ c t q n) (sN c t q n s)) (k + 1) kg (see_b hBr hn w (Int.le_trans sl.2 hs.2)) ⟨mR0, Int.le_trans mR2 hs.2⟩ HR hg) (MR w)
      have hkL : ∀ b, b < n → ∀ l, zK n t c0 q0 c (lQ c t q n) (sN c t (lQ c t q n) n (sN c t q n s)).1 b l → l.length ≤ kf b := fun b hb l h => hk b hb l (KL b l h)
      have hkR : ∀ b, b < n → ∀ l, zK n t c0 q0 (rC c t q n) q (sN (rC c t q n) t q n (sub t n d c (lQ c t q n) (sN c t q n s))).1 b l → l.length ≤ kf b := fun b hb l h => hk b hb l (KR b l h)
      have pos := zP_pos (kf := kf) A
      unfold tkS
      by_cases wL : (bi c t (lQ c t q n) n 16).2.2.2.1 < (sN c t q n s).1
      · rw [if_pos wL]
        by_cases wR : (bi (rC c t q n) t q n 16).2.2.2.1 < (sub t n d c (lQ c t q n) (sN c t q n s)).1
        · rw [if_pos wR]
          obtain ⟨i, i1, i2, i3⟩ := YR wR
          have aL : c (svB c t q n) + t (svB c t q n) + (su t D n + q P) < (sN c t q n s).1 := by
            have a := Int.lt_of_le_of_lt (bi_ge hBl hn b1) wL
            rw [lQe, up_eq] at a
            exact a
          have aR : r + su t D n + t (svB c t q n) + q (svB c t q n) < (sN c t q n s).1 := by
            have a := UR wR _ b1
            rw [rCe, up_eq] at a
            have := sl.2
            omega
          have e0 : ∀ lL lR, zK n t c0 q0 c (up q (svB c t q n) (su t D n + q P)) (sN c t (lQ c t q n) n (sN c t q n s)).1 (svB c t q n) lL → zK n t c0 q0 (up c (svB c t q n) (r + su t D n)) q (sN (rC c t q n) t q n (sub t n d c (lQ c t q n) (sN c t q n s))).1 (svB c t q n) lR → ∃ x, zK n t c0 q0 c q (sN c t q n s).1 (svB c t q n) (lL ++ x :: lR) := fun lL lR h1 h2 => zK_split ht hN (fun j => (mo j).1) (fun j => (mo j).2) mL1 mR2 aL aR ⟨i1, i2, i3⟩ ⟨st1, st2, st3⟩ h1 h2
          rw [← lQe, ← rCe] at e0
          have sp : ∀ lL lR, zK n t c0 q0 c (lQ c t q n) (sN c t (lQ c t q n) n (sN c t q n s)).1 (svB c t q n) lL → zK n t c0 q0 (rC c t q n) q (sN (rC c t q n) t q n (sub t n d c (lQ c t q n) (sN c t q n s))).1 (svB c t q n) lR → lL.length + lR.length + 1 ≤ kf (svB c t q n) := fun lL lR h1 h2 => by
            obtain ⟨x, hx⟩ := e0 lL lR h1 h2
            have := hk _ b1 _ hx
            rw [List.length_append, List.length_cons] at this
            omega
          obtain ⟨m, ⟨l0, l1, l2⟩, m2⟩ := zmax (Q := fun m => ∃ l, zK n t c0 q0 c (lQ c t q n) (sN c t (lQ c t q n) n (sN c t q n s)).1 (svB c t q n) l ∧ l.length = m) ⟨[], ⟨fun x hx => absurd hx (List.not_mem_nil), List.Pairwise.nil⟩, rfl⟩ (kf (svB c t q n)) (fun m ⟨l, h1, h2⟩ => by rw [← h2]; exact hkL _ b1 l h1)
          have s0 := sp l0 [] l1 ⟨fun x hx => absurd hx (List.not_mem_nil), List.Pairwise.nil⟩
          have s0 : l0.length + 0 + 1 ≤ kf (svB c t q n) := s0
          have gL := IL (up kf (svB c t q n) m) wL (fun b hb l h => by
            unfold up
            by_cases e : b = svB c t q n
            · rw [if_pos e]
              subst e
              exact m2 _ ⟨l, h, rfl⟩
            · rw [if_neg e]
              exact hkL b hb l h)
          have gR := IR (up kf (svB c t q n) (kf (svB c t q n) - 1 - m)) wR (fun b hb l h => by
            unfold up
            by_cases e : b = svB c t q n
            · rw [if_pos e]
              subst e
              have := sp l0 l l1 h
              omega
            · rw [if_neg e]
              exact hkR b hb l h)
          refine zq3 gL gR (zP_split (b := svB c t q n) (fun j => ?_) (fun j => ?_) ?_ A (hA _ b1)) pos
          · unfold up
            split
            · rename_i e
              rw [e]
              omega
            · exact Nat.le_refl _
          · unfold up
            split
            · rename_i e
              rw [e]
              omega
            · exact Nat.le_refl _
          · unfold up
            rw [if_pos rfl, if_pos rfl]
            omega
        · rw [if_neg wR]
          exact zq2 (IL kf wL hkL) pos
      · rw [if_neg wL]
        by_cases wR : (bi (rC c t q n) t q n 16).2.2.2.1 < (sub t n d c (lQ c t q n) (sN c t q n s)).1
        · rw [if_pos wR]
          exact zq2 (IR kf wR hkR) pos
        · rw [if_neg wR]
          exact zq2 (a := 0) (Nat.zero_le _) pos
end TAKE
