/-! SEARCH: its depth, by what is left to each two jobs -/
noncomputable def cl (M x : Int) : Int := max 0 (min x M)
noncomputable def PW (c t q : Nat → Int) (U : Int) (a b : Nat) : Int := cl (t a + t b) (U - c a - q b) + cl (t a + t b) (U - c b - q a) - (t a + t b)
noncomputable def pp (c t q : Nat → Int) (U : Int) (a b : Nat) : Nat := (PW c t q U a b / (1 + min (t a) (t b))).toNat
def s1 (f : Nat → Nat) : Nat → Nat
  | 0 => 0
  | k + 1 => s1 f k + f k
noncomputable def Ph (t : Nat → Int) (n : Nat) (U : Int) (c q : Nat → Int) : Nat := s1 (fun i => s1 (fun j => pp c t q U i j) i) n
theorem s1_le {f g : Nat → Nat} : ∀ n, (∀ i, i < n → f i ≤ g i) → s1 f n ≤ s1 g n
  | 0, _ => Nat.le_refl _
  | n + 1, h => by
    have a := s1_le n (fun i hi => h i (Nat.lt_succ_of_lt hi))
    have b := h n (Nat.lt_succ_self n)
    show s1 f n + f n ≤ s1 g n + g n
    omega
theorem s1_lt {f g : Nat → Nat} {j : Nat} (hj : f j + 1 ≤ g j) : ∀ n, (∀ i, i < n → f i ≤ g i) → j < n → s1 f n + 1 ≤ s1 g n
  | 0, _, h => absurd h (Nat.not_lt_zero _)
  | n + 1, h, w => by
    have b := h n (Nat.lt_succ_self n)
    show s1 f n + f n + 1 ≤ s1 g n + g n
    by_cases e : j = n
    · have a := s1_le n (fun i hi => h i (Nat.lt_succ_of_lt hi))
      rw [e] at hj
      omega
    · have a := s1_lt hj n (fun i hi => h i (Nat.lt_succ_of_lt hi)) (by omega)
      omega
theorem s1_k {f : Nat → Nat} {k : Nat} : ∀ n, (∀ i, i < n → f i ≤ k) → s1 f n ≤ k * n
  | 0, _ => Nat.le_refl _
  | n + 1, h => by
    have a := s1_k n (fun i hi => h i (Nat.lt_succ_of_lt hi))
    have b := h n (Nat.lt_succ_self n)
    show s1 f n + f n ≤ k * (n + 1)
    rw [Nat.mul_succ]
    omega
theorem s1_28 : ∀ n, n < 9 → s1 (fun i => 13 * i) n ≤ 364 := by decide
section PAIRS
variable {n : Nat} {c t q c' q' : Nat → Int} {U U' : Int} {a b : Nat}
theorem cl_mono {M x y : Int} (h : x ≤ y) : cl M x ≤ cl M y := by
  unfold cl
  omega
theorem PW_mono (hU : U' ≤ U) (hc : ∀ j, c j ≤ c' j) (hq : ∀ j, q j ≤ q' j) : PW c' t q' U' a b ≤ PW c t q U a b := by
  have h1 := cl_mono (M := t a + t b) (show U' - c' a - q' b ≤ U - c a - q b by have := hc a; have := hq b; omega)
  have h2 := cl_mono (M := t a + t b) (show U' - c' b - q' a ≤ U - c b - q a by have := hc b; have := hq a; omega)
  unfold PW
  omega
theorem PW_comm : PW c t q U a b = PW c t q U b a := by
  unfold PW
  rw [Int.add_comm (t a) (t b)]
  omega
theorem pp_comm : pp c t q U a b = pp c t q U b a := by
  unfold pp
  rw [PW_comm, Int.min_comm]
theorem pp_mono (ta : 1 ≤ t a) (tb : 1 ≤ t b) (h : PW c' t q' U' a b ≤ PW c t q U a b) : pp c' t q' U' a b ≤ pp c t q U a b := by
  unfold pp
  have := Int.ediv_le_ediv (c := 1 + min (t a) (t b)) (by omega) h
  omega
theorem pp_lt (ta : 1 ≤ t a) (tb : 1 ≤ t b) (h0 : 0 ≤ PW c' t q' U' a b) (h : PW c' t q' U' a b + (1 + min (t a) (t b)) ≤ PW c t q U a b) : pp c' t q' U' a b + 1 ≤ pp c t q U a b := by
  unfold pp
  obtain ⟨k, hk⟩ : ∃ k, 1 + min (t a) (t b) = k := ⟨_, rfl⟩
  rw [hk] at h ⊢
  have k0 : 0 < k := by omega
  have h1 := Int.ediv_le_ediv k0 h
  have h2 := Int.add_mul_ediv_right (PW c' t q' U' a b) 1 (c := k) (by omega)
  rw [Int.one_mul] at h2
  rw [h2] at h1
  have h3 := Int.ediv_nonneg h0 (Int.le_of_lt k0)
  omega
theorem pp_13 (ta : 1 ≤ t a ∧ t a ≤ 25) (tb : 1 ≤ t b ∧ t b ≤ 25) : pp c t q U a b ≤ 13 := by
  unfold pp
  have hM : PW c t q U a b ≤ t a + t b := by
    unfold PW cl
    omega
  have := Int.ediv_lt_of_lt_mul (a := PW c t q U a b) (b := 14) (c := 1 + min (t a) (t b)) (by omega) (by omega)
  omega
/-- the numbers of two jobs at an edge -/
theorem np1 {M ta tb x x' y y' : Int} (hM : M = ta + tb) (h0 : 0 ≤ x') (h1 : x' ≤ ta - 1) (hx : x' + 1 + tb ≤ x) (hy : y' ≤ y) : cl M x' + cl M y' - M + (1 + min ta tb) ≤ cl M x + cl M y - M := by
  unfold cl
  omega
theorem np2 {M ta tb x x' y y' : Int} (hM : M = ta + tb) (h0 : 0 ≤ x') (h1 : x' ≤ tb - 1) (hx : x' + 1 + ta ≤ x) (hy : y' ≤ y) : cl M x' + cl M y' - M + (1 + min ta tb) ≤ cl M x + cl M y - M := by
  unfold cl
  omega
theorem np3 {M ta tb x' y' : Int} (hM : M = ta + tb) (t1 : 1 ≤ ta) (t2 : 1 ≤ tb) (h0 : 0 ≤ x') (hs : M ≤ x' + y') (h1 : x' ≤ ta - 1 ∨ x' ≤ tb - 1) : 0 ≤ cl M x' + cl M y' - M := by
  unfold cl
  omega
theorem Ph_mono (ht : ∀ j, j < n → 1 ≤ t j ∧ t j ≤ 25) (hU : U' ≤ U) (hc : ∀ j, c j ≤ c' j) (hq : ∀ j, q j ≤ q' j) : Ph t n U' c' q' ≤ Ph t n U c q :=
  s1_le n (fun i hi => s1_le i (fun j hj => pp_mono (ht i hi).1 (ht j (by omega)).1 (PW_mono hU hc hq)))
theorem Ph_lt (ht : ∀ j, j < n → 1 ≤ t j ∧ t j ≤ 25) (hU : U' ≤ U) (hc : ∀ j, c j ≤ c' j) (hq : ∀ j, q j ≤ q' j) (ha : a < n) (hb : b < n) (hab : a ≠ b) (h : pp c' t q' U' a b + 1 ≤ pp c t q U a b) : Ph t n U' c' q' + 1 ≤ Ph t n U c q := by
  rcases Nat.lt_or_ge b a with g | g
  · exact s1_lt (f := fun i => s1 (fun j => pp c' t q' U' i j) i) (g := fun i => s1 (fun j => pp c t q U i j) i) (j := a) (s1_lt (j := b) h a (fun j hj => pp_mono (ht a ha).1 (ht j (by omega)).1 (PW_mono hU hc hq)) g) n (fun i hi => s1_le i (fun j hj => pp_mono (ht i hi).1 (ht j (by omega)).1 (PW_mono hU hc hq))) ha
  · rw [pp_comm (c := c'), pp_comm (c := c)] at h
    exact s1_lt (f := fun i => s1 (fun j => pp c' t q' U' i j) i) (g := fun i => s1 (fun j => pp c t q U i j) i) (j := b) (s1_lt (j := a) h b (fun j hj => pp_mono (ht b hb).1 (ht j (by omega)).1 (PW_mono hU hc hq)) (by omega)) n (fun i hi => s1_le i (fun j hj => pp_mono (ht i hi).1 (ht j (by omega)).1 (PW_mono hU hc hq))) hb
theorem Ph_364 (hn : n ≤ 8) (ht : ∀ j, j < n → 1 ≤ t j ∧ t j ≤ 25) : Ph t n U c q ≤ 364 :=
  Nat.le_trans (s1_le n (fun i hi => s1_k i (fun j hj => pp_13 (ht i hi) (ht j (by omega))))) (s1_28 n (by omega))
end PAIRS
section EDGES
variable {n : Nat} {c t q : Nat → Int} {U : Int}
theorem ne1 {c0 S tb D qP r f U : Int} (h1 : f = S + tb + D + qP) (hU : U ≤ f) (hr : S < r) : U - (r + D + qP) ≤ tb - 1 := by omega
/-- what both edges know -/
theorem ed_facts (hB : BD n c t q) (hn : n ≤ 8) (hb : 0 ≤ bkB q n (gr c t q n n)) : ∃ (b P y : Nat) (D r S : Int), b = svB c t q n ∧ b < n ∧ P < n ∧ y < n ∧ P ≠ b ∧ y ≠ b ∧ c b ≤ S ∧ S < r ∧ c y = r ∧ t P ≤ D ∧ t y ≤ D ∧ q b < q P ∧ (gr c t q n n).2.2.2.2.2.2.1 = S + t b + D + q P ∧ svQ c t q n = D + q P ∧ svR c t q n = r + D ∧ svS0 c t q n = S ∧ svL c t q n = P ∧ D = su t (Nat.testBit (svD c t q n)) n ∧ r = mn c (Nat.testBit (svD c t q n)) n ∧ (∀ d, Nat.testBit (svD c t q n) d = true → d < n ∧ d ≠ b ∧ r ≤ c d ∧ q P ≤ q d) ∧ Nat.testBit (svD c t q n) P = true ∧ Nat.testBit (svD c t q n) y = true := by
  obtain ⟨f1, f2, f3, f4, f5⟩ := sv_facts hB hn hb
  obtain ⟨b1, b2, -, -⟩ := svB_lt hB hn hb
  have cj : ∀ i, i < n → 0 ≤ c i := fun i hi => (hB i hi).1.1
  have m1 := mn_le (c := c) (p := Nat.testBit (svD c t q n)) f4 n cj b2
  obtain ⟨y, y1, y2, y3⟩ := mn_ok n m1.1
  have fy := f3 y y2
  have fP := f3 _ f4
  have sp : ∀ d, Nat.testBit (svD c t q n) d = true → t d ≤ su t (Nat.testBit (svD c t q n)) n := fun d hd => su_pge hd n (fun i hi => by have := hB i hi; omega) (f3 d hd).1
  have nb : ∀ d, Nat.testBit (svD c t q n) d = true → d ≠ svB c t q n := fun d hd e => by
    have := f3 d hd
    rw [e] at this
    omega
  have tP := sp _ f4
  have eQ : svQ c t q n = max (q (svB c t q n)) (su t (Nat.testBit (svD c t q n)) n + q (svL c t q n)) := rfl
  have eR : svR c t q n = max (c (svB c t q n)) (mn c (Nat.testBit (svD c t q n)) n + su t (Nat.testBit (svD c t q n)) n) := rfl
  have t1 := (hB _ b2).2.1.1
  refine ⟨svB c t q n, svL c t q n, y, su t (Nat.testBit (svD c t q n)) n, mn c (Nat.testBit (svD c t q n)) n, svS0 c t q n, rfl, b1, b2, y1, nb _ f4, nb y y2, f1, by omega, y3.symm, tP, sp y y2, f5, f2, by rw [eQ]; omega, by rw [eR]; omega, rfl, rfl, rfl, rfl, fun d hd => ?_, f4, y2⟩
  have fd := f3 d hd
  exact ⟨fd.1, nb d hd, (mn_le (c := c) (p := Nat.testBit (svD c t q n)) hd n cj fd.1).2, fd.2.2⟩
theorem up_ge {f : Nat → Int} {b : Nat} {v : Int} (h : f b ≤ v) : ∀ j, f j ≤ up f b v j := fun j => by
  unfold up
  by_cases e : j = b
  · rw [if_pos e, e]
    exact h
  · rw [if_neg e]
    exact Int.le_refl _
theorem up_eq {f : Nat → Int} {b : Nat} {v : Int} : up f b v b = v := by
  unfold up
  rw [if_pos rfl]
theorem up_ne {f : Nat → Int} {b j : Nat} {v : Int} (h : j ≠ b) : up f b v j = f j := by
  unfold up
  rw [if_neg h]
/-- the edge to branch 1 -/
theorem ed_R (hB : BD n c t q) (hn : n ≤ 8) (hb : 0 ≤ bkB q n (gr c t q n n)) (hU : U ≤ (gr c t q n n).2.2.2.2.2.2.1) {U0 : Int} (hU0 : U ≤ U0) (hB' : BD n (rC c t q n) t q) (hs : (bi (rC c t q n) t q n 16).2.2.2.1 < U) : Ph t n U (rC c t q n) q + 1 ≤ Ph t n U0 c q := by
  obtain ⟨b, P, y, D, r, S, e1, b1, b2, b3, n1, n2, g1, g2, g3, g4, g5, g6, g7, g8, g9, g10, g11, g12, g13, g14, g15, g16⟩ := ed_facts hB hn hb
  have ht : ∀ j, j < n → 1 ≤ t j ∧ t j ≤ 25 := fun j hj => (hB j hj).2.1
  have eC : rC c t q n = up c b (r + D) := by
    unfold rC
    rw [← e1, g9]
  rw [eC] at hs hB' ⊢
  have tP := ht P b2
  have tb := ht b b1
  have mono : ∀ j, c j ≤ up c b (r + D) j := up_ge (by omega)
  have hset := bi_set (p := Nat.testBit (svD c t q n)) (r0 := r) (q0 := q P) hB' hn (fun j hj hp => by rw [up_ne (g14 j hp).2.1]; exact (g14 j hp).2.2) b2 g15
  rw [← g12] at hset
  have ib := bi_ge hB' hn b1
  have iP := bi_ge hB' hn b2
  rw [up_eq] at ib
  rw [up_ne n1] at iP
  have x1 : U - up c b (r + D) b - q P ≤ t b - 1 := by
    rw [up_eq]
    have := ne1 (c0 := 0) g7 hU g2
    omega
  have x0 : 0 ≤ U - up c b (r + D) b - q P := by
    rw [up_eq]
    omega
  refine Ph_lt ht hU0 mono (fun j => Int.le_refl _) b1 b2 n1.symm (pp_lt tb.1 tP.1 ?_ ?_)
  · unfold PW
    refine np3 rfl tb.1 tP.1 x0 ?_ (Or.inl x1)
    rw [up_eq, up_ne n1]
    omega
  · unfold PW
    refine np1 rfl x0 x1 ?_ ?_
    · rw [up_eq]
      omega
    · rw [up_ne n1]
      omega
/-- the edge to branch 0 -/
theorem ed_L (hB : BD n c t q) (hn : n ≤ 8) (hb : 0 ≤ bkB q n (gr c t q n n)) (hU : U ≤ (gr c t q n n).2.2.2.2.2.2.1) {U0 : Int} (hU0 : U ≤ U0) (hB' : BD n c t (lQ c t q n)) (hs : (bi c t (lQ c t q n) n 16).2.2.2.1 < U) : Ph t n U c (lQ c t q n) + 1 ≤ Ph t n U0 c q := by
  obtain ⟨b, P, y, D, r, S, e1, b1, b2, b3, n1, n2, g1, g2, g3, g4, g5, g6, g7, g8, g9, g10, g11, g12, g13, g14, g15, g16⟩ := ed_facts hB hn hb
  have ht : ∀ j, j < n → 1 ≤ t j ∧ t j ≤ 25 := fun j hj => (hB j hj).2.1
  have eQ : lQ c t q n = up q b (D + q P) := by
    unfold lQ
    rw [← e1, g8]
  rw [eQ] at hs hB' ⊢
  have ty := ht y b3
  have tb := ht b b1
  have mono : ∀ j, q j ≤ up q b (D + q P) j := up_ge (by have := ht P b2; omega)
  have hset := bi_set (p := Nat.testBit (svD c t q n)) (r0 := r) (q0 := q P) hB' hn (fun j hj hp => by rw [up_ne (g14 j hp).2.1]; exact (g14 j hp).2.2) b2 g15
  rw [← g12] at hset
  have ib := bi_ge hB' hn b1
  have iy := bi_ge hB' hn b3
  rw [up_eq] at ib
  rw [up_ne n2] at iy
  have x1 : U - c y - up q b (D + q P) b ≤ t b - 1 := by
    rw [up_eq, g3]
    have := ne1 (c0 := 0) g7 hU g2
    omega
  have x0 : 0 ≤ U - c y - up q b (D + q P) b := by
    rw [up_eq, g3]
    omega
  refine Ph_lt ht hU0 (fun j => Int.le_refl _) mono b3 b1 n2 (pp_lt ty.1 tb.1 ?_ ?_)
  · unfold PW
    refine np3 rfl ty.1 tb.1 x0 ?_ (Or.inr x1)
    rw [up_eq, up_ne n2]
    omega
  · unfold PW
    refine np2 rfl x0 x1 ?_ ?_
    · rw [up_eq]
      omega
    · rw [up_ne n2]
      omega
end EDGES
section DEPTH
variable {n : Nat} {c t q : Nat → Int} {s : Se}
theorem gr_fin0 : ∀ k, 0 ≤ (gr c t q n k).2.2.2.2.2.2.1
  | 0 => Int.le_refl _
  | k + 1 => Int.le_trans (gr_fin0 k) (Int.le_max_left _ _)
theorem svN_le {f : Int} (hf : 0 ≤ f) (h : 0 ≤ s.1) : 0 ≤ (svN f s).1 ∧ (svN f s).1 ≤ s.1 ∧ (svN f s).1 ≤ f := by
  unfold svN
  by_cases g : s.1 = -1 ∨ f < s.1
  · rw [if_pos g]
    refine ⟨hf, ?_, Int.le_refl _⟩
    show f ≤ s.1
    omega
  · rw [if_neg g]
    refine ⟨h, Int.le_refl _, ?_⟩
    show s.1 ≤ f
    omega
theorem svN_f {f : Int} : (svN f s).1 ≤ f := by
  unfold svN
  by_cases g : s.1 = -1 ∨ f < s.1
  · rw [if_pos g]
    exact Int.le_refl _
  · rw [if_neg g]
    show s.1 ≤ f
    omega
theorem sv_le : ∀ (d : Nat) (c q : Nat → Int) (s : Se), 0 ≤ s.1 → 0 ≤ (sv t n d c q s).1 ∧ (sv t n d c q s).1 ≤ s.1
  | 0, _, _, s, h => ⟨h, Int.le_refl _⟩
  | d + 1, c, q, s, h => by
    have sl : ∀ (c q : Nat → Int) (s : Se), 0 ≤ s.1 → 0 ≤ (sub t n d c q s).1 ∧ (sub t n d c q s).1 ≤ s.1 := fun c q s h => by
      unfold sub
      by_cases w : (bi c t q n 16).2.2.2.1 < s.1
      · rw [if_pos w]
        exact sv_le d c q s h
      · rw [if_neg w]
        exact ⟨h, Int.le_refl _⟩
    have n1 := svN_le (s := s) (gr_fin0 (c := c) (t := t) (q := q) (n := n) n) h
    rw [sv_s]
    by_cases nb : bkB q n (gr c t q n n) < 0
    · rw [if_pos nb]
      exact ⟨n1.1, n1.2.1⟩
    · rw [if_neg nb]
      have a1 := sl c (lQ c t q n) (sN c t q n s) n1.1
      have a2 := sl (rC c t q n) q _ a1.1
      exact ⟨a2.1, Int.le_trans a2.2 (Int.le_trans a1.2 n1.2.1)⟩
theorem sub_le {d : Nat} {c q : Nat → Int} {s : Se} (h : 0 ≤ s.1) : 0 ≤ (sub t n d c q s).1 ∧ (sub t n d c q s).1 ≤ s.1 := by
  unfold sub
  by_cases w : (bi c t q n 16).2.2.2.1 < s.1
  · rw [if_pos w]
    exact sv_le d c q s h
  · rw [if_neg w]
    exact ⟨h, Int.le_refl _⟩
theorem DT_of (hn : n ≤ 8) : ∀ (d : Nat) (c q : Nat → Int) (s : Se), (∀ j, j < n → (0 ≤ c j ∧ c j ≤ 500) ∧ (1 ≤ t j ∧ t j ≤ 25) ∧ (0 ≤ q j ∧ q j ≤ 500)) → (0 ≤ (sN c t q n s).1 ∧ (sN c t q n s).1 ≤ 500) → Ph t n (sN c t q n s).1 c q < d → DT t n d c q s
  | 0, _, _, _, _, _, h => absurd h (Nat.not_lt_zero _)
  | d + 1, c, q, s, hb, hs, h => by
    have hB := GT_BD hb
    have ht : ∀ j, j < n → 1 ≤ t j ∧ t j ≤ 25 := fun j hj => (hB j hj).2.1
    intro nb
    have sq := svQR_b hB hn (M := 500) (by decide) (fun j hj => (hb j hj).2.2.2) (fun j hj => (hb j hj).1.2) nb
    have hBl : BD n c t (lQ c t q n) := BD_upq hB (nm6 sq.1)
    have hBr : BD n (rC c t q n) t q := BD_upc hB (nm6 sq.2)
    have sl := sub_le (t := t) (n := n) (d := d) (c := c) (q := lQ c t q n) (s := sN c t q n s) hs.1
    have nf : (sN c t q n s).1 ≤ (gr c t q n n).2.2.2.2.2.2.1 := svN_f
    refine ⟨fun w => ?_, fun w => ?_⟩
    · have e := ed_L hB hn nb nf (Int.le_refl _) hBl w
      have m := svN_le (s := sN c t q n s) (gr_fin0 (c := c) (t := t) (q := lQ c t q n) (n := n) n) hs.1
      have pm := Ph_mono (n := n) (t := t) (c := c) (c' := c) (q := lQ c t q n) (q' := lQ c t q n) ht m.2.1 (fun j => Int.le_refl _) (fun j => Int.le_refl _)
      exact DT_of hn d c (lQ c t q n) (sN c t q n s) (see_b hBl hn w hs.2) ⟨m.1, Int.le_trans m.2.1 hs.2⟩ (by
        have pm : Ph t n (sN c t (lQ c t q n) n (sN c t q n s)).1 c (lQ c t q n) ≤ Ph t n (sN c t q n s).1 c (lQ c t q n) := pm
        omega)
    · have e := ed_R (U0 := (sN c t q n s).1) hB hn nb (Int.le_trans sl.2 nf) sl.2 hBr w
      have m := svN_le (s := sub t n d c (lQ c t q n) (sN c t q n s)) (gr_fin0 (c := rC c t q n) (t := t) (q := q) (n := n) n) sl.1
      have pm := Ph_mono (n := n) (t := t) (c := rC c t q n) (c' := rC c t q n) (q := q) (q' := q) ht m.2.1 (fun j => Int.le_refl _) (fun j => Int.le_refl _)
      exact DT_of hn d (rC c t q n) q (sub t n d c (lQ c t q n) (sN c t q n s)) (see_b hBr hn w (Int.le_trans sl.2 hs.2)) ⟨m.1, Int.le_trans m.2.1 (Int.le_trans sl.2 hs.2)⟩ (by
        have pm : Ph t n (sN (rC c t q n) t q n (sub t n d c (lQ c t q n) (sN c t q n s))).1 (rC c t q n) q ≤ Ph t n (sub t n d c (lQ c t q n) (sN c t q n s)).1 (rC c t q n) q := pm
        omega)
/-- the tree of the SEARCH ends above depth 400 -/
theorem root_D (hn : n ≤ 8) (hb : ∀ j, j < n → (0 ≤ c j ∧ c j ≤ 160) ∧ (1 ≤ t j ∧ t j ≤ 25) ∧ (0 ≤ q j ∧ q j ≤ 130)) : DT t n 400 c q (-1, 0, 0) := by
  obtain ⟨hB, f0, f5⟩ := root_f hn hb
  have n1 : (sN c t q n (-1, 0, 0)).1 = (gr c t q n n).2.2.2.2.2.2.1 := by
    unfold sN svN
    rw [if_pos (Or.inl rfl)]
  refine DT_of hn 400 c q (-1, 0, 0) (fun j hj => ?_) (by rw [n1]; exact ⟨f0, f5⟩) (Nat.lt_of_le_of_lt (Ph_364 hn (fun j hj => (hb j hj).2.1)) (by decide))
  have := hb j hj
  omega
end DEPTH
