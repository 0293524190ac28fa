/-! SEARCH: what is left of a path, and who may still bar -/
noncomputable def zMm (n : Nat) (c0 q0 c q : Nat → Int) : Nat := s1 (fun b => cb (fun j => decide (c b < c0 j)) n + cb (fun j => decide (q b < q0 j)) n) n
def zK (n : Nat) (t c0 q0 c q : Nat → Int) (U : Int) (b : Nat) (l : List (Nat × Nat)) : Prop := (∀ x, x ∈ l → (x.1 < n ∧ c x.1 = c0 x.1 ∧ c b < c0 x.1 ∧ c0 x.1 + t b + q b < U) ∧ (x.2 < n ∧ c x.2 = c0 x.2 ∧ q x.2 = q0 x.2 ∧ c b < c0 x.2 ∧ q b < q0 x.2 ∧ q0 x.2 + t x.2 + t b + c b < U) ∧ c0 x.1 ≤ c0 x.2) ∧ l.Pairwise (fun x y => c0 x.1 < c0 y.1 ∧ q0 y.2 < q0 x.2)
def zP (kf : Nat → Nat) : List Nat → Nat
  | [] => 1
  | b :: l => (1 + kf b) * zP kf l
section COUNT
variable {n : Nat} {t c0 q0 c q c' q' : Nat → Int} {U U' : Int} {b P : Nat} {F D : Nat → Bool} {S r : Int} {p p' : Nat → Bool}
theorem cb_mn : ∀ m, (∀ j, j < m → p j = true → p' j = true) → cb p m ≤ cb p' m
  | 0, _ => Nat.le_refl _
  | m + 1, h => by
    have a := cb_mn m (fun j hj => h j (by omega))
    have g := h m (Nat.lt_succ_self m)
    unfold cb
    by_cases w : p m = true
    · rw [if_pos w, if_pos (g w)]
      omega
    · rw [if_neg w]
      omega
theorem cb_st {i : Nat} (h1 : p i = false) (h2 : p' i = true) : ∀ m, i < m → (∀ j, j < m → p j = true → p' j = true) → cb p m + 1 ≤ cb p' m
  | 0, h, _ => absurd h (Nat.not_lt_zero _)
  | m + 1, hi, h => by
    have g := h m (Nat.lt_succ_self m)
    unfold cb
    by_cases e : i = m
    · subst e
      have a := cb_mn i (p := p) (p' := p') (fun j hj => h j (by omega))
      rw [if_neg (by rw [h1]; decide), if_pos h2]
      omega
    · have a := cb_st h1 h2 m (by omega) (fun j hj => h j (by omega))
      by_cases w : p m = true
      · rw [if_pos w, if_pos (g w)]
        omega
      · rw [if_neg w]
        omega
theorem zM_le (hc : ∀ j, c j ≤ c' j) (hq : ∀ j, q j ≤ q' j) : zMm n c0 q0 c' q' ≤ zMm n c0 q0 c q := by
  refine s1_le n (fun b hb => ?_)
  have a := cb_mn (p := fun j => decide (c' b < c0 j)) (p' := fun j => decide (c b < c0 j)) n (fun j hj h => by
    have h := of_decide_eq_true h
    have := hc b
    exact decide_eq_true (by omega))
  have d := cb_mn (p := fun j => decide (q' b < q0 j)) (p' := fun j => decide (q b < q0 j)) n (fun j hj h => by
    have h := of_decide_eq_true h
    have := hq b
    exact decide_eq_true (by omega))
  exact Nat.add_le_add a d
theorem zM_lt (hc : ∀ j, c j ≤ c' j) (hq : ∀ j, q j ≤ q' j) {i : Nat} (hb : b < n) (hi : i < n) (h : (c b < c0 i ∧ c0 i ≤ c' b) ∨ (q b < q0 i ∧ q0 i ≤ q' b)) : zMm n c0 q0 c' q' + 1 ≤ zMm n c0 q0 c q := by
  have a : ∀ b, ∀ j, j < n → decide (c' b < c0 j) = true → decide (c b < c0 j) = true := fun b j hj h => by
    have h := of_decide_eq_true h
    have := hc b
    exact decide_eq_true (by omega)
  have d : ∀ b, ∀ j, j < n → decide (q' b < q0 j) = true → decide (q b < q0 j) = true := fun b j hj h => by
    have h := of_decide_eq_true h
    have := hq b
    exact decide_eq_true (by omega)
  refine s1_lt (j := b) ?_ n (fun b2 hb2 => Nat.add_le_add (cb_mn n (a b2)) (cb_mn n (d b2))) hb
  rcases h with ⟨h1, h2⟩ | ⟨h1, h2⟩
  · have x := cb_st (p := fun j => decide (c' b < c0 j)) (p' := fun j => decide (c b < c0 j)) (i := i) (decide_eq_false (by omega)) (decide_eq_true h1) n hi (a b)
    have y := cb_mn n (d b)
    show cb (fun j => decide (c' b < c0 j)) n + cb (fun j => decide (q' b < q0 j)) n + 1 ≤ cb (fun j => decide (c b < c0 j)) n + cb (fun j => decide (q b < q0 j)) n
    omega
  · have x := cb_st (p := fun j => decide (q' b < q0 j)) (p' := fun j => decide (q b < q0 j)) (i := i) (decide_eq_false (by omega)) (decide_eq_true h1) n hi (d b)
    have y := cb_mn n (a b)
    show cb (fun j => decide (c' b < c0 j)) n + cb (fun j => decide (q' b < q0 j)) n + 1 ≤ cb (fun j => decide (c b < c0 j)) n + cb (fun j => decide (q b < q0 j)) n
    omega
theorem s1_add {f g : Nat → Nat} : ∀ m, s1 (fun i => f i + g i) m = s1 f m + s1 g m
  | 0 => rfl
  | m + 1 => by
    have := s1_add (f := f) (g := g) m
    show s1 (fun i => f i + g i) m + (f m + g m) = s1 f m + f m + (s1 g m + g m)
    omega
theorem s1_cb : ∀ m, s1 (fun i => if p i = true then 1 else 0) m = cb p m
  | 0 => rfl
  | m + 1 => by
    have := s1_cb m
    show s1 (fun i => if p i = true then 1 else 0) m + (if p m = true then 1 else 0) = cb p m + (if p m = true then 1 else 0)
    omega
theorem cb_two {f : Nat → Int} {x : Int} : ∀ m, cb (fun j => decide (f j < x)) m + cb (fun j => decide (x < f j)) m ≤ m
  | 0 => Nat.le_refl _
  | m + 1 => by
    have := cb_two (f := f) (x := x) m
    show cb (fun j => decide (f j < x)) m + (if decide (f m < x) = true then 1 else 0) + (cb (fun j => decide (x < f j)) m + (if decide (x < f m) = true then 1 else 0)) ≤ m + 1
    by_cases a : f m < x
    · rw [if_pos (decide_eq_true a), if_neg (by rw [decide_eq_false (show ¬ x < f m by omega)]; decide)]
      omega
    · rw [if_neg (by rw [decide_eq_false a]; decide)]
      split <;> omega
theorem zM_tri {f : Nat → Int} : ∀ m, 2 * s1 (fun b => cb (fun j => decide (f b < f j)) m) m + m ≤ m * m
  | 0 => Nat.le_refl _
  | m + 1 => by
    have ih := zM_tri (f := f) m
    have e : s1 (fun b => cb (fun j => decide (f b < f j)) (m + 1)) m = s1 (fun b => cb (fun j => decide (f b < f j)) m) m + cb (fun b => decide (f b < f m)) m := by
      rw [← s1_cb, ← s1_add]
      rfl
    have e2 : s1 (fun b => cb (fun j => decide (f b < f j)) (m + 1)) (m + 1) = s1 (fun b => cb (fun j => decide (f b < f j)) (m + 1)) m + cb (fun j => decide (f m < f j)) (m + 1) := rfl
    have e3 : cb (fun j => decide (f m < f j)) (m + 1) = cb (fun j => decide (f m < f j)) m + (if decide (f m < f m) = true then 1 else 0) := rfl
    have e4 : (if decide (f m < f m) = true then 1 else 0) = 0 := if_neg (by rw [decide_eq_false (Int.lt_irrefl _)]; decide)
    have t2 := cb_two (f := f) (x := f m) m
    have sq : (m + 1) * (m + 1) = m * m + 2 * m + 1 := by
      rw [Nat.add_mul, Nat.mul_add]
      omega
    rw [e2, e, e3, e4, sq]
    omega
theorem zM_root (hn : n ≤ 8) : zMm n c q c q ≤ 56 := by
  have a := zM_tri (f := c) n
  have b := zM_tri (f := q) n
  have e : zMm n c q c q = s1 (fun b => cb (fun j => decide (c b < c j)) n) n + s1 (fun b => cb (fun j => decide (q b < q j)) n) n := s1_add n
  have h : n = 0 ∨ n = 1 ∨ n = 2 ∨ n = 3 ∨ n = 4 ∨ n = 5 ∨ n = 6 ∨ n = 7 ∨ n = 8 := by omega
  rw [e]
  generalize s1 (fun b => cb (fun j => decide (c b < c j)) n) n = x at *
  generalize s1 (fun b => cb (fun j => decide (q b < q j)) n) n = y at *
  rcases h with h | h | h | h | h | h | h | h | h <;> subst h <;> omega
theorem zK_mono (hc0 : ∀ j, c0 j ≤ c j) (hq0 : ∀ j, q0 j ≤ q j) (hc : ∀ j, c j ≤ c' j) (hq : ∀ j, q j ≤ q' j) (hU : U' ≤ U) {l : List (Nat × Nat)} (h : zK n t c0 q0 c' q' U' b l) : zK n t c0 q0 c q U b l := by
  refine ⟨fun x hx => ?_, h.2⟩
  obtain ⟨⟨a1, a2, a3, a4⟩, ⟨b1, b2, b3, b4, b5, b6⟩, d⟩ := h.1 x hx
  have e1 := hc0 x.1
  have e2 := hc x.1
  have e3 := hc0 x.2
  have e4 := hc x.2
  have e5 := hq0 x.2
  have e6 := hq x.2
  have e7 := hc b
  have e8 := hq b
  exact ⟨⟨a1, by omega, by omega, by omega⟩, ⟨b1, by omega, by omega, by omega, by omega, by omega⟩, d⟩
theorem zK_split (ht : ∀ j, j < n → 1 ≤ t j) (hN : zN n t c q U b P F D S r) (hc0 : ∀ j, c0 j ≤ c j) (hq0 : ∀ j, q0 j ≤ q j) {UL UR : Int} (hUL : UL ≤ U) (hUR : UR ≤ U) (aL : c b + t b + (su t D n + q P) < U) (aR : r + su t D n + t b + q b < U) {i s : Nat} (hi : D i = true ∧ c i = c0 i ∧ c i ≤ r + su t D n) (hs : D s = true ∧ c s = c0 s ∧ q s = q0 s) {lL lR : List (Nat × Nat)} (kL : zK n t c0 q0 c (up q b (su t D n + q P)) UL b lL) (kR : zK n t c0 q0 (up c b (r + su t D n)) q UR b lR) : ∃ x, zK n t c0 q0 c q U b (lL ++ x :: lR) := by
  have hn := hN.1
  have u := zN_up ht hN
  have pD := zu_nn (p := D) ht n (Nat.le_refl _)
  have fi := hN.2.1 i hi.1
  have fs := hN.2.1 s hs.1
  have ts := ht s fs.1
  have mL := zK_mono (c := c) (q := q) (U := U) hc0 hq0 (fun j => Int.le_refl _) (up_ge u.2) hUL kL
  have mR := zK_mono (c := c) (q := q) (U := U) hc0 hq0 (up_ge u.1) (fun j => Int.le_refl _) hUR kR
  obtain ⟨i', j1, j2, j3, j4⟩ : ∃ i', D i' = true ∧ c i' = c0 i' ∧ c i' ≤ r + su t D n ∧ c0 i' ≤ c0 s := by
    by_cases g : c s ≤ r + su t D n
    · exact ⟨s, hs.1, hs.2.1, g, Int.le_refl _⟩
    · exact ⟨i, hi.1, hi.2.1, hi.2.2, by omega⟩
  have fj := hN.2.1 i' j1
  have hL : ∀ x, x ∈ lL → c0 x.1 < S ∧ su t D n + q P < q0 x.2 := fun x hx => by
    obtain ⟨⟨a1, a2, a3, a4⟩, ⟨b1, b2, b3, b4, b5, b6⟩, d⟩ := kL.1 x hx
    rw [up_eq] at a4 b5
    omega
  have hR : ∀ x, x ∈ lR → r + su t D n < c0 x.1 ∧ q0 x.2 < q P := fun x hx => by
    obtain ⟨⟨a1, a2, a3, a4⟩, ⟨b1, b2, b3, b4, b5, b6⟩, d⟩ := kR.1 x hx
    have := ht x.2 b1
    rw [up_eq] at a3 b6
    omega
  refine ⟨(i', s), fun x hx => ?_, ?_⟩
  · rcases List.mem_append.mp hx with g | g
    · exact mL.1 x g
    · rcases List.mem_cons.mp g with g | g
      · subst g
        refine ⟨⟨fj.1, j2, ?_, ?_⟩, ⟨fs.1, hs.2.1, hs.2.2, ?_, ?_, ?_⟩, j4⟩
        · show c b < c0 i'
          omega
        · show c0 i' + t b + q b < U
          omega
        · show c b < c0 s
          omega
        · show q b < q0 s
          omega
        · show q0 s + t s + t b + c b < U
          omega
      · exact mR.1 x g
  · refine List.pairwise_append.mpr ⟨kL.2, List.pairwise_cons.mpr ⟨fun y hy => ?_, kR.2⟩, fun x hx y hy => ?_⟩
    · have a := hR y hy
      show c0 i' < c0 y.1 ∧ q0 y.2 < q0 s
      omega
    · have a := hL x hx
      rcases List.mem_cons.mp hy with g | g
      · subst g
        show c0 x.1 < c0 i' ∧ q0 s < q0 x.2
        omega
      · have d := hR y g
        omega
/-- products -/
theorem zP_pos {kf : Nat → Nat} : ∀ l, 1 ≤ zP kf l
  | [] => Nat.le_refl _
  | b :: l => Nat.mul_pos (by omega) (zP_pos l)
theorem zP_mono {kf kg : Nat → Nat} (h : ∀ j, kf j ≤ kg j) : ∀ l, zP kf l ≤ zP kg l
  | [] => Nat.le_refl _
  | b :: l => Nat.mul_le_mul (Nat.add_le_add_left (h b) 1) (zP_mono h l)
theorem zP_split {kf kL kR : Nat → Nat} {b : Nat} (hL : ∀ j, kL j ≤ kf j) (hR : ∀ j, kR j ≤ kf j) (hb : kL b + kR b + 1 ≤ kf b) : ∀ l, b ∈ l → zP kL l + zP kR l ≤ zP kf l
  | [], h => absurd h (List.not_mem_nil)
  | j :: l, h => by
    have mL := zP_mono hL l
    have mR := zP_mono hR l
    show (1 + kL j) * zP kL l + (1 + kR j) * zP kR l ≤ (1 + kf j) * zP kf l
    by_cases e : j = b
    · subst e
      refine Nat.le_trans (Nat.add_le_add (Nat.mul_le_mul_left _ mL) (Nat.mul_le_mul_left _ mR)) ?_
      rw [← Nat.add_mul]
      exact Nat.mul_le_mul_right _ (by omega)
    · have hm : b ∈ l := by
        rcases List.mem_cons.mp h with g | g
        · exact absurd g.symm e
        · exact g
      have ih := zP_split hL hR hb l hm
      have a := hL j
      have d := hR j
      refine Nat.le_trans (Nat.add_le_add (Nat.mul_le_mul_right _ (Nat.add_le_add_left a 1)) (Nat.mul_le_mul_right _ (Nat.add_le_add_left d 1))) ?_
      rw [← Nat.mul_add]
      exact Nat.mul_le_mul_left _ ih
/-- the greatest of some numbers -/
theorem zmax {Q : Nat → Prop} (h0 : Q 0) : ∀ K, (∀ m, Q m → m ≤ K) → ∃ m, Q m ∧ ∀ m', Q m' → m' ≤ m
  | 0, h => ⟨0, h0, h⟩
  | K + 1, h => by
    by_cases g : Q (K + 1)
    · exact ⟨K + 1, g, h⟩
    · refine zmax h0 K (fun m hm => ?_)
      have a := h m hm
      have : m ≠ K + 1 := fun e => g (by rw [← e]; exact hm)
      omega
end COUNT
