/-! BREAKING: sixteen rounds are enough; the model's loop; both answers are one -/
theorem cb_mono {p p' : Nat → Bool} : ∀ n, (∀ i, i < n → p' i = true → p i = true) → cb p' n ≤ cb p n
  | 0, _ => Nat.le_refl _
  | n + 1, h => by
    have ih := cb_mono n (fun i hi => h i (by omega))
    have hn := h n (Nat.lt_succ_self n)
    unfold cb
    cases a : p' n
    · rw [if_neg (by decide)]
      omega
    · rw [hn a]
      simp only [if_true]
      omega
theorem cb_lt {p p' : Nat → Bool} {k : Nat} (h1 : p k = true) (h2 : p' k = false) : ∀ n, (∀ i, i < n → p' i = true → p i = true) → k < n → cb p' n < cb p n
  | 0, _, h => absurd h (Nat.not_lt_zero _)
  | n + 1, h, hk => by
    by_cases e : k = n
    · subst e
      have ih := cb_mono k (fun i hi => h i (by omega))
      unfold cb
      rw [h1, h2]
      simp
      omega
    · have ih := cb_lt h1 h2 n (fun i hi => h i (by omega)) (by omega)
      have hn := h n (Nat.lt_succ_self n)
      unfold cb
      cases a : p' n
      · rw [if_neg (by decide)]
        omega
      · rw [hn a]
        simp only [if_true]
        omega
section BEND
variable {z : St} {n : Nat} {c t q : Nat → Int}
theorem not_all (h8 : n ≤ 8) {x : Br} (hW : BW n t x) (hne : x.2.1 ≠ 2 ^ n - 1) : cb (Nat.testBit x.2.1) n < n := by
  rcases Nat.lt_or_ge (cb (Nat.testBit x.2.1) n) n with g | g
  · exact g
  · exact absurd (all_eq hW.1 (by omega)) hne
theorem br_phi (hB : BD n c t q) {x : Br} (hW : BW n t x) (hc : cb (Nat.testBit x.2.1) n < n) : (n - cb (Nat.testBit (brS c t q n x).2.1) n) + cb (fun k => decide ((brS c t q n x).2.2.1 < c k)) n + 1 ≤ (n - cb (Nat.testBit x.2.1) n) + cb (fun k => decide (x.2.2.1 < c k)) n := by
  obtain ⟨g1, g2, g3, g4, g5, g6, g7, g8⟩ := br_next hB hW hc
  obtain ⟨u1, u2⟩ := br_u hB hW hc
  unfold brS
  split
  · have e := cb_up (p := Nat.testBit x.2.1) (p' := Nat.testBit (x.2.1 ||| (1 <<< brJ c t q n x))) (j := brJ c t q n x) (fun i => or_bit) g3 n g2
    have m := cb_mono (p := fun k => decide (x.2.2.1 < c k)) (p' := fun k => decide (brU c t q n x < c k)) n (fun i _ h => by
      have h : brU c t q n x < c i := of_decide_eq_true h
      exact decide_eq_true (by omega))
    show (n - cb (Nat.testBit (x.2.1 ||| (1 <<< brJ c t q n x))) n) + cb (fun k => decide (brU c t q n x < c k)) n + 1 ≤ _
    omega
  · rename_i w
    have hlk := hl_ok (c := c) (q := q) (h := brH c n x) (x := q (brJ c t q n x)) (e := brH c n x + x.1 (brJ c t q n x)) (by omega) n
    have eu : hl c q (brH c n x) (q (brJ c t q n x)) (brH c n x + x.1 (brJ c t q n x)) n = brU c t q n x := rfl
    rw [eu] at hlk
    rcases hlk.2.2.2 with y | ⟨k, k1, k2, k3⟩
    · omega
    · have m := cb_lt (p := fun k => decide (x.2.2.1 < c k)) (p' := fun k => decide (brU c t q n x < c k)) (k := k) (decide_eq_true (by omega)) (decide_eq_false (by omega)) n (fun i _ h => by
        have h : brU c t q n x < c i := of_decide_eq_true h
        exact decide_eq_true (by omega)) k1
      show (n - cb (Nat.testBit x.2.1) n) + cb (fun k => decide (brU c t q n x < c k)) n + 1 ≤ _
      omega
theorem bi_phi (hB : BD n c t q) (h8 : n ≤ 8) : ∀ r, r ≤ 99 → (bi c t q n r).2.1 = 2 ^ n - 1 ∨ (n - cb (Nat.testBit (bi c t q n r).2.1) n) + cb (fun k => decide ((bi c t q n r).2.2.1 < c k)) n + r ≤ 2 * n
  | 0, _ => by
    have := cb_le (fun k => decide ((bi c t q n 0).2.2.1 < c k)) n
    exact Or.inr (by omega)
  | r + 1, hr => by
    have hi := bi_inv hB h8 r (by omega)
    unfold bi
    split
    · rename_i w
      exact Or.inl w
    · rename_i w
      rcases bi_phi hB h8 r (by omega) with g | g
      · exact absurd g w
      · have := br_phi hB hi.1 (not_all h8 hi.1 w)
        exact Or.inr (by omega)
theorem bi_end (hB : BD n c t q) (h8 : n ≤ 8) : (bi c t q n 16).2.1 = 2 ^ n - 1 := by
  rcases bi_phi hB h8 16 (by decide) with g | g
  · exact g
  · have hi := bi_inv hB h8 16 (by decide)
    have := cb_le (Nat.testBit (bi c t q n 16).2.1) n
    exact all_eq hi.1.1 (by omega)
theorem bi_rel (hB : BD n c t q) (h8 : n ≤ 8) : ∀ r, r ≤ 99 → ∃ a : Nat, (a : Int) = (bi c t q n r).2.2.1 ∧ BRel c t q n (bi c t q n r) (mh c t q n a) ∧ ∀ i, i < a → 0 < su (mh c t q n i).1 (fun _ => true) n
  | 0, _ => by
    refine ⟨0, rfl, ⟨rfl, rfl, rfl, fun k _ hk => ?_, Or.inl ⟨rfl, rfl⟩⟩, fun i hi => absurd hi (Nat.not_lt_zero _)⟩
    have hk : Nat.testBit 0 k = true := hk
    rw [Nat.zero_testBit] at hk
    exact absurd hk (by decide)
  | r + 1, hr => by
    obtain ⟨a, a1, a2, a3⟩ := bi_rel hB h8 r (by omega)
    have hi := bi_inv hB h8 r (by omega)
    unfold bi
    split
    · exact ⟨a, a1, a2, a3⟩
    · rename_i w
      obtain ⟨a', b1, b2, b3, b4⟩ := br_rel hB hi.1 (not_all h8 hi.1 w) a1 a2
      refine ⟨a', b1, b3, fun i hi => ?_⟩
      by_cases g : i < a
      · exact a3 i g
      · exact b4 i (by omega) hi
theorem su_0 {f : Nat → Int} : ∀ m, (∀ i, i < m → f i = 0) → su f (fun _ => true) m = 0
  | 0, _ => rfl
  | m + 1, h => by
    show su f (fun _ => true) m + f m = 0
    rw [su_0 m (fun i hi => h i (by omega)), h m (Nat.lt_succ_self m)]
    rfl
theorem mh_end (hB : BD n c t q) (h8 : n ≤ 8) : ∃ T : Nat, T ≤ 1100 ∧ (mh c t q n T).2.2.2.1 = (bi c t q n 16).2.2.2.1 ∧ (mh c t q n T).2.2.2.2 = (bi c t q n 16).2.2.2.2 ∧ su (mh c t q n T).1 (fun _ => true) n = 0 ∧ ∀ i, i < T → 0 < su (mh c t q n i).1 (fun _ => true) n := by
  obtain ⟨a, a1, a2, a3⟩ := bi_rel hB h8 16 (by decide)
  have hi := (bi_inv hB h8 16 (by decide)).1
  have he := bi_end hB h8
  obtain ⟨r1, r2, r3, r4, r5⟩ := a2
  have s200 := su_200 hB h8
  have all : ∀ i, i < n → Nat.testBit (bi c t q n 16).2.1 i = true := fun i h => by
    rw [he, Nat.testBit_two_pow_sub_one]
    exact decide_eq_true h
  have z0 : su (mh c t q n a).1 (fun _ => true) n = 0 := su_0 n (fun i h => by
    rw [r1]
    exact (hi.2.1 i h).2.2.mpr (all i h))
  have z1 : su (bi c t q n 16).1 (fun _ => true) n = 0 := by
    rw [← r1]
    exact z0
  refine ⟨a, ?_, r3, ?_, z0, a3⟩
  · have := hi.2.2.1.2
    omega
  · rcases r5 with g | ⟨g1, g2, g3, g4⟩
    · exact g.2
    · exfalso
      have p := nb_ok n g3
      rw [all _ p.2.2] at p
      exact absurd p.1 (by decide)
theorem MW_0 (hB : BD n c t q) : MW n c t 0 (mh c t q n 0) := by
  have w := BW_0 hB
  refine ⟨w.1, w.2.1, ⟨Int.le_refl _, fun a => absurd a (by show ¬ (0 : Int) ≤ -1; decide)⟩, ⟨Int.le_refl _, by show (0 : Int) ≤ 0 + 900; decide⟩⟩
theorem mh_MW (hB : BD n c t q) (h8 : n ≤ 8) : ∀ h : Nat, MW n c t (h : Int) (mh c t q n h)
  | 0 => MW_0 hB
  | h + 1 => by
    have := MW_S hB h8 (q := q) (by omega) (mh_MW hB h8 h)
    exact this
theorem mbS_su {h : Int} {x : Mb} (hW : MW n c t h x) : su (mbS c t q n h x).1 (fun _ => true) n = if mbN c t q n h x < 0 then su x.1 (fun _ => true) n else su x.1 (fun _ => true) n - 1 := by
  obtain ⟨k1, k2⟩ := mbN_ok (q := q) hW
  unfold mbS
  by_cases g : mbN c t q n h x < 0
  · rw [if_pos g, if_pos g]
  · rw [if_neg g, if_neg g]
    obtain ⟨a1, a2, a3⟩ := k2 (by omega)
    by_cases w : x.1 (mbN c t q n h x).toNat - 1 = 0
    · rw [if_pos w]
      show su (up _ _ _) _ n = _
      rw [su_at (f := x.1) (f' := up x.1 (mbN c t q n h x).toNat 0) (j := (mbN c t q n h x).toNat) (v := 0) (by unfold up; rw [if_pos rfl]) (fun i hi => by unfold up; rw [if_neg hi]) n, if_pos a1]
      omega
    · rw [if_neg w]
      show su (up _ _ _) _ n = _
      rw [su_at (f := x.1) (f' := up x.1 (mbN c t q n h x).toNat (x.1 (mbN c t q n h x).toNat - 1)) (j := (mbN c t q n h x).toNat) (v := x.1 (mbN c t q n h x).toNat - 1) (by unfold up; rw [if_pos rfl]) (fun i hi => by unfold up; rw [if_neg hi]) n, if_pos a1]
      omega
theorem bk_loop (hB : BD n c t q) {T : Nat} (hT : T ≤ 1100) (h0 : su (mh c t q n T).1 (fun _ => true) n = 0) (hp : ∀ i, i < T → 0 < su (mh c t q n i).1 (fun _ => true) n) : ∀ (d h F : Nat) (z : St), h + d = T → d < F → MD z n c t q → (∀ j, j < n → z.1 81 j = iv ((mh c t q n h).1 j)) → z.1 68 21 = iv (mh c t q n h).2.2.2.2 → ∃ z', f_X11_breakingly_51 F z 68 (iv (su (mh c t q n h).1 (fun _ => true) n)) (iv (mh c t q n h).2.2.2.1) (iv (mh c t q n h).2.2.1) (iv (h : Int)) = some (z', iv (mh c t q n T).2.2.2.1) ∧ z'.1 68 21 = iv (mh c t q n T).2.2.2.2 ∧ Fr (fun a => a = 81 ∨ a = 68) z z' ∧ (∀ k, k ≠ 21 → z'.1 68 k = z.1 68 k)
  | _, _, 0, _, _, h, _, _, _ => absurd h (Nat.not_lt_zero _)
  | 0, h, F + 1, z, e, _, hL, hR, hb => by
    have e : h = T := e
    subst e
    refine ⟨z, ?_, hb, Fr.refl, fun _ _ => rfl⟩
    rw [f_X11_breakingly_51, h0, if_pos (by rw [n_0]; exact Int32.le_refl _)]
    rfl
  | d + 1, h, F + 1, z, e, hF, hL, hR, hb => by
    have h8 := hL.2.1
    have pos := hp h (by omega)
    have hW := mh_MW hB h8 (q := q) h
    have s200 := su_200 hB h8
    have le : su (mh c t q n h).1 (fun _ => true) n ≤ su t (fun _ => true) n := by
      have : ∀ m, m ≤ n → su (mh c t q n h).1 (fun _ => true) m ≤ su t (fun _ => true) m := fun m => by
        induction m with
        | zero => exact fun _ => Int.le_refl _
        | succ m ih =>
          intro hm
          have a := ih (by omega)
          have b := (hW.2.1 m (by omega)).2.1
          show su (mh c t q n h).1 (fun _ => true) m + (mh c t q n h).1 m ≤ su t (fun _ => true) m + t m
          omega
      exact this n (Nat.le_refl _)
    have np : ¬ iv (su (mh c t q n h).1 (fun _ => true) n) ≤ 0 := fun w => by
      rw [n_0] at w
      have := (iv_le ⟨by omega, by omega⟩ (by constructor <;> decide)).mp w
      omega
    rw [f_X11_breakingly_51, if_neg np]
    obtain ⟨z', s1, s2, s3, s4, s5⟩ := bk_step hL hB (h := (h : Int)) ⟨by omega, by omega⟩ hW hR hb (l := su (mh c t q n h).1 (fun _ => true) n) (f_X11_breakingly_51 F)
    rw [← mbS_su hW] at s1
    have hL' : MD z' n c t q := MD_fr hL (s5 5 (by decide)) (fun a h1 h2 => (s4 a (by omega)).1)
    obtain ⟨z'', t1, t2, t3, t4⟩ := bk_loop hB hT h0 hp d (h + 1) F z' (by omega) (by omega) hL' s2 s3
    refine ⟨z'', ?_, t2, s4.trans t3, fun k hk => (t4 k hk).trans (s5 k hk)⟩
    rw [s1]
    exact t1
theorem bk_init (hB : BD n c t q) : ∀ (d k F : Nat) (z : St), k + d = n → d < F → MD z n c t q → (∀ j, j < k → z.1 81 j = iv (t j)) → ∃ z', f_X11_breakingly_4 F z 68 (iv (su t (fun _ => true) k)) (iv (k : Int)) = f_X11_breakingly_39 z' 68 (iv (su t (fun _ => true) n)) ∧ MD z' n c t q ∧ (∀ j, j < n → z'.1 81 j = iv (t j)) ∧ Fr (fun a => a = 81) z z'
  | _, _, 0, _, _, h, _, _ => absurd h (Nat.not_lt_zero _)
  | 0, k, F + 1, z, e, _, hL, hR => by
    have e : k = n := e
    subst e
    refine ⟨z, ?_, hL, hR, Fr.refl⟩
    rw [f_X11_breakingly_4, hL.1, if_pos sz_t]
  | d + 1, k, F + 1, z, e, hF, hL, hR => by
    obtain ⟨h8, e1, e2, e3, b1, b2, b3, b4, b5, b6, i1, i2⟩ := MD_at hL hB (show k < n by omega)
    rw [f_X11_breakingly_4, hL.1, if_neg (sz_f (by omega) (by omega))]
    unfold f_X11_breakingly_12
    simp only [r68_20, r68_14, i1, i2, e2, if_true, rI, Nat.reduceEqDiff, false_and, if_false, iv_add, iv_s]
    have hL' : MD (zI z 81 k (iv (t k))) n c t q := MD_fr hL (by rw [zI_n (by decide)]) (fun a h1 h2 => zI_n (by omega))
    obtain ⟨z', s1, s2, s3, s4⟩ := bk_init hB d (k + 1) F (zI z 81 k (iv (t k))) (by omega) (by omega) hL' (fun j hj => by
      rw [rI]
      by_cases w : j = k
      · rw [if_pos ⟨rfl, w⟩, w]
      · rw [if_neg (fun x => w x.2)]
        exact hR j (by omega))
    exact ⟨z', s1, s2, s3, Fr.trans (Fr.zI (P := fun a => a = 81) Fr.refl rfl) s4⟩
theorem bk_of (hL : MD z n c t q) (hB : BD n c t q) : ∃ z', f_X11_breakingly z 68 = some (z', iv (bi c t q n 16).2.2.2.1) ∧ z'.1 68 21 = iv (bi c t q n 16).2.2.2.2 ∧ Fr (fun a => a = 81 ∨ a = 68) z z' ∧ (∀ k, k ≠ 21 → z'.1 68 k = z.1 68 k) := by
  have h8 := hL.2.1
  obtain ⟨T, t1, t2, t3, t4, t5⟩ := mh_end hB h8
  obtain ⟨z1, a1, a2, a3, a4⟩ := bk_init hB n 0 FU z (by omega) (FU_8 (by omega)) hL (fun j hj => absurd hj (Nat.not_lt_zero _))
  have hL2 : MD (zI z1 68 21 0) n c t q := MD_fr a2 (by simp only [rI, Nat.reduceEqDiff, and_false, if_false]) (fun a h1 h2 => zI_n (by omega))
  have hR2 : ∀ j, j < n → (zI z1 68 21 0).1 81 j = iv ((mh c t q n 0).1 j) := fun j hj => by
    rw [zI_n (by decide), a3 j hj]
    show iv (t j) = iv (if j < n then t j else 0)
    rw [if_pos hj]
  have e0 : su (mh c t q n 0).1 (fun _ => true) n = su t (fun _ => true) n := by
    have : ∀ m, m ≤ n → su (mh c t q n 0).1 (fun _ => true) m = su t (fun _ => true) m := fun m => by
      induction m with
      | zero => exact fun _ => rfl
      | succ m ih =>
        intro hm
        show su _ _ m + (if m < n then t m else 0) = su t _ m + t m
        rw [ih (by omega), if_pos (by omega)]
    exact this n (Nat.le_refl _)
  obtain ⟨z2, b1, b2, b3, b4⟩ := bk_loop hB t1 t4 t5 T 0 FU (zI z1 68 21 0) (by omega) (FU_8 (by omega)) hL2 hR2 (by simp only [rI, and_self, if_true]; exact n_0)
  rw [e0] at b1
  refine ⟨z2, ?_, by rw [b2, t3], (Fr.mono a4 (fun a h => Or.inl h)).trans ((Fr.refl.zI (Or.inr rfl)).trans b3), fun k hk => ?_⟩
  · unfold f_X11_breakingly f_X11_breakingly_0
    rw [← t2]
    exact a1.trans b1
  · rw [b4 k hk, rI, if_neg (fun e => hk e.2), (a4 68 (by decide)).1]
end BEND
