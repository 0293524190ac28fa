/-! BREAKING: the class's run -/
noncomputable def bi (c t q : Nat → Int) (n : Nat) : Nat → Br
  | 0 => br0 t n
  | k + 1 => if (bi c t q n k).2.1 = 2 ^ n - 1 then bi c t q n k else brS c t q n (bi c t q n k)
theorem cb_all {p : Nat → Bool} : ∀ n, cb p n = n → ∀ i, i < n → p i = true
  | 0, _, i, h => absurd h (Nat.not_lt_zero _)
  | n + 1, h, i, hi => by
    have h : cb p n + (if p n = true then 1 else 0) = n + 1 := h
    have hl := cb_le p n
    cases hp : p n
    · rw [hp, if_neg (by decide)] at h
      omega
    · rw [hp, if_pos rfl] at h
      by_cases e : i = n
      · rw [e, hp]
      · exact cb_all n (by omega) i (by omega)
theorem all_eq {n s : Nat} (h : s < 2 ^ n) (hc : ¬ cb (Nat.testBit s) n < n) : s = 2 ^ n - 1 := by
  have hl := cb_le (Nat.testBit s) n
  have ha := cb_all (p := Nat.testBit s) n (by omega)
  refine Nat.eq_of_testBit_eq (fun i => ?_)
  rw [Nat.testBit_two_pow_sub_one]
  by_cases w : i < n
  · rw [ha i w, decide_eq_true w]
  · rw [decide_eq_false w]
    cases hb : Nat.testBit s i
    · rfl
    · exact absurd (tb_lt h hb) w
theorem BW_0 {c t q : Nat → Int} {n : Nat} (hB : BD n c t q) : BW n t (br0 t n) := by
  refine ⟨Nat.two_pow_pos n, fun j hj => ?_, ⟨Int.le_refl _, ?_⟩, ⟨Int.le_refl _, by show (0 : Int) ≤ 2000; decide⟩, ⟨Int.le_refl _, by show (0 : Int) ≤ 100; decide⟩⟩
  · show 0 ≤ (if j < n then t j else 0) ∧ (if j < n then t j else 0) ≤ t j ∧ ((if j < n then t j else 0) = 0 ↔ Nat.testBit 0 j = true)
    have b := hB j hj
    rw [if_pos hj, Nat.zero_testBit]
    exact ⟨by omega, Int.le_refl _, fun h => by omega, fun h => absurd h (by decide)⟩
  · show (0 : Int) + su (fun j => if j < n then t j else 0) (fun _ => true) n ≤ 900 + su t (fun _ => true) n
    have : ∀ m, m ≤ n → su (fun j => if j < n then t j else 0) (fun _ => true) m = su t (fun _ => true) m := fun m => by
      induction m with
      | zero => exact fun _ => rfl
      | succ m ih =>
        intro hm
        show su _ _ m + (if m < n then t m else 0) = su t _ m + t m
        rw [ih (by omega), if_pos (by omega)]
    rw [this n (Nat.le_refl _)]
    omega
theorem brS_b {c t q : Nat → Int} {n : Nat} {x : Br} : (brS c t q n x).2.2.2.2 ≤ x.2.2.2.2 + 1 := by
  unfold brS
  split
  · show x.2.2.2.2 ≤ _
    omega
  · exact Int.le_refl _
theorem bi_inv {c t q : Nat → Int} {n : Nat} (hB : BD n c t q) (hn : n ≤ 8) : ∀ k : Nat, k ≤ 99 → BW n t (bi c t q n k) ∧ (bi c t q n k).2.2.2.2 ≤ k
  | 0, _ => ⟨BW_0 hB, Int.le_refl _⟩
  | k + 1, hk => by
    obtain ⟨h1, h2⟩ := bi_inv hB hn k (by omega)
    unfold bi
    split
    · exact ⟨h1, by omega⟩
    · rename_i w
      have hc : cb (Nat.testBit (bi c t q n k).2.1) n < n := by
        rcases Nat.lt_or_ge (cb (Nat.testBit (bi c t q n k).2.1) n) n with g | g
        · exact g
        · exact absurd (all_eq h1.1 (by omega)) w
      have b := brS_b (c := c) (t := t) (q := q) (n := n) (x := bi c t q n k)
      exact ⟨BW_S hB hn h1 hc (by omega), by omega⟩
def own1 (o a : Nat) : Prop := a = o ∨ a = rf o 0
def BP (z : St) (o : Nat) (x : Br) : Prop := (∀ j, j < 8 → z.1 (rf o 0) j = iv (x.1 j)) ∧ z.1 o 1 = iv x.2.2.2.1 ∧ z.1 o 2 = iv x.2.2.2.2
theorem own1_n : ∀ o, o < KN → kd o = 1 → rf o 0 = o + 1 ∧ (o = 38 ∨ o = 46) := by decide +kernel
theorem own1_dis {o u a : Nat} (ho : kd o = 1) (hu : kd u = 4) (h : own u a) : ¬ own1 o a := by
  intro h2
  have r1 := own_rng (Or.inr hu) h
  have r3 := own1_n o (kd_lt ho (by decide)) ho
  have r4 := kd4_in u (kd_lt hu (by decide)) hu
  unfold own1 at h2
  omega
section BRUN
variable {z : St} {o u n : Nat} {c t q : Nat → Int}
theorem ru_step (ho : kd o = 1) (hu : kd u = 4) (hL : LD z u n c t q) (hB : BD n c t q) {x : Br} (hW : BW n t x) (hP : BP z o x) (hne : x.2.1 ≠ 2 ^ n - 1) (hb : x.2.2.2.2 < 100) {r : Nat} (hr : r < 16) (K : St → Nat → Nat → Int32 → Int32 → Int32 → Option St) : ∃ z', f_X1_run_52 K z o u (iv (x.2.1 : Int)) (iv x.2.2.1) (iv (r : Int)) = K z' o u (iv ((brS c t q n x).2.1 : Int)) (iv (brS c t q n x).2.2.1) (iv ((r + 1 : Nat) : Int)) ∧ BP z' o (brS c t q n x) ∧ Fr (own1 o) z z' := by
  have h8 := hL.2.1
  have hc : cb (Nat.testBit x.2.1) n < n := by
    rcases Nat.lt_or_ge (cb (Nat.testBit x.2.1) n) n with g | g
    · exact g
    · exact absurd (all_eq hW.1 (by omega)) hne
  obtain ⟨g1, g2, g3, g4, g5, g6, g7, g8⟩ := br_next hB hW hc
  obtain ⟨u1, u2⟩ := br_u hB hW hc
  have s200 := su_200 hB h8
  obtain ⟨w1, w2, w3, w4, w5⟩ := hW
  have sx := su_le (f := x.1) (j := brJ c t q n x) n (fun i hi => (w2 i hi).1) g2
  have hq := hB _ g2
  have sH : sm (brH c n x) := ⟨by omega, by omega⟩
  have sh : sm x.2.2.1 := ⟨by omega, by omega⟩
  have m256 := lt_256 h8 w1
  have p256 : 2 ^ n - 1 < 256 := by
    have := Nat.pow_le_pow_right (show 0 < 2 by decide) h8
    have : 2 ^ n ≤ 2 ^ 8 := this
    omega
  have hfr := own1_n o (kd_lt ho (by decide)) ho
  have d0 : o ≠ rf o 0 := by omega
  unfold f_X1_run_52
  rw [ev_of hL, Option.bind_some]
  rw [if_neg (fun e => hne (by have := (iv_eq (sm_k (by omega)) (sm_k (by omega))).mp e; omega))]
  unfold f_X1_run_60
  rw [hs_of hL hB m256 sh, Option.bind_some]
  show ∃ z', ((f_X4_nextToBegin z u _ (iv (brH c n x))).bind _) = _ ∧ _
  rw [nb_of hL hB m256 sH, Option.bind_some]
  show ∃ z', (if iv (nb c t q x.2.1 (brH c n x) n) < 0 then _ else f_X1_run_80 K z o u _ (iv (brH c n x)) _ (iv (nb c t q x.2.1 (brH c n x) n))) = _ ∧ _
  rw [g1]
  have sj : sm (brJ c t q n x : Int) := sm_k (by omega)
  rw [if_neg (fun e => by have := (iv_lt0 sj).mp e; omega)]
  unfold f_X1_run_80
  rw [if_pos ((iv_lt8 sj).mpr (by omega))]
  have ji : inb (iv (brJ c t q n x : Int)) 8 = true := inb_k (by omega) (by omega)
  have jk : (iv (brJ c t q n x : Int)).toNatClampNeg = brJ c t q n x := iv_natN (by omega)
  have eR := hP.1 (brJ c t q n x) (by omega)
  unfold f_X1_run_91
  rw [if_pos ji, jk, eR, iv_add, hl_of hL hB g2 sH ⟨by omega, by omega⟩, Option.bind_some]
  have eu : hl c q (brH c n x) (q (brJ c t q n x)) (brH c n x + x.1 (brJ c t q n x)) n = brU c t q n x := rfl
  have bo := bit_or x.2.1 m256 (brJ c t q n x) (by omega)
  have hL' : LD (zI z (rf o 0) (brJ c t q n x) (iv (x.1 (brJ c t q n x) - (brU c t q n x - brH c n x)))) u n c t q := LD_fr hL (fun a ha => zI_n (fun e => own1_dis ho hu ha (Or.inr e)))
  rw [eu]
  simp only [ji, if_true, eR, iv_sub, rI, and_self]
  have sv : sm (x.1 (brJ c t q n x) - (brU c t q n x - brH c n x)) := ⟨by omega, by omega⟩
  have il : (iv (x.1 (brJ c t q n x) - (brU c t q n x - brH c n x)) ≤ 0) ↔ x.1 (brJ c t q n x) - (brU c t q n x - brH c n x) ≤ 0 := by
    rw [n_0]
    exact iv_le sv (by constructor <;> decide)
  have oo : own1 o o := Or.inl rfl
  have or : own1 o (rf o 0) := Or.inr rfl
  by_cases w : x.1 (brJ c t q n x) - (brU c t q n x - brH c n x) ≤ 0
  · rw [if_pos (il.mpr w)]
    have eS : brS c t q n x = (up x.1 (brJ c t q n x) (x.1 (brJ c t q n x) - (brU c t q n x - brH c n x)), x.2.1 ||| (1 <<< brJ c t q n x), brU c t q n x, max x.2.2.2.1 (brU c t q n x + q (brJ c t q n x)), x.2.2.2.2) := if_pos w
    rw [eS]
    unfold f_X1_run_149 f_X1_run_175
    rw [cools_of hL' sj, Option.bind_some, rd_in g2]
    simp only [rI, d0, false_and, if_false, hP.2.1, iv_add, bo, iv_s]
    rw [iv_max ⟨by omega, by omega⟩ ⟨by omega, by omega⟩]
    refine ⟨_, rfl, ⟨fun j hj => ?_, ?_, ?_⟩, (Fr.refl.zI or).zI oo⟩
    · simp only [rI, Ne.symm d0, false_and, if_false, true_and]
      unfold up
      by_cases e : j = brJ c t q n x
      · rw [if_pos e, if_pos e]
      · rw [if_neg e, if_neg e]
        exact hP.1 j hj
    · simp only [rI, and_self, if_true]
    · simp only [rI, d0, false_and, if_false, Nat.reduceEqDiff, and_false, hP.2.2]
  · rw [if_neg (fun e => w (il.mp e))]
    have eS : brS c t q n x = (up x.1 (brJ c t q n x) (x.1 (brJ c t q n x) - (brU c t q n x - brH c n x)), x.2.1, brU c t q n x, x.2.2.2.1, x.2.2.2.2 + 1) := if_neg w
    rw [eS]
    unfold f_X1_run_136 f_X1_run_175
    simp only [rI, d0, false_and, if_false, hP.2.2, iv_s]
    rw [show iv x.2.2.2.2 + 1 = iv (x.2.2.2.2 + 1) by rw [n_1, iv_add]]
    refine ⟨_, rfl, ⟨fun j hj => ?_, ?_, ?_⟩, (Fr.refl.zI or).zI oo⟩
    · simp only [rI, Ne.symm d0, false_and, if_false, true_and]
      unfold up
      by_cases e : j = brJ c t q n x
      · rw [if_pos e, if_pos e]
      · rw [if_neg e, if_neg e]
        exact hP.1 j hj
    · simp only [rI, d0, false_and, if_false, Nat.reduceEqDiff, and_false, hP.2.1]
    · simp only [rI, and_self, if_true]
theorem ru_loop (ho : kd o = 1) (hu : kd u = 4) (hB : BD n c t q) : ∀ (d k F : Nat) (z : St), k + d = 16 → d < F → LD z u n c t q → BP z o (bi c t q n k) → ∃ z', f_X1_run_45 F z o u (iv ((bi c t q n k).2.1 : Int)) (iv (bi c t q n k).2.2.1) (iv (k : Int)) = some z' ∧ BP z' o (bi c t q n 16) ∧ Fr (own1 o) z z'
  | _, _, 0, _, _, h, _, _ => absurd h (Nat.not_lt_zero _)
  | 0, k, F + 1, z, e, _, hL, hP => by
    have e : k = 16 := e
    subst e
    refine ⟨z, ?_, hP, Fr.refl⟩
    rw [f_X1_run_45, if_pos (by show (16 : Int32) ≤ iv ((16 : Nat) : Int); decide)]
    rfl
  | d + 1, k, F + 1, z, e, hF, hL, hP => by
    have h8 := hL.2.1
    have hi := bi_inv hB h8 k (by omega)
    have h16 : ¬ (16 : Int32) ≤ iv (k : Int) := fun w => by
      have := (iv_le (x := 16) (y := (k : Int)) (by constructor <;> decide) (sm_k (by omega))).mp w
      omega
    rw [f_X1_run_45, if_neg h16]
    by_cases w : (bi c t q n k).2.1 = 2 ^ n - 1
    · have st : ∀ m, bi c t q n (k + m) = bi c t q n k := fun m => by
        induction m with
        | zero => rfl
        | succ m ih =>
          show (if (bi c t q n (k + m)).2.1 = 2 ^ n - 1 then _ else _) = _
          rw [ih, if_pos w]
          exact ih
      have e16 : bi c t q n 16 = bi c t q n k := by
        have := st (d + 1)
        rw [e] at this
        exact this
      refine ⟨z, ?_, by rw [e16]; exact hP, Fr.refl⟩
      unfold f_X1_run_52
      rw [ev_of hL, Option.bind_some, w, if_pos rfl]
      rfl
    · obtain ⟨z', r1, r2, r3⟩ := ru_step ho hu hL hB hi.1 hP w (by omega) (r := k) (by omega) (f_X1_run_45 F)
      have es : bi c t q n (k + 1) = brS c t q n (bi c t q n k) := if_neg w
      rw [r1, ← es]
      rw [← es] at r2
      obtain ⟨z'', s1, s2, s3⟩ := ru_loop ho hu hB d (k + 1) F z' (by omega) (by omega) (LD_fr hL (fun a ha => (r3 a (own1_dis ho hu ha)).1)) r2
      exact ⟨z'', s1, s2, r3.trans s3⟩
theorem ru_init (ho : kd o = 1) (hu : kd u = 4) : ∀ (d k F : Nat) (z : St), k + d = 8 → d < F → LD z u n c t q → (∀ j, j < k → z.1 (rf o 0) j = iv ((br0 t n).1 j)) → z.1 o 1 = iv 0 → z.1 o 2 = iv 0 → ∃ z', f_X1_run_12 F z o u (iv (k : Int)) = f_X1_run_38 z' o u ∧ BP z' o (br0 t n) ∧ Fr (own1 o) z z' ∧ LD z' u n c t q
  | _, _, 0, _, _, h, _, _, _, _ => absurd h (Nat.not_lt_zero _)
  | 0, k, F + 1, z, e, _, hL, hR, h1, h2 => by
    have e : k = 8 := e
    subst e
    refine ⟨z, ?_, ⟨hR, h1, h2⟩, Fr.refl, hL⟩
    rw [f_X1_run_12, if_pos (by show (8 : Int32) ≤ iv ((8 : Nat) : Int); decide)]
  | d + 1, k, F + 1, z, e, hF, hL, hR, h1, h2 => by
    have hfr := own1_n o (kd_lt ho (by decide)) ho
    have d0 : o ≠ rf o 0 := by omega
    have sk : sm (k : Int) := sm_k (by omega)
    have kk : (iv (k : Int)).toNatClampNeg = k := iv_natN (by omega)
    rw [f_X1_run_12, if_neg (fun w => by have := (iv_8le sk).mp w; omega)]
    unfold f_X1_run_21
    rw [takes_of hL sk, Option.bind_some, if_pos (inb_k (by omega) (by omega)), kk, iv_s]
    have hr : rd t n (k : Int) = (br0 t n).1 k := by
      show rd t n (k : Int) = if k < n then t k else 0
      unfold rd
      by_cases w : k < n
      · rw [if_pos w, if_pos ⟨by omega, by omega⟩]
        rfl
      · rw [if_neg w, if_neg (by omega)]
    have hL' : LD (zI z (rf o 0) k (iv (rd t n (k : Int)))) u n c t q := LD_fr hL (fun a ha => zI_n (fun e => own1_dis ho hu ha (Or.inr e)))
    obtain ⟨z', s1, s2, s3, s4⟩ := ru_init ho hu d (k + 1) F (zI z (rf o 0) k (iv (rd t n (k : Int)))) (by omega) (by omega) hL' (fun j hj => by
      rw [rI]
      by_cases w : j = k
      · rw [if_pos ⟨rfl, w⟩, w, hr]
      · rw [if_neg (fun x => w x.2)]
        exact hR j (by omega)) (by rw [zI_n d0]; exact h1) (by rw [zI_n d0]; exact h2)
    exact ⟨z', s1, s2, (Fr.refl.zI (Or.inr rfl)).trans s3, s4⟩
theorem ru_of (ho : kd o = 1) (hu : kd u = 4) (hL : LD z u n c t q) (hB : BD n c t q) : ∃ z', f_X1_run z o u = some z' ∧ z'.1 o 1 = iv (bi c t q n 16).2.2.2.1 ∧ z'.1 o 2 = iv (bi c t q n 16).2.2.2.2 ∧ Fr (own1 o) z z' := by
  have oo : own1 o o := Or.inl rfl
  have fr0 : Fr (own1 o) z (zI (zI z o 1 0) o 2 0) := (Fr.refl.zI oo).zI oo
  have hL' : LD (zI (zI z o 1 0) o 2 0) u n c t q := LD_fr hL (fun a ha => (fr0 a (own1_dis ho hu ha)).1)
  obtain ⟨z1, a1, a2, a3, a4⟩ := ru_init ho hu 8 0 FU (zI (zI z o 1 0) o 2 0) rfl (FU_8 (by decide)) hL' (fun j hj => absurd hj (Nat.not_lt_zero _)) (by simp only [rI, Nat.reduceEqDiff, and_false, if_false, and_self, if_true]; exact n_0) (by simp only [rI, and_self, if_true]; exact n_0)
  obtain ⟨z2, b1, b2, b3⟩ := ru_loop ho hu hB 16 0 FU z1 rfl (FU_8 (by decide)) a4 a2
  refine ⟨z2, ?_, b2.2.1, b2.2.2, (fr0.trans a3).trans b3⟩
  unfold f_X1_run f_X1_run_0
  exact a1.trans b1
end BRUN
