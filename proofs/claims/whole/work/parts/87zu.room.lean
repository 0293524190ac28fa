/-! ROOM -/
noncomputable def rmB (c t q : Nat → Int) (n : Nat) (lim : Int) (a S : Nat) : Int := min (lim - q a) (tu c t q n lim (((2 ^ n - 1) ^^^ S) ^^^ (1 <<< a)) (((2 ^ n - 1) ^^^ S) ^^^ (1 <<< a))) - t a
noncomputable def rm (c t q : Nat → Int) (n : Nat) (lim : Int) (a : Nat) : Nat → Int
  | 0 => 0
  | k + 1 => if Nat.testBit k a = false ∧ th c t q n lim k k ≤ rmB c t q n lim a k then max (rm c t q n lim a k) (rmB c t q n lim a k - c a) else rm c t q n lim a k
section ROOM
variable {z : St} {n : Nat} {c t q : Nat → Int} {lim : Int} {a : Nat} {sy : Sy}
theorem rm_s {k : Nat} : rm c t q n lim a (k + 1) = if Nat.testBit k a = false ∧ th c t q n lim k k ≤ rmB c t q n lim a k then max (rm c t q n lim a k) (rmB c t q n lim a k - c a) else rm c t q n lim a k := rfl
theorem rm_b (hB : BD n c t q) (hl : 0 ≤ lim ∧ lim ≤ 998) (ha : a < n) : ∀ k, 0 ≤ rm c t q n lim a k ∧ rm c t q n lim a k ≤ 2000
  | 0 => ⟨Int.le_refl _, by show (0 : Int) ≤ 2000; decide⟩
  | k + 1 => by
    have ih := rm_b hB hl ha k
    have b := hB a ha
    have bb : rmB c t q n lim a k ≤ lim := by
      unfold rmB
      omega
    rw [rm_s]
    split <;> constructor <;> omega
theorem rm_ge {m : Int} (h0 : 1 ≤ m) : ∀ k, m ≤ rm c t q n lim a k ↔ ∃ S, S < k ∧ Nat.testBit S a = false ∧ th c t q n lim S S ≤ rmB c t q n lim a S ∧ c a + m ≤ rmB c t q n lim a S
  | 0 => by
    constructor
    · intro w
      have : m ≤ 0 := w
      omega
    · rintro ⟨S, hS, _⟩
      exact absurd hS (Nat.not_lt_zero _)
  | k + 1 => by
    have ih := rm_ge h0 k
    rw [rm_s]
    by_cases g : Nat.testBit k a = false ∧ th c t q n lim k k ≤ rmB c t q n lim a k
    · rw [if_pos g]
      constructor
      · intro w
        by_cases w2 : m ≤ rm c t q n lim a k
        · obtain ⟨S, s1, s2⟩ := ih.mp w2
          exact ⟨S, by omega, s2⟩
        · exact ⟨k, Nat.lt_succ_self k, g.1, g.2, by omega⟩
      · rintro ⟨S, s1, s2, s3, s4⟩
        by_cases e : S = k
        · rw [e] at s4
          omega
        · have := ih.mpr ⟨S, by omega, s2, s3, s4⟩
          omega
    · rw [if_neg g, ih]
      constructor
      · rintro ⟨S, s1, s2⟩
        exact ⟨S, by omega, s2⟩
      · rintro ⟨S, s1, s2, s3, s4⟩
        by_cases e : S = k
        · rw [e] at s2 s3
          exact absurd ⟨s2, s3⟩ g
        · exact ⟨S, by omega, s2, s3, s4⟩
/-- an order in time, one coming later, tells a set ahead of that one -/
theorem ro_iff (hB : BD n c t q) (hn : n ≤ 8) (hl : 0 ≤ lim ∧ lim ≤ 998) (ha : a < n) {m : Int} (h0 : 0 ≤ m) : (∃ l, ord n l ∧ inTm (up c a (c a + m)) t q lim 0 l) ↔ ∃ S, S < 2 ^ n ∧ Nat.testBit S a = false ∧ th c t q n lim S S ≤ rmB c t q n lim a S ∧ c a + m ≤ rmB c t q n lim a S := by
  have ba := hB a ha
  constructor
  · rintro ⟨l, o, l3⟩
    obtain ⟨x1, x2, hs⟩ := List.append_of_mem ((o.2 a).mpr ha)
    have nd := o.1
    rw [hs] at nd l3
    obtain ⟨nd1, nd2, nd3⟩ := List.nodup_append.mp nd
    have nd4 := List.nodup_cons.mp nd2
    obtain ⟨S, hS⟩ : ∃ S, S = mkS x1 := ⟨_, rfl⟩
    have sb : ∀ j, Nat.testBit S j = true ↔ j ∈ x1 := fun j => by rw [hS]; exact mkS_bit x1 j
    have in1 : ∀ j, j ∈ x1 → j < n := fun j hj => (o.2 j).mp (by rw [hs]; exact List.mem_append_left _ hj)
    have ne1 : ∀ j, j ∈ x1 → j ≠ a := fun j hj => nd3 j hj a (List.mem_cons_self ..)
    have ne2 : ∀ j, j ∈ x2 → j ≠ a := fun j hj e => nd4.1 (by rw [← e]; exact hj)
    have Sn : S < 2 ^ n := by
      refine Nat.lt_pow_two_of_testBit S (fun i hi => ?_)
      cases h : Nat.testBit S i
      · rfl
      · have := in1 i ((sb i).mp h)
        omega
    have Sa : Nat.testBit S a = false := by
      cases h : Nat.testBit S a
      · rfl
      · exact absurd rfl (ne1 a ((sb a).mp h))
    have s1 : setl S x1 := ⟨nd1, fun j => (sb j).symm⟩
    have cn : (2 ^ n - 1) ^^^ S < 2 ^ n := xor_lt_all n (by omega) S Sn
    have s2 : setl ((2 ^ n - 1) ^^^ S) (a :: x2) := ⟨nd2, fun j => by
      constructor
      · intro hj
        have jn : j < n := (o.2 j).mp (by rw [hs]; exact List.mem_append_right _ hj)
        rw [cmp_bit jn]
        cases h : Nat.testBit S j
        · rfl
        · exact absurd rfl (nd3 j ((sb j).mp h) j hj)
      · intro hj
        have jn := tb_lt cn hj
        rw [cmp_bit jn] at hj
        have := (o.2 j).mpr jn
        rw [hs] at this
        rcases List.mem_append.mp this with w | w
        · rw [(sb j).mpr w] at hj
          exact absurd hj (by decide)
        · exact w⟩
    obtain ⟨r1, r2⟩ := setl_cons s2
    have rd := xor_dn _ (lt_256 hn cn) a (by omega) r1
    obtain ⟨g1, g2⟩ := (inTm_app _ _ _).mp l3
    have g1 : inTm c t q lim 0 x1 := inTm_cong x1 0 (fun j hj => up_ne (ne1 j hj)) (fun j _ => rfl) g1
    have eH : enT (up c a (c a + m)) t 0 x1 = enT c t 0 x1 := enT_cong x1 0 (fun j hj => up_ne (ne1 j hj))
    rw [eH] at g2
    obtain ⟨g3, g4⟩ : max (enT c t 0 x1) (up c a (c a + m) a) + t a + q a ≤ lim ∧ inTm (up c a (c a + m)) t q lim (max (enT c t 0 x1) (up c a (c a + m) a) + t a) x2 := g2
    rw [up_eq] at g3 g4
    have g4 : inTm c t q lim (max (enT c t 0 x1) (c a + m) + t a) x2 := inTm_cong x2 _ (fun j hj => up_ne (ne2 j hj)) (fun j _ => rfl) g4
    have t1 := (th_ok hB hn (by omega) Sn).1 x1 s1 g1
    have t2 := (tu_ok (b := 100000) hB hn (by omega) (show ((2 ^ n - 1) ^^^ S) ^^^ (1 <<< a) < 2 ^ n by omega) (h := max (enT c t 0 x1) (c a + m) + t a) (by omega) (by omega)).mp ⟨_, r2, g4⟩
    refine ⟨S, Sn, Sa, ?_, ?_⟩
    · unfold rmB
      rw [tu_tuB]
      omega
    · unfold rmB
      rw [tu_tuB]
      omega
  · rintro ⟨S, Sn, Sa, s3, s4⟩
    have cn : (2 ^ n - 1) ^^^ S < 2 ^ n := xor_lt_all n (by omega) S Sn
    have ca : Nat.testBit ((2 ^ n - 1) ^^^ S) a = true := by
      rw [cmp_bit ha, Sa]
      rfl
    have rd := xor_dn _ (lt_256 hn cn) a (by omega) ca
    obtain ⟨R, hR⟩ : ∃ R, R = ((2 ^ n - 1) ^^^ S) ^^^ (1 <<< a) := ⟨_, rfl⟩
    have hb0 := th_b (lim := lim) hB S S
    unfold rmB at s3 s4
    rw [← hR] at s3 s4 rd
    have tb := tu_b (lim := lim) hB R R
    obtain ⟨l1, a1, a2, a3⟩ := (th_ok (c := c) (t := t) (q := q) (lim := lim) hB hn (by omega) Sn).2 (by omega)
    rw [tu_tuB] at s3 s4 tb
    have Rn : R < 2 ^ n := by omega
    obtain ⟨l2, b1, b2⟩ := (tu_ok (c := c) (t := t) (q := q) (lim := lim) (b := 100000) hB hn (by omega) Rn (h := max (th c t q n lim S S) (c a + m) + t a) (by omega) (by omega)).mpr (by omega)
    have st2 : setl ((2 ^ n - 1) ^^^ S) (a :: l2) := setl_add ca (by rw [← hR]; exact b1)
    have ne1 : ∀ j, j ∈ l1 → j ≠ a := fun j hj e => by
      rw [e] at hj
      rw [(a1.2 a).mp hj] at Sa
      exact absurd Sa (by decide)
    have ne2 : ∀ j, j ∈ l2 → j ≠ a := fun j hj e => (List.nodup_cons.mp st2.1).1 (by rw [← e]; exact hj)
    have o : ord n (l1 ++ a :: l2) := setl_ord.mp ⟨List.nodup_append.mpr ⟨a1.1, st2.1, fun x hx y hy e => by
      rw [← e] at hy
      have h1 := (a1.2 x).mp hx
      have h2 := (st2.2 x).mp hy
      have xn := tb_lt Sn h1
      rw [cmp_bit xn, h1] at h2
      exact absurd h2 (by decide)⟩, fun j => by
      rw [List.mem_append, a1.2 j, st2.2 j, Nat.testBit_two_pow_sub_one, decide_eq_true_eq]
      constructor
      · rintro (w | w)
        · exact tb_lt Sn w
        · exact tb_lt cn w
      · intro w
        rw [cmp_bit w]
        cases Nat.testBit S j
        · exact Or.inr rfl
        · exact Or.inl rfl⟩
    refine ⟨_, o, (inTm_app _ _ _).mpr ⟨inTm_cong l1 0 (fun j hj => (up_ne (ne1 j hj)).symm) (fun j _ => rfl) a2, ?_⟩⟩
    rw [← enT_cong (c := c) l1 0 (fun j hj => (up_ne (ne1 j hj)).symm), a3]
    refine ⟨?_, ?_⟩
    · rw [up_eq]
      omega
    · rw [up_eq]
      exact inTm_cong l2 _ (fun j hj => (up_ne (ne2 j hj)).symm) (fun j _ => rfl) b2
theorem ro_of (hL : LD z 21 n c t q) (hB : BD n c t q) (hl : 0 ≤ lim ∧ lim ≤ 998) (hW : WG z n c t q lim) (ha : a < n) : f_X5_roomOf z 52 21 (iv (a : Int)) = some (z, iv (min (rm c t q n lim a (2 ^ n)) 99)) := by
  have hn := hL.2.1
  obtain ⟨p1, p2⟩ := p2_255 hn
  have ba := hB a ha
  obtain ⟨e1, -, -⟩ := ctq_of hL ha
  unfold f_X5_roomOf f_X5_roomOf_0
  refine loop_up (n := 2 ^ n) (fun F k (b : Int) => f_X5_roomOf_5 F z 52 21 (iv (a : Int)) (iv b) (iv (k : Int))) (rm c t q n lim a) (fun F => ?_) (fun F k hk => ?_) (2 ^ n) 0 FU (by omega) (FU_8 (by omega))
  · show f_X5_roomOf_5 _ _ _ _ _ _ _ = _
    have b := rm_b (lim := lim) hB hl ha (2 ^ n)
    rw [f_X5_roomOf_5, hW.1, if_pos ((iv_lt (sm_k (by omega)) (sm_k (by omega))).mpr (by omega))]
    unfold f_X5_roomOf_76
    rw [show (99 : Int32) = iv 99 by decide, iv_min ⟨by omega, by omega⟩ (sm_d 99)]
  · show f_X5_roomOf_5 _ _ _ _ _ _ _ = f_X5_roomOf_5 F z 52 21 (iv (a : Int)) (iv (rm c t q n lim a (k + 1))) (iv ((k + 1 : Nat) : Int))
    have b := rm_b (lim := lim) hB hl ha k
    rw [rm_s]
    generalize rm c t q n lim a k = r at *
    rw [f_X5_roomOf_5, hW.1, if_neg (fun e => by have := (iv_lt (sm_k (by omega)) (sm_k (by omega))).mp e; omega)]
    unfold f_X5_roomOf_14
    by_cases hb : Nat.testBit k a = true
    · rw [if_neg (fun e => by rw [(bit_all k (by omega) a (by omega)).mp e] at hb; exact absurd hb (by decide)), if_neg (fun e => by rw [e.1] at hb; exact absurd hb (by decide))]
      unfold f_X5_roomOf_70
      rw [iv_s]
    · have hb : Nat.testBit k a = false := by cases h : Nat.testBit k a; rfl; exact absurd h hb
      have cn : (2 ^ n - 1) ^^^ k < 2 ^ n := xor_lt_all n (by omega) k hk
      have ca : Nat.testBit ((2 ^ n - 1) ^^^ k) a = true := by
        rw [cmp_bit ha, hb]
        rfl
      have rd := xor_dn _ (lt_256 hn cn) a (by omega) ca
      have tb := tu_b (lim := lim) hB (((2 ^ n - 1) ^^^ k) ^^^ (1 <<< a)) (((2 ^ n - 1) ^^^ k) ^^^ (1 <<< a))
      have hb0 := th_b (lim := lim) hB k k
      have lb := lb_of hL hB (lim := lim) ⟨hl.1, by omega⟩ hW.2.1 ha (r := ((2 ^ n - 1) ^^^ k) ^^^ (1 <<< a)) (by omega) tb (hW.2.2 _ (by omega)).2
      have eB : min (lim - q a) (tu c t q n lim (((2 ^ n - 1) ^^^ k) ^^^ (1 <<< a)) (((2 ^ n - 1) ^^^ k) ^^^ (1 <<< a))) - t a = rmB c t q n lim a k := rfl
      have rb : -2000 ≤ rmB c t q n lim a k ∧ rmB c t q n lim a k ≤ 2000 := by
        rw [← eB]
        omega
      rw [eB] at lb
      rw [if_pos ((bit_all k (by omega) a (by omega)).mpr hb)]
      unfold f_X5_roomOf_23
      rw [hW.1, not_all_bits n (by omega) k hk, bit_clr _ (lt_256 hn cn) a (by omega) ca, lb, Option.bind_some]
      show ((f_X5_throughOf z 52 (iv (k : Int))).bind _) = _
      rw [tho_of (by omega) (hW.2.2 k hk).1, Option.bind_some]
      show (if iv (rmB c t q n lim a k) < iv (th c t q n lim k k) then _ else _) = _
      by_cases g : th c t q n lim k k ≤ rmB c t q n lim a k
      · rw [if_neg (fun e => by have := (iv_lt ⟨by omega, by omega⟩ ⟨by omega, by omega⟩).mp e; omega), if_pos ⟨hb, g⟩]
        unfold f_X5_roomOf_57
        show ((f_X4_comesOf z 21 (iv (a : Int))).bind _) = _
        rw [e1, Option.bind_some]
        unfold f_X5_roomOf_70
        rw [iv_s]
        show f_X5_roomOf_5 F z 52 21 (iv (a : Int)) (imax (iv r) (iv (rmB c t q n lim a k) - iv (c a))) _ = _
        rw [iv_sub, iv_max ⟨by omega, by omega⟩ ⟨by omega, by omega⟩]
      · rw [if_pos ((iv_lt ⟨by omega, by omega⟩ ⟨by omega, by omega⟩).mpr (by omega)), if_neg (fun e => g e.2)]
        unfold f_X5_roomOf_70
        rw [iv_s]
theorem upuu {f : Nat → Int} {j : Nat} {x w : Int} : up (up f j w) j x = up f j x := by
  funext i
  unfold up
  by_cases e : i = j
  · rw [if_pos e, if_pos e]
  · rw [if_neg e, if_neg e, if_neg e]
theorem upid {f : Nat → Int} {j : Nat} : up f j (f j) = f := by
  funext i
  unfold up
  by_cases e : i = j
  · rw [if_pos e, e]
  · rw [if_neg e]
/-- one coming later by so much, all can still be in time -/
def roP (c t q : Nat → Int) (n : Nat) (lim : Int) (a : Nat) (m : Int) : Prop := ∃ l, ord n l ∧ inTm (up c a (c a + m)) t q lim 0 l
theorem roP_fit (hB : BD n c t q) (hn : n ≤ 8) (hl : 0 ≤ lim ∧ lim ≤ 998) (ha : a < n) (hc : c a ≤ 160) {m : Int} (h0 : 0 ≤ m ∧ m ≤ 100) : fitS (up c a (c a + m)) t q n (2 ^ n - 1) lim ↔ roP c t q n lim a m := by
  have ba := hB a ha
  have p := Nat.two_pow_pos n
  rw [fit_ok (BD_upc hB ⟨by omega, by omega⟩) hn hl (by omega)]
  unfold roP
  constructor
  · rintro ⟨l, l1, l2⟩
    exact ⟨l, setl_ord.mp l1, l2⟩
  · rintro ⟨l, l1, l2⟩
    exact ⟨l, setl_ord.mpr l1, l2⟩
theorem rl_loop (hB : BD n c t q) (hl : 0 ≤ lim ∧ lim ≤ 998) (ha : a < n) (hc : c a ≤ 160) : ∀ (d F : Nat) (lo hi w : Int) (z : St), MD z n (up c a w) t q → (hi - lo).toNat ≤ d → d < F → 0 ≤ lo → lo < hi → hi ≤ 100 → roP c t q n lim a lo → (hi = 100 ∨ ¬ roP c t q n lim a hi) → ∃ z' H, f_X11_room_34 F z 68 (iv (a : Int)) (iv lim) (iv (c a)) (iv lo) (iv hi) = some (z', iv H) ∧ (0 ≤ H ∧ H ≤ 99) ∧ roP c t q n lim a H ∧ (H = 99 ∨ ¬ roP c t q n lim a (H + 1)) ∧ Fr (fun a => a = 75 ∨ a = 88) z z'
  | 0, F, lo, hi, w, z, _, h1, _, _, h4, _, _, _ => by omega
  | d + 1, 0, lo, hi, w, z, _, _, h2, _, _, _, _, _ => by omega
  | d + 1, F + 1, lo, hi, w, z, hL, h1, h2, h3, h4, h5, h6, h7 => by
    have h8 := hL.2.1
    have ba := hB a ha
    by_cases g : hi ≤ lo + 1
    · have e : hi = lo + 1 := by omega
      refine ⟨z, lo, ?_, ⟨h3, by omega⟩, h6, ?_, Fr.refl⟩
      · rw [f_X11_room_34, n_1, iv_add, if_pos ((iv_le ⟨by omega, by omega⟩ ⟨by omega, by omega⟩).mpr g)]
        rfl
      · rcases h7 with x | x
        · exact Or.inl (by omega)
        · rw [e] at x
          exact Or.inr x
    · have k1 : 0 ≤ lo + hi ∧ lo + hi < 2147483648 ∧ lo < (lo + hi) / 2 ∧ (lo + hi) / 2 < hi := by omega
      obtain ⟨M, hM⟩ : ∃ M, M = (lo + hi) / 2 := ⟨_, rfl⟩
      have L1 : MD (zI z 75 a (iv (c a + M))) n (up c a (c a + M)) t q := by
        have := MD_upc hL (j := a) (x := c a + M)
        rw [upuu] at this
        exact this
      have B1 : BD n (up c a (c a + M)) t q := BD_upc hB ⟨by omega, by omega⟩
      have p := Nat.two_pow_pos n
      obtain ⟨z1, e1, e2⟩ := ft_of L1 B1 (lim := lim) ⟨hl.1, by omega⟩ (S := 2 ^ n - 1) (by omega)
      have hL1 := MD_88 L1 e2
      have f1 : Fr (fun a => a = 75 ∨ a = 88) z z1 := (Fr.refl.zI (P := fun a => a = 75 ∨ a = 88) (Or.inl rfl)).trans (e2.mono (fun a e => Or.inr e))
      have i1 : inb (iv (a : Int)) 8 = true := inb_k (by omega) (by decide)
      have i2 : (iv (a : Int)).toNatClampNeg = a := iv_natN (by omega)
      rw [f_X11_room_34, n_1, iv_add, if_neg (fun e => g ((iv_le ⟨by omega, by omega⟩ ⟨by omega, by omega⟩).mp e))]
      unfold f_X11_room_43
      rw [if_pos i1, i2, r68_13, n_2, iv_add, iv_div ⟨k1.1, k1.2.1⟩ (by decide), ← hM, iv_add, mal_of L1, Option.bind_some]
      show ∃ z' H, ((f_X11_fits (zI z 75 a (iv (c a + M))) 68 (iv ((2 ^ n - 1 : Nat) : Int)) (iv lim)).bind _) = some (z', iv H) ∧ _
      rw [e1, Option.bind_some]
      have pf := roP_fit (m := M) hB h8 hl ha hc ⟨by omega, by omega⟩
      by_cases x : fitS (up c a (c a + M)) t q n (2 ^ n - 1) lim
      · obtain ⟨z2, H, a1, a2, a3, a4, a5⟩ := rl_loop hB hl ha hc d F M hi (c a + M) z1 hL1 (by omega) (by omega) (by omega) (by omega) h5 (pf.mp x) h7
        refine ⟨z2, H, ?_, a2, a3, a4, f1.trans a5⟩
        show (if @ob (fitS (up c a (c a + M)) t q n (2 ^ n - 1) lim) (Classical.propDecidable _) = 0 then _ else _) = _
        rw [if_neg (fun e => (@ob_c _ (Classical.propDecidable _)).mp e x)]
        exact a1
      · obtain ⟨z2, H, a1, a2, a3, a4, a5⟩ := rl_loop hB hl ha hc d F lo M (c a + M) z1 hL1 (by omega) (by omega) h3 (by omega) (by omega) h6 (Or.inr (fun e => x (pf.mpr e)))
        refine ⟨z2, H, ?_, a2, a3, a4, f1.trans a5⟩
        show (if @ob (fitS (up c a (c a + M)) t q n (2 ^ n - 1) lim) (Classical.propDecidable _) = 0 then _ else _) = _
        rw [if_pos ((@ob_c _ (Classical.propDecidable _)).mpr x)]
        exact a1
theorem s_room (h : INV z sy) (a : Int32) : Both (f_X10_room z 0 a) (fun z => f_X11_room z 68 a) := by
  obtain ⟨k, sk, rfl⟩ := ex_iv a
  have h8 := h.1.1.2.1
  by_cases g : 0 ≤ k ∧ k < sy.1
  · obtain ⟨i, rfl⟩ : ∃ i : Nat, k = i := ⟨k.toNat, by omega⟩
    have hb := BD_I h.2.2.1
    have hB := BD_O h.2.2.1
    have iN : i < sy.1 := by omega
    obtain ⟨s1, s2, -⟩ := SR_ok h8 hb
    obtain ⟨z1, k1, k2, k3, k4, k5, k6⟩ := kl_of h
    obtain ⟨t1, t2, t3⟩ := th_of k2.2.1.1 h.2.2.1
    obtain ⟨z3, l1, l2, l3, l4⟩ := ln_of t2 hb
    obtain ⟨L, hL⟩ : ∃ L, L = (SR (cmO sy.2.1) (tkO sy.2.1) (clO sy.2.1) sy.1).1 := ⟨_, rfl⟩
    unfold LKN at k4
    rw [← hL] at k4 s1 s2 l1
    have W : WG z1 sy.1 (cmO sy.2.1) (tkO sy.2.1) (clO sy.2.1) L := ⟨k4.2.2.2.1, k4.2.2.2.2.1, k4.2.2.2.2.2⟩
    have hl : 0 ≤ L ∧ L ≤ 998 := ⟨s1.1, by omega⟩
    have ro := ro_of k2.1.2.1 hB hl W iN
    have ci := (hb i iN).1.2
    have P0 : roP (cmO sy.2.1) (tkO sy.2.1) (clO sy.2.1) sy.1 L i 0 := by
      unfold roP
      rw [Int.add_zero, upid]
      exact s2
    have l2u : MD z3 sy.1 (up (cmO sy.2.1) i (cmO sy.2.1 i)) (tkO sy.2.1) (clO sy.2.1) := by
      rw [upid]
      exact l2
    obtain ⟨z4, H, q1, q2, q3, q4, q5⟩ := rl_loop hB hl iN ci 1000 FU 0 100 _ z3 l2u (by decide) (FU_8 (by decide)) (Int.le_refl _) (by decide) (Int.le_refl _) P0 (Or.inl rfl)
    have rb := rm_b (lim := L) hB hl iN (2 ^ sy.1)
    have eq : ∀ m, 1 ≤ m → (m ≤ rm (cmO sy.2.1) (tkO sy.2.1) (clO sy.2.1) sy.1 L i (2 ^ sy.1) ↔ roP (cmO sy.2.1) (tkO sy.2.1) (clO sy.2.1) sy.1 L i m) := fun m hm => by
      rw [rm_ge hm]
      unfold roP
      rw [ro_iff hB h8 hl iN (by omega)]
    have eH : min (rm (cmO sy.2.1) (tkO sy.2.1) (clO sy.2.1) sy.1 L i (2 ^ sy.1)) 99 = H := by
      obtain ⟨r, hr⟩ : ∃ r, r = rm (cmO sy.2.1) (tkO sy.2.1) (clO sy.2.1) sy.1 L i (2 ^ sy.1) := ⟨_, rfl⟩
      rw [← hr] at eq rb ⊢
      have a1 : H ≤ r := by
        rcases Int.lt_or_le H 1 with w | w
        · omega
        · exact (eq H w).mpr q3
      rcases q4 with w | w
      · omega
      · have : ¬ H + 1 ≤ r := fun x => w ((eq (H + 1) (by omega)).mp x)
        omega
    rw [eH] at ro
    have fM : Fr (fun a => sM a ∨ a = 68) z1 z4 := ((t3.mono (Q := fun a => sM a ∨ a = 68) (fun a e => Or.inl (by unfold sM; omega))).trans (l3.mono (fun a e => by unfold sM; omega))).trans (q5.mono (fun a e => by unfold sM; omega))
    refine ⟨z1, z4, iv H, ?_, ?_, sy, INV_m k2 fM (fun k hk => by rw [(q5 68 (by decide)).1, l4 k hk, (t3 68 (by decide)).1])⟩
    · unfold f_X10_room f_X10_room_0
      rw [r0_0, ho_of h.1.1.1 h8 sk, Option.bind_some]
      show (if ob (0 ≤ ((i : Nat) : Int) ∧ ((i : Nat) : Int) < (sy.1 : Int)) = 0 then _ else _) = _
      rw [if_neg (fun e => ob_0.mp e g)]
      unfold f_X10_room_14
      show ((f_X10_knowLeast z 0).bind _) = _
      rw [k1, Option.bind_some, r0_11, r0_4, ro, Option.bind_some]
    · show f_X11_room z1 68 (iv ((i : Nat) : Int)) = _
      unfold f_X11_room f_X11_room_0
      rw [ij_of k2.2.1.1 sk, Option.bind_some]
      show (if ob (0 ≤ ((i : Nat) : Int) ∧ ((i : Nat) : Int) < (sy.1 : Int)) = 0 then _ else _) = _
      rw [if_neg (fun e => ob_0.mp e g)]
      unfold f_X11_room_11
      show ((f_X11_thinks z1 68).bind _) = _
      rw [t1, Option.bind_some, l1, Option.bind_some, if_pos (inb_k (by omega) (by decide)), iv_natN (by omega), r68_13, (l2.2.2 i iN).1]
      exact q1
  · refine Both_s h (r := iv (-2)) ?_ ?_
    · unfold f_X10_room f_X10_room_0
      rw [r0_0, ho_of h.1.1.1 h8 sk, Option.bind_some]
      show (if ob (0 ≤ k ∧ k < (sy.1 : Int)) = 0 then _ else _) = _
      rw [if_pos (ob_0.mpr g)]
      rfl
    · show f_X11_room z 68 (iv k) = _
      unfold f_X11_room f_X11_room_0
      rw [ij_of h.2.1.1 sk, Option.bind_some]
      show (if ob (0 ≤ k ∧ k < (sy.1 : Int)) = 0 then _ else _) = _
      rw [if_pos (ob_0.mpr g)]
      rfl
end ROOM
