/-! MUST -/
theorem iv_and (a b : Nat) : iv (a : Int) &&& iv (b : Int) = iv ((a &&& b : Nat) : Int) := by
  apply Int32.toBitVec_inj.mp
  unfold iv
  rw [Int32.toBitVec_and, Int32.toBitVec_ofInt, Int32.toBitVec_ofInt, Int32.toBitVec_ofInt, BitVec.ofInt_natCast, BitVec.ofInt_natCast, BitVec.ofInt_natCast, BitVec.ofNat_and]
def good (a b : Nat) (l : List Nat) : Prop := ∀ l1 l2, l = l1 ++ b :: l2 → a ∈ l1
noncomputable def eaI (c t q : Nat → Int) (lim : Int) (a b : Nat) (f : Nat → Int) (s : Nat) : Nat → Int
  | 0 => 999
  | i + 1 => if (Nat.testBit s i = true ∧ f (s ^^^ (1 <<< i)) ≠ 999 ∧ (i = b → Nat.testBit (s ^^^ (1 <<< i)) a = true)) ∧ max (f (s ^^^ (1 <<< i))) (c i) + t i + q i ≤ lim then min (eaI c t q lim a b f s i) (max (f (s ^^^ (1 <<< i))) (c i) + t i) else eaI c t q lim a b f s i
noncomputable def ea (c t q : Nat → Int) (n : Nat) (lim : Int) (a b : Nat) : Nat → Nat → Int
  | 0 => fun _ => 0
  | s + 1 => up (ea c t q n lim a b s) (s + 1) (eaI c t q lim a b (ea c t q n lim a b s) (s + 1) n)
/-- the bits of a list -/
def mkS : List Nat → Nat
  | [] => 0
  | j :: l => mkS l ||| (1 <<< j)
theorem mkS_bit : ∀ (l : List Nat) (j : Nat), Nat.testBit (mkS l) j = true ↔ j ∈ l
  | [], j => by
    show Nat.testBit 0 j = true ↔ j ∈ ([] : List Nat)
    rw [Nat.zero_testBit]
    simp
  | i :: l, j => by
    show Nat.testBit (mkS l ||| (1 <<< i)) j = true ↔ j ∈ i :: l
    rw [or_bit, Bool.or_eq_true, mkS_bit l j, decide_eq_true_eq, List.mem_cons]
    exact Or.comm
/-- a set can stand ahead of all others -/
def stands (c t q : Nat → Int) (n : Nat) (lim : Int) (S : Nat) : Prop := th c t q n lim S S ≤ tu c t q n lim ((2 ^ n - 1) ^^^ S) ((2 ^ n - 1) ^^^ S)
section MUST
variable {z : St} {n : Nat} {c t q : Nat → Int} {lim : Int} {f : Nat → Int} {s a b : Nat} {sy : Sy}
theorem good_last {l : List Nat} {i : Nat} : good a b (l ++ [i]) ↔ good a b l ∧ (i = b → a ∈ l) := by
  constructor
  · intro h
    refine ⟨fun l1 l2 e => h l1 (l2 ++ [i]) (by rw [e, List.append_assoc]; rfl), fun e => h l [] (by rw [e])⟩
  · rintro ⟨h1, h2⟩ l1 l2 e
    rcases List.eq_nil_or_concat l2 with w | ⟨l3, x, w⟩
    · rw [w] at e
      have := List.append_inj' e rfl
      rw [← this.1]
      exact h2 (List.cons.inj this.2).1
    · rw [w, List.concat_eq_append] at e
      have e2 : l ++ [i] = (l1 ++ b :: l3) ++ [x] := by
        rw [e, List.append_assoc]
        rfl
      have := List.append_inj' e2 rfl
      exact h1 l1 l3 this.1
theorem eaI_s {k : Nat} : eaI c t q lim a b f s (k + 1) = if (Nat.testBit s k = true ∧ f (s ^^^ (1 <<< k)) ≠ 999 ∧ (k = b → Nat.testBit (s ^^^ (1 <<< k)) a = true)) ∧ max (f (s ^^^ (1 <<< k))) (c k) + t k + q k ≤ lim then min (eaI c t q lim a b f s k) (max (f (s ^^^ (1 <<< k))) (c k) + t k) else eaI c t q lim a b f s k := rfl
theorem eaI_b (hB : BD n c t q) (hf : ∀ i, 0 ≤ f i ∧ f i ≤ 999) : ∀ k, k ≤ n → 0 ≤ eaI c t q lim a b f s k ∧ eaI c t q lim a b f s k ≤ 999
  | 0, _ => ⟨by show (0 : Int) ≤ 999; decide, Int.le_refl _⟩
  | k + 1, hk => by
    have ih := eaI_b hB hf k (by omega)
    have b := hB k (by omega)
    have fb := hf (s ^^^ (1 <<< k))
    rw [eaI_s]
    split <;> constructor <;> omega
theorem ea_b (hB : BD n c t q) : ∀ k i, 0 ≤ ea c t q n lim a b k i ∧ ea c t q n lim a b k i ≤ 999
  | 0, _ => ⟨Int.le_refl _, by show (0 : Int) ≤ 999; decide⟩
  | k + 1, i => by
    show 0 ≤ up (ea c t q n lim a b k) (k + 1) (eaI c t q lim a b (ea c t q n lim a b k) (k + 1) n) i ∧ up (ea c t q n lim a b k) (k + 1) (eaI c t q lim a b (ea c t q n lim a b k) (k + 1) n) i ≤ 999
    by_cases e : i = k + 1
    · rw [e, up_eq]
      exact eaI_b hB (ea_b hB k) n (Nat.le_refl _)
    · rw [up_ne e]
      exact ea_b hB k i
theorem ea_st : ∀ k s, s ≤ k → ea c t q n lim a b k s = ea c t q n lim a b s s
  | 0, s, h => by rw [Nat.le_zero.mp h]
  | k + 1, s, h => by
    by_cases e : s = k + 1
    · rw [e]
    · show up (ea c t q n lim a b k) (k + 1) _ s = _
      rw [up_ne e]
      exact ea_st k s (by omega)
theorem eaI_le : ∀ k, (∀ i, i < k → (Nat.testBit s i = true ∧ f (s ^^^ (1 <<< i)) ≠ 999 ∧ (i = b → Nat.testBit (s ^^^ (1 <<< i)) a = true)) → max (f (s ^^^ (1 <<< i))) (c i) + t i + q i ≤ lim → eaI c t q lim a b f s k ≤ max (f (s ^^^ (1 <<< i))) (c i) + t i) ∧ eaI c t q lim a b f s k ≤ 999 ∧ (eaI c t q lim a b f s k = 999 ∨ ∃ i, i < k ∧ (Nat.testBit s i = true ∧ f (s ^^^ (1 <<< i)) ≠ 999 ∧ (i = b → Nat.testBit (s ^^^ (1 <<< i)) a = true)) ∧ max (f (s ^^^ (1 <<< i))) (c i) + t i + q i ≤ lim ∧ eaI c t q lim a b f s k = max (f (s ^^^ (1 <<< i))) (c i) + t i)
  | 0 => ⟨fun i hi => absurd hi (Nat.not_lt_zero _), Int.le_refl _, Or.inl rfl⟩
  | k + 1 => by
    obtain ⟨i1, i2, i3⟩ := eaI_le k
    rw [eaI_s]
    by_cases g : (Nat.testBit s k = true ∧ f (s ^^^ (1 <<< k)) ≠ 999 ∧ (k = b → Nat.testBit (s ^^^ (1 <<< k)) a = true)) ∧ max (f (s ^^^ (1 <<< k))) (c k) + t k + q k ≤ lim
    · rw [if_pos g]
      refine ⟨fun i hi w1 w2 => ?_, by omega, ?_⟩
      · by_cases e : i = k
        · rw [e]
          exact Int.min_le_right _ _
        · have := i1 i (by omega) w1 w2
          omega
      · by_cases w : eaI c t q lim a b f s k ≤ max (f (s ^^^ (1 <<< k))) (c k) + t k
        · rw [Int.min_eq_left w]
          rcases i3 with x | ⟨i, x1, x2⟩
          · exact Or.inl x
          · exact Or.inr ⟨i, by omega, x2⟩
        · rw [Int.min_eq_right (by omega)]
          exact Or.inr ⟨k, Nat.lt_succ_self k, g.1, g.2, rfl⟩
    · rw [if_neg g]
      refine ⟨fun i hi w1 w2 => ?_, i2, ?_⟩
      · by_cases e : i = k
        · rw [e] at w1 w2
          exact absurd ⟨w1, w2⟩ g
        · exact i1 i (by omega) w1 w2
      · rcases i3 with x | ⟨i, x1, x2⟩
        · exact Or.inl x
        · exact Or.inr ⟨i, by omega, x2⟩
/-- a set can be through, one of it ahead of another one -/
theorem ea_mean (hB : BD n c t q) (hn : n ≤ 8) (hl : lim ≤ 998) : ∀ (m S : Nat), S ≤ m → S < 2 ^ n → (∀ l, setl S l → good a b l → inTm c t q lim 0 l → ea c t q n lim a b S S ≤ enT c t 0 l ∧ ea c t q n lim a b S S < 999) ∧ (ea c t q n lim a b S S < 999 → ∃ l, setl S l ∧ good a b l ∧ inTm c t q lim 0 l ∧ enT c t 0 l = ea c t q n lim a b S S)
  | 0, S, hm, hS => by
    rw [Nat.le_zero.mp hm]
    refine ⟨fun l h1 h2 h3 => ?_, fun _ => ⟨[], setl_0, fun l1 l2 e => ?_, trivial, rfl⟩⟩
    · cases l with
      | nil => exact ⟨Int.le_refl _, by show (0 : Int) < 999; decide⟩
      | cons i l =>
        have := (setl_cons h1).1
        rw [Nat.zero_testBit] at this
        exact absurd this (by decide)
    · exact absurd e (by simp)
  | m + 1, S, hm, hS => by
    by_cases e : S ≤ m
    · exact ea_mean hB hn hl m S e hS
    · have e : S = m + 1 := by omega
      have eS : ea c t q n lim a b S S = eaI c t q lim a b (ea c t q n lim a b m) S n := by
        rw [e]
        show up (ea c t q n lim a b m) (m + 1) _ (m + 1) = _
        rw [up_eq]
      rw [eS]
      have sb : ∀ i, i < n → Nat.testBit S i = true → S ^^^ (1 <<< i) < S := fun i hi hb => xor_dn S (lt_256 hn hS) i (by omega) hb
      obtain ⟨a1, a2, a3⟩ := eaI_le (s := S) (c := c) (t := t) (q := q) (lim := lim) (a := a) (b := b) (f := ea c t q n lim a b m) n
      refine ⟨fun l h1 hg h2 => ?_, fun h1 => ?_⟩
      · rcases List.eq_nil_or_concat l with w | ⟨l', i, w⟩
        · rw [w] at h1
          have := setl_nil h1
          omega
        · rw [w, List.concat_eq_append] at h1 h2 hg
          rw [w, List.concat_eq_append]
          obtain ⟨c1, c2⟩ := setl_last.mp h1
          obtain ⟨hg1, hg2⟩ := good_last.mp hg
          have iN := tb_lt hS c1
          have d := sb i iN c1
          have bi := hB i iN
          obtain ⟨g1, g2, -⟩ : inTm c t q lim 0 l' ∧ max (enT c t 0 l') (c i) + t i + q i ≤ lim ∧ True := (inTm_app _ _ _).mp h2
          have ih := (ea_mean hB hn hl m (S ^^^ (1 <<< i)) (by omega) (by omega)).1 l' c2 hg1 g1
          rw [← ea_st m _ (by omega)] at ih
          have := a1 i iN ⟨c1, by omega, fun e => (c2.2 a).mp (hg2 e)⟩ (by omega)
          rw [enT_app]
          refine ⟨?_, by omega⟩
          show _ ≤ max (enT c t 0 l') (c i) + t i
          omega
      · rcases a3 with w | ⟨i, i1, i2, i3, i4⟩
        · omega
        · have d := sb i i1 i2.1
          have bi := hB i i1
          have eb := ea_b (lim := lim) (a := a) (b := b) hB m (S ^^^ (1 <<< i))
          have i5 := i2.2.1
          rw [ea_st m _ (by omega)] at i3 i4 i5 eb
          obtain ⟨l, l1, l2, l3, l4⟩ := (ea_mean hB hn hl m (S ^^^ (1 <<< i)) (by omega) (by omega)).2 (by omega)
          refine ⟨l ++ [i], setl_last.mpr ⟨i2.1, l1⟩, good_last.mpr ⟨l2, fun e => (l1.2 a).mpr (i2.2.2 e)⟩, (inTm_app _ _ _).mpr ⟨l3, ?_, trivial⟩, ?_⟩
          · rw [l4]
            exact i3
          · rw [enT_app, l4, i4]
            rfl
theorem cmp_bit {S j : Nat} (hj : j < n) : Nat.testBit ((2 ^ n - 1) ^^^ S) j = !Nat.testBit S j := by
  rw [Nat.testBit_xor, Nat.testBit_two_pow_sub_one, decide_eq_true hj, Bool.true_xor]
/-- some least order has one ahead of another -/
theorem ma_iff (hB : BD n c t q) (hn : n ≤ 8) (hl : 0 ≤ lim ∧ lim ≤ 998) (ha : a < n) (hb : b < n) : ea c t q n lim a b (2 ^ n - 1) (2 ^ n - 1) < 999 ↔ ∃ S, S < 2 ^ n ∧ Nat.testBit S a = true ∧ Nat.testBit S b = false ∧ stands c t q n lim S := by
  obtain ⟨p1, p2⟩ := p2_255 hn
  obtain ⟨m1, m2⟩ := ea_mean (a := a) (b := b) hB hn hl.2 (2 ^ n - 1) (2 ^ n - 1) (Nat.le_refl _) (by omega)
  constructor
  · intro h
    obtain ⟨l, l1, l2, l3, -⟩ := m2 h
    have o := setl_ord.mp l1
    obtain ⟨x1, x2, hs⟩ := List.append_of_mem ((o.2 b).mpr hb)
    have a1 := l2 x1 x2 hs
    have nd := o.1
    rw [hs] at nd l3
    obtain ⟨nd1, nd2, nd3⟩ := List.nodup_append.mp nd
    -- the set of those ahead
    obtain ⟨S, hS⟩ : ∃ S, S = mkS x1 := ⟨_, rfl⟩
    have sb : ∀ j, Nat.testBit S j = true ↔ j ∈ x1 := fun j => by rw [hS]; exact mkS_bit x1 j
    have in1 : ∀ j, j ∈ x1 → j < n := fun j hj => (o.2 j).mp (by rw [hs]; exact List.mem_append_left _ hj)
    have Sn : S < 2 ^ n := by
      refine Nat.lt_pow_two_of_testBit S (fun i hi => ?_)
      cases h : Nat.testBit S i
      · rfl
      · have := in1 i ((sb i).mp h)
        omega
    have s1 : setl S x1 := ⟨nd1, fun j => (sb j).symm⟩
    have cn : (2 ^ n - 1) ^^^ S < 2 ^ n := xor_lt_all n (by omega) S Sn
    have s2 : setl ((2 ^ n - 1) ^^^ S) (b :: x2) := ⟨nd2, fun j => by
      constructor
      · intro hj
        have jn : j < n := (o.2 j).mp (by rw [hs]; exact List.mem_append_right _ hj)
        rw [cmp_bit jn]
        cases h : Nat.testBit S j
        · rfl
        · exact absurd rfl (nd3 j ((sb j).mp h) j hj)
      · intro hj
        have jn := tb_lt cn hj
        rw [cmp_bit jn] at hj
        have := (o.2 j).mpr jn
        rw [hs] at this
        rcases List.mem_append.mp this with w | w
        · rw [(sb j).mpr w] at hj
          exact absurd hj (by decide)
        · exact w⟩
    obtain ⟨g1, g2⟩ := (inTm_app _ _ _).mp l3
    have t1 := (th_ok hB hn (by omega) Sn).1 x1 s1 g1
    have t0 : ∀ j, j ∈ x1 → 0 ≤ t j := fun j hj => by have := hB j (in1 j hj); omega
    have e0 := enT_ge (c := c) (p := fun _ => true) x1 0 t0
    have e1 := smT_p (p := fun _ => true) x1 t0
    have bb := hB b hb
    have g3 : max (enT c t 0 x1) (c b) + t b + q b ≤ lim := g2.1
    have t2 := (tu_ok (b := 100000) hB hn (by omega) cn (h := enT c t 0 x1) (by omega) (by omega)).mp ⟨_, s2, g2⟩
    refine ⟨S, Sn, (sb a).mpr a1, ?_, ?_⟩
    · cases h : Nat.testBit S b
      · rfl
      · exact absurd rfl (nd3 b ((sb b).mp h) b (List.mem_cons_self ..))
    · unfold stands
      rw [tu_tuB]
      omega
  · rintro ⟨S, Sn, s1, s2, s3⟩
    have cn : (2 ^ n - 1) ^^^ S < 2 ^ n := xor_lt_all n (by omega) S Sn
    have tb := tu_b (lim := lim) hB ((2 ^ n - 1) ^^^ S) ((2 ^ n - 1) ^^^ S)
    have hb0 := th_b (lim := lim) hB S S
    unfold stands at s3
    obtain ⟨l1, a1, a2, a3⟩ := (th_ok (c := c) (t := t) (q := q) (lim := lim) hB hn (by omega) Sn).2 (by omega)
    rw [tu_tuB] at s3
    obtain ⟨l2, b1, b2⟩ := (tu_ok (b := 100000) hB hn (by omega) cn hb0.1 (by rw [tu_tuB] at tb; omega)).mpr s3
    rw [← a3] at b2
    have gd : good a b (l1 ++ l2) := fun x1 x2 e => by
      rcases List.append_eq_append_iff.mp e with ⟨w, w1, w2⟩ | ⟨w, w1, w2⟩
      · rw [w1]
        exact List.mem_append_left _ ((a1.2 a).mpr s1)
      · cases w with
        | nil =>
          rw [List.append_nil] at w1
          rw [← w1]
          exact (a1.2 a).mpr s1
        | cons x w =>
          have e2 := (List.cons.inj w2).1
          have : b ∈ l1 := by
            rw [w1, e2]
            exact List.mem_append_right _ (List.mem_cons_self ..)
          rw [(a1.2 b).mp this] at s2
          exact absurd s2 (by decide)
    have st : setl (2 ^ n - 1) (l1 ++ l2) := ⟨List.nodup_append.mpr ⟨a1.1, b1.1, fun x hx y hy e => by
      rw [← e] at hy
      have h1 := (a1.2 x).mp hx
      have h2 := (b1.2 x).mp hy
      have xn := tb_lt Sn h1
      rw [cmp_bit xn, h1] at h2
      exact absurd h2 (by decide)⟩, fun j => by
      rw [List.mem_append, a1.2 j, b1.2 j, Nat.testBit_two_pow_sub_one, decide_eq_true_eq]
      constructor
      · rintro (w | w)
        · exact tb_lt Sn w
        · exact tb_lt cn w
      · intro w
        rw [cmp_bit w]
        cases Nat.testBit S j
        · exact Or.inr rfl
        · exact Or.inl rfl⟩
    exact (m1 (l1 ++ l2) st gd ((inTm_app _ _ _).mpr ⟨a2, b2⟩)).2
end MUST
