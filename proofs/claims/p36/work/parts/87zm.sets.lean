/-! ORDERS of sets: what the two weights mean -/
theorem xor_bit {s i j : Nat} : Nat.testBit (s ^^^ (1 <<< j)) i = (Nat.testBit s i != decide (i = j)) := by
  rw [Nat.testBit_xor, Nat.one_shiftLeft, Nat.testBit_two_pow]
  by_cases e : i = j
  · rw [decide_eq_true e, decide_eq_true e.symm]
  · rw [decide_eq_false e, decide_eq_false (fun x => e x.symm)]
def setl (S : Nat) (l : List Nat) : Prop := l.Nodup ∧ ∀ j, j ∈ l ↔ Nat.testBit S j = true
noncomputable def tuB (b : Int) (c t q : Nat → Int) (n : Nat) (lim : Int) : Nat → Nat → Int
  | 0 => fun _ => b
  | s + 1 => up (tuB b c t q n lim s) (s + 1) (tuI c t q lim (tuB b c t q n lim s) (s + 1) n)
section SETS
variable {n : Nat} {c t q : Nat → Int} {lim b : Int} {f : Nat → Int}
theorem tu_tuB : ∀ k, tu c t q n lim k = tuB 100000 c t q n lim k
  | 0 => rfl
  | k + 1 => by
    show up (tu c t q n lim k) (k + 1) _ = up (tuB 100000 c t q n lim k) (k + 1) _
    rw [tu_tuB k]
theorem tuB_st : ∀ k s, s ≤ k → tuB b c t q n lim k s = tuB b c t q n lim s s
  | 0, s, h => by rw [Nat.le_zero.mp h]
  | k + 1, s, h => by
    by_cases e : s = k + 1
    · rw [e]
    · show up (tuB b c t q n lim k) (k + 1) _ s = _
      rw [up_ne e]
      exact tuB_st k s (by omega)
theorem setl_0 : setl 0 [] := ⟨List.nodup_nil, fun j => by
  rw [Nat.zero_testBit]
  simp⟩
theorem setl_nil {S : Nat} (h : setl S []) : S = 0 := Nat.eq_of_testBit_eq (fun i => by
  rw [Nat.zero_testBit]
  cases hb : Nat.testBit S i
  · rfl
  · exact absurd ((h.2 i).mpr hb) (List.not_mem_nil))
theorem setl_cons {S i : Nat} {l : List Nat} (h : setl S (i :: l)) : Nat.testBit S i = true ∧ setl (S ^^^ (1 <<< i)) l := by
  have nd := List.nodup_cons.mp h.1
  refine ⟨(h.2 i).mp (List.mem_cons_self ..), nd.2, fun j => ?_⟩
  rw [xor_bit]
  by_cases e : j = i
  · rw [e, (h.2 i).mp (List.mem_cons_self ..)]
    simp [nd.1]
  · have := h.2 j
    rw [List.mem_cons] at this
    rw [decide_eq_false e, Bool.bne_false]
    constructor
    · exact fun w => this.mp (Or.inr w)
    · intro w
      rcases this.mpr w with x | x
      · exact absurd x e
      · exact x
theorem setl_add {S i : Nat} {l : List Nat} (hb : Nat.testBit S i = true) (h : setl (S ^^^ (1 <<< i)) l) : setl S (i :: l) := by
  have ni : i ∉ l := fun w => by
    have := (h.2 i).mp w
    rw [xor_bit, hb] at this
    simp at this
  refine ⟨List.nodup_cons.mpr ⟨ni, h.1⟩, fun j => ?_⟩
  rw [List.mem_cons, h.2 j, xor_bit]
  by_cases e : j = i
  · rw [e, hb]
    simp
  · rw [decide_eq_false e, Bool.bne_false]
    exact ⟨fun w => w.resolve_left e, fun w => Or.inr w⟩
theorem setl_perm {S : Nat} {l m : List Nat} (h : setl S l) (hm : m.Nodup) (he : ∀ j, j ∈ m ↔ j ∈ l) : setl S m := ⟨hm, fun j => (he j).trans (h.2 j)⟩
theorem setl_last {S i : Nat} {l : List Nat} : setl S (l ++ [i]) ↔ Nat.testBit S i = true ∧ setl (S ^^^ (1 <<< i)) l := by
  have e : ∀ j, j ∈ l ++ [i] ↔ j ∈ i :: l := fun j => by
    rw [List.mem_append, List.mem_singleton, List.mem_cons]
    exact Or.comm
  constructor
  · intro h
    have nd := List.nodup_append.mp h.1
    have nc : (i :: l).Nodup := List.nodup_cons.mpr ⟨fun w => nd.2.2 i w i (List.mem_singleton.mpr rfl) rfl, nd.1⟩
    exact setl_cons (setl_perm h nc (fun j => (e j).symm))
  · intro h
    have g := setl_add h.1 h.2
    have nd := List.nodup_cons.mp g.1
    refine setl_perm g (List.nodup_append.mpr ⟨nd.2, by simp, fun a ha b hb w => ?_⟩) e
    rw [List.mem_singleton.mp hb] at w
    rw [w] at ha
    exact nd.1 ha
theorem tuI_ge {S : Nat} {h : Int} (h0 : 0 ≤ h) : ∀ k, h ≤ tuI c t q lim f S k ↔ ∃ i, i < k ∧ Nat.testBit S i = true ∧ c i ≤ min (lim - q i) (f (S ^^^ (1 <<< i))) - t i ∧ h ≤ min (lim - q i) (f (S ^^^ (1 <<< i))) - t i
  | 0 => by
    constructor
    · intro w
      have : h ≤ -1 := w
      omega
    · rintro ⟨i, hi, _⟩
      exact absurd hi (Nat.not_lt_zero _)
  | k + 1 => by
    have ih := tuI_ge (S := S) h0 k
    rw [tuI_s]
    by_cases g : Nat.testBit S k = true ∧ c k ≤ min (lim - q k) (f (S ^^^ (1 <<< k))) - t k
    · rw [if_pos g]
      constructor
      · intro w
        by_cases w2 : h ≤ tuI c t q lim f S k
        · obtain ⟨i, i1, i2⟩ := ih.mp w2
          exact ⟨i, by omega, i2⟩
        · exact ⟨k, Nat.lt_succ_self k, g.1, g.2, by omega⟩
      · rintro ⟨i, i1, i2, i3, i4⟩
        by_cases e : i = k
        · rw [e] at i4
          omega
        · have := ih.mpr ⟨i, by omega, i2, i3, i4⟩
          omega
    · rw [if_neg g, ih]
      constructor
      · rintro ⟨i, i1, i2⟩
        exact ⟨i, by omega, i2⟩
      · rintro ⟨i, i1, i2, i3, i4⟩
        by_cases e : i = k
        · rw [e] at i2 i3
          exact absurd ⟨i2, i3⟩ g
        · exact ⟨i, by omega, i2, i3, i4⟩
theorem nset1 {h ci ti qi lim v : Int} : (max h ci + ti + qi ≤ lim ∧ max h ci + ti ≤ v) ↔ (ci ≤ min (lim - qi) v - ti ∧ h ≤ min (lim - qi) v - ti) := by omega
/-- a set can still be in time from an hour on -/
theorem tu_mean (hB : BD n c t q) (hn : n ≤ 8) (hl : lim ≤ b) : ∀ (m S : Nat), S ≤ m → S < 2 ^ n → ∀ h : Int, 0 ≤ h → h ≤ b → ((∃ l, setl S l ∧ inTm c t q lim h l) ↔ h ≤ tuB b c t q n lim S S)
  | 0, S, hm, hS, h, h0, h1 => by
    rw [Nat.le_zero.mp hm]
    exact ⟨fun _ => h1, fun _ => ⟨[], setl_0, trivial⟩⟩
  | m + 1, S, hm, hS, h, h0, h1 => by
    by_cases e : S ≤ m
    · exact tu_mean hB hn hl m S e hS h h0 h1
    · have e : S = m + 1 := by omega
      have eS : tuB b c t q n lim S S = tuI c t q lim (tuB b c t q n lim m) S n := by
        rw [e]
        show up (tuB b c t q n lim m) (m + 1) _ (m + 1) = _
        rw [up_eq]
      rw [eS, tuI_ge h0]
      have sb : ∀ i, i < n → Nat.testBit S i = true → S ^^^ (1 <<< i) < S := fun i hi hb => xor_dn S (lt_256 hn hS) i (by omega) hb
      constructor
      · rintro ⟨l, l1, l2⟩
        cases l with
        | nil =>
          have := setl_nil l1
          omega
        | cons i l =>
          obtain ⟨c1, c2⟩ := setl_cons l1
          have iN := tb_lt hS c1
          have d := sb i iN c1
          obtain ⟨g1, g2⟩ : max h (c i) + t i + q i ≤ lim ∧ inTm c t q lim (max h (c i) + t i) l := l2
          have bi := hB i iN
          have ih := (tu_mean hB hn hl m (S ^^^ (1 <<< i)) (by omega) (by omega) (max h (c i) + t i) (by omega) (by omega)).mp ⟨l, c2, g2⟩
          rw [← tuB_st m _ (by omega)] at ih
          exact ⟨i, iN, c1, nset1.mp ⟨g1, ih⟩⟩
      · rintro ⟨i, i1, i2, i3⟩
        have d := sb i i1 i2
        have bi := hB i i1
        obtain ⟨g1, g2⟩ := nset1.mpr i3
        rw [tuB_st m _ (by omega)] at g2
        obtain ⟨l, l1, l2⟩ := (tu_mean hB hn hl m (S ^^^ (1 <<< i)) (by omega) (by omega) (max h (c i) + t i) (by omega) (by omega)).mpr g2
        exact ⟨i :: l, setl_add i2 l1, g1, l2⟩
theorem tu_ok (hB : BD n c t q) (hn : n ≤ 8) (hl : lim ≤ b) {S : Nat} (hS : S < 2 ^ n) {h : Int} (h0 : 0 ≤ h) (h1 : h ≤ b) : (∃ l, setl S l ∧ inTm c t q lim h l) ↔ h ≤ tuB b c t q n lim S S := tu_mean hB hn hl S S (Nat.le_refl _) hS h h0 h1
theorem thI_le {S : Nat} : ∀ k, (∀ i, i < k → Nat.testBit S i = true → max (f (S ^^^ (1 <<< i))) (c i) + t i + q i ≤ lim → thI c t q lim f S k ≤ max (f (S ^^^ (1 <<< i))) (c i) + t i) ∧ thI c t q lim f S k ≤ 1000000 ∧ (thI c t q lim f S k = 1000000 ∨ ∃ i, i < k ∧ Nat.testBit S i = true ∧ max (f (S ^^^ (1 <<< i))) (c i) + t i + q i ≤ lim ∧ thI c t q lim f S k = max (f (S ^^^ (1 <<< i))) (c i) + t i)
  | 0 => ⟨fun i hi => absurd hi (Nat.not_lt_zero _), Int.le_refl _, Or.inl rfl⟩
  | k + 1 => by
    obtain ⟨i1, i2, i3⟩ := thI_le (S := S) k
    rw [thI_s]
    by_cases g : Nat.testBit S k = true ∧ max (f (S ^^^ (1 <<< k))) (c k) + t k + q k ≤ lim
    · rw [if_pos g]
      refine ⟨fun i hi w1 w2 => ?_, by omega, ?_⟩
      · by_cases e : i = k
        · rw [e]
          exact Int.min_le_right _ _
        · have := i1 i (by omega) w1 w2
          omega
      · by_cases w : thI c t q lim f S k ≤ max (f (S ^^^ (1 <<< k))) (c k) + t k
        · rw [Int.min_eq_left w]
          rcases i3 with x | ⟨i, x1, x2⟩
          · exact Or.inl x
          · exact Or.inr ⟨i, by omega, x2⟩
        · rw [Int.min_eq_right (by omega)]
          exact Or.inr ⟨k, Nat.lt_succ_self k, g.1, g.2, rfl⟩
    · rw [if_neg g]
      refine ⟨fun i hi w1 w2 => ?_, i2, ?_⟩
      · by_cases e : i = k
        · rw [e] at w1 w2
          exact absurd ⟨w1, w2⟩ g
        · exact i1 i (by omega) w1 w2
      · rcases i3 with x | ⟨i, x1, x2⟩
        · exact Or.inl x
        · exact Or.inr ⟨i, by omega, x2⟩
/-- a set can be through by an hour -/
theorem th_mean (hB : BD n c t q) (hn : n ≤ 8) (hl : lim ≤ 9000) : ∀ (m S : Nat), S ≤ m → S < 2 ^ n → (∀ l, setl S l → inTm c t q lim 0 l → th c t q n lim S S ≤ enT c t 0 l) ∧ (th c t q n lim S S < 1000000 → ∃ l, setl S l ∧ inTm c t q lim 0 l ∧ enT c t 0 l = th c t q n lim S S)
  | 0, S, hm, hS => by
    rw [Nat.le_zero.mp hm]
    refine ⟨fun l h1 h2 => ?_, fun _ => ⟨[], setl_0, trivial, rfl⟩⟩
    cases l with
    | nil => exact Int.le_refl _
    | cons i l =>
      have := (setl_cons h1).1
      rw [Nat.zero_testBit] at this
      exact absurd this (by decide)
  | m + 1, S, hm, hS => by
    by_cases e : S ≤ m
    · exact th_mean hB hn hl m S e hS
    · have e : S = m + 1 := by omega
      have eS : th c t q n lim S S = thI c t q lim (th c t q n lim m) S n := by
        rw [e]
        show up (th c t q n lim m) (m + 1) _ (m + 1) = _
        rw [up_eq]
      rw [eS]
      have sb : ∀ i, i < n → Nat.testBit S i = true → S ^^^ (1 <<< i) < S := fun i hi hb => xor_dn S (lt_256 hn hS) i (by omega) hb
      obtain ⟨a1, a2, a3⟩ := thI_le (S := S) n (c := c) (t := t) (q := q) (lim := lim) (f := th c t q n lim m)
      refine ⟨fun l h1 h2 => ?_, fun h1 => ?_⟩
      · rcases List.eq_nil_or_concat l with w | ⟨l', i, w⟩
        · rw [w] at h1
          have := setl_nil h1
          omega
        · rw [w, List.concat_eq_append] at h1 h2
          rw [w, List.concat_eq_append]
          obtain ⟨c1, c2⟩ := setl_last.mp h1
          have iN := tb_lt hS c1
          have d := sb i iN c1
          obtain ⟨g1, g2, -⟩ : inTm c t q lim 0 l' ∧ max (enT c t 0 l') (c i) + t i + q i ≤ lim ∧ True := (inTm_app _ _ _).mp h2
          have ih := (th_mean hB hn hl m (S ^^^ (1 <<< i)) (by omega) (by omega)).1 l' c2 g1
          rw [← th_st m _ (by omega)] at ih
          have := a1 i iN c1 (by omega)
          rw [enT_app]
          show _ ≤ max (enT c t 0 l') (c i) + t i
          omega
      · rcases a3 with w | ⟨i, i1, i2, i3, i4⟩
        · omega
        · have d := sb i i1 i2
          have bi := hB i i1
          rw [th_st m _ (by omega)] at i3 i4
          obtain ⟨l, l1, l2, l3⟩ := (th_mean hB hn hl m (S ^^^ (1 <<< i)) (by omega) (by omega)).2 (by omega)
          refine ⟨l ++ [i], setl_last.mpr ⟨i2, l1⟩, (inTm_app _ _ _).mpr ⟨l2, ?_, trivial⟩, ?_⟩
          · rw [l3]
            exact i3
          · rw [enT_app, l3, i4]
            rfl
theorem th_ok (hB : BD n c t q) (hn : n ≤ 8) (hl : lim ≤ 9000) {S : Nat} (hS : S < 2 ^ n) : (∀ l, setl S l → inTm c t q lim 0 l → th c t q n lim S S ≤ enT c t 0 l) ∧ (th c t q n lim S S < 1000000 → ∃ l, setl S l ∧ inTm c t q lim 0 l ∧ enT c t 0 l = th c t q n lim S S) := th_mean hB hn hl S S (Nat.le_refl _) hS
theorem setl_ord {l : List Nat} : setl (2 ^ n - 1) l ↔ ord n l := by
  unfold setl ord
  constructor
  · intro h
    exact ⟨h.1, fun j => by rw [h.2 j, Nat.testBit_two_pow_sub_one, decide_eq_true_eq]⟩
  · intro h
    exact ⟨h.1, fun j => by rw [h.2 j, Nat.testBit_two_pow_sub_one, decide_eq_true_eq]⟩
end SETS
