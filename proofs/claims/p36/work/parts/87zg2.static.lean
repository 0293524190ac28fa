/-! SEARCH: one of those BEHIND was never changed -/
def zA (n : Nat) (t c0 q0 c q : Nat → Int) (D : Nat → Bool) (S : Int) : Prop := ∀ h : Int, S ≤ h → (∀ x, x ≤ h → su t (fun j => D j && (decide (x ≤ c j) && decide (c j ≤ h))) n ≤ h - x) → (∃ d, D d = true ∧ h < c d) → ∃ s, D s = true ∧ h < c s ∧ c s = c0 s ∧ q s = q0 s
section STATIC
variable {n : Nat} {t c0 q0 c q c1 q1 : Nat → Int} {U : Int} {b P b1 P1 : Nat} {F D F1 D1 : Nat → Bool} {S r S1 r1 h k : Int}
theorem zb3 {a : Bool} {x y : Int} {h : Int} : (a && (decide (x ≤ y) && decide (y ≤ h))) = true ↔ a = true ∧ x ≤ y ∧ y ≤ h := by
  rw [Bool.and_eq_true, Bool.and_eq_true, decide_eq_true_eq, decide_eq_true_eq]
theorem za1 {s1 s2 s x S h : Int} (e : s ≤ s1 + s2) (g1 : s1 = 0 ∨ x + s1 ≤ S) (g2 : s2 ≤ h - max x S) (hS : S ≤ h) (hx : x ≤ h) (h2 : s1 = 0 ∨ x ≤ S) : s ≤ h - x := by omega
/-- those of an earlier node's BEHIND who have come by an hour -/
theorem zE (ht : ∀ j, j < n → 1 ≤ t j) (hN : zN n t c q U b P F D S r) (hS : S ≤ h) (hC : ∀ x, x ≤ h → su t (fun j => D j && (decide (x ≤ c j) && decide (c j ≤ h))) n ≤ h - x) (hD : ∀ a, D1 a = true → a < n ∧ (F a = true ∨ D a = true)) {x : Int} (hx : x ≤ h) : su t (fun j => D1 j && (decide (x ≤ c j) && decide (c j ≤ h))) n ≤ h - x := by
  have e := zu_or (t := t) (p := fun j => D1 j && (decide (x ≤ c j) && decide (c j ≤ h))) (p1 := fun j => F j && decide (x ≤ c j)) (p2 := fun j => D j && (decide (max x S ≤ c j) && decide (c j ≤ h))) ht n (Nat.le_refl _) (fun j hj w => by
    have w := zb3.mp w
    rcases (hD j w.1).2 with g | g
    · refine Or.inl ?_
      show (F j && decide (x ≤ c j)) = true
      rw [g, decide_eq_true w.2.1]
      rfl
    · refine Or.inr (zb3.mpr ⟨g, ?_, w.2.2⟩)
      have := (hN.2.1 j g).2.1
      have := hN.1
      omega)
  have g2 := hC (max x S) (by omega)
  have g1 : su t (fun j => F j && decide (x ≤ c j)) n = 0 ∨ (x + su t (fun j => F j && decide (x ≤ c j)) n ≤ S ∧ x ≤ S) := by
    by_cases w : ∃ j, j < n ∧ (F j && decide (x ≤ c j)) = true
    · refine Or.inr ⟨hN.2.2.2.2.1 _ x (fun j hj => ?_) w, ?_⟩
      · rw [Bool.and_eq_true, decide_eq_true_eq] at hj
        exact hj
      · obtain ⟨j, j1, j2⟩ := w
        rw [Bool.and_eq_true, decide_eq_true_eq] at j2
        exact Int.le_trans j2.2 (hN.2.2.2.1 j j2.1)
    · refine Or.inl (zu_no (fun j hj => ?_))
      cases g : (F j && decide (x ≤ c j))
      · rfl
      · exact absurd ⟨j, hj, g⟩ w
  rcases g1 with g1 | g1
  · exact za1 e (Or.inl g1) g2 hS hx (Or.inl g1)
  · exact za1 e (Or.inr g1.1) g2 hS hx (Or.inr g1.2)
/-- one who came later by it: someone of it is as told -/
theorem zR (ht : ∀ j, j < n → 1 ≤ t j) (hN : zN n t c q U b P F D S r) (hV : zN n t c1 q1 U b1 P1 F1 D1 S1 r1) (hI : zA n t c0 q0 c1 q1 D1 S1) (mo : ∀ j, c1 j ≤ c j ∧ q1 j ≤ q j) (hS : S ≤ h) (hC : ∀ x, x ≤ h → su t (fun j => D j && (decide (x ≤ c j) && decide (c j ≤ h))) n ≤ h - x) (hD : ∀ a, D1 a = true → F a = true ∨ D a = true) (hK : ∀ a, D1 a = true → h < c a → c1 a = c a) (hr : h < r1 + su t D1 n) : ∃ s, D1 s = true ∧ h < c s ∧ c1 s = c0 s ∧ q1 s = q0 s := by
  have hD' : ∀ a, D1 a = true → a < n ∧ (F a = true ∨ D a = true) := fun a w => ⟨(hV.2.1 a w).1, hD a w⟩
  obtain ⟨y, y1, y2⟩ := hV.2.2.1
  have ex : ∃ a, D1 a = true ∧ h < c a := by
    by_cases w : ∃ a, D1 a = true ∧ h < c a
    · exact w
    · have al : ∀ a, D1 a = true → c a ≤ h := fun a g => Int.not_lt.mp (fun e => w ⟨a, g, e⟩)
      have hy := al y y1
      have my := (mo y).1
      have e := zE ht hN hS hC hD' (x := r1) (by omega)
      rw [su_cong n (p' := D1) (fun j hj => by
        cases g : D1 j
        · rfl
        · have := (hV.2.1 j g).2.1
          have := (mo j).1
          exact zb3.mpr ⟨rfl, by omega, al j g⟩)] at e
      omega
  by_cases w : S1 ≤ h
  · obtain ⟨s, s1, s2, s3, s4⟩ := hI h w (fun x hx => by
      refine Int.le_trans (zu_mn ht (fun j hj g => ?_)) (zE ht hN hS hC hD' (x := x) hx)
      have g := zb3.mp g
      have := (mo j).1
      refine zb3.mpr ⟨g.1, by omega, ?_⟩
      rcases Int.lt_or_le h (c j) with u | u
      · have := hK j g.1 u
        omega
      · exact u) (by
      obtain ⟨a, a1, a2⟩ := ex
      exact ⟨a, a1, by rw [hK a a1 a2]; exact a2⟩)
    have := (mo s).1
    exact ⟨s, s1, by omega, s3, s4⟩
  · have hr1 := hV.1.2.2.1
    obtain ⟨s, s1, s2, s3, s4⟩ := hI S1 (Int.le_refl _) (fun x hx => by
      rw [zu_no (fun j hj => ?_)]
      · omega
      · cases g : D1 j
        · rfl
        · have := (hV.2.1 j g).2.1
          show (true && (decide (x ≤ c1 j) && decide (c1 j ≤ S1))) = false
          rw [decide_eq_false (show ¬ c1 j ≤ S1 by omega), Bool.and_false, Bool.and_false]) ⟨y, y1, by omega⟩
    have := (mo s).1
    exact ⟨s, s1, by omega, s3, s4⟩
theorem za2 {s1 s2 s x Q k : Int} (e : s ≤ s1 + s2) (g1 : s1 = 0 ∨ (x + s1 < Q ∧ x < Q)) (g2 : s2 ≤ k - max x (Q - 1)) (hS : Q - 1 ≤ k) (hx : x ≤ k) : s ≤ k - x := by omega
theorem zEL (ht : ∀ j, j < n → 1 ≤ t j) (hN : zN n t c q U b P F D S r) (hk : q P - 1 ≤ k) (hC : ∀ x, x ≤ k → su t (fun j => D j && (decide (x ≤ q j) && decide (q j ≤ k))) n ≤ k - x) (hD : ∀ a, D1 a = true → a < n ∧ a ≠ b ∧ F a = false) {x : Int} (hx : x ≤ k) : su t (fun j => D1 j && (decide (x ≤ q j) && decide (q j ≤ k))) n ≤ k - x := by
  have e := zu_or (t := t) (p := fun j => D1 j && (decide (x ≤ q j) && decide (q j ≤ k))) (p1 := fun j => D1 j && (!D j && decide (x ≤ q j))) (p2 := fun j => D j && (decide (max x (q P - 1) ≤ q j) && decide (q j ≤ k))) ht n (Nat.le_refl _) (fun j hj w => by
    have w := zb3.mp w
    cases g : D j
    · refine Or.inl ?_
      show (D1 j && (!false && decide (x ≤ q j))) = true
      rw [w.1, decide_eq_true w.2.1]
      rfl
    · refine Or.inr (zb3.mpr ⟨rfl, ?_, w.2.2⟩)
      have := (hN.2.1 j g).2.2.1
      omega)
  have g2 := hC (max x (q P - 1)) (by omega)
  refine za2 e ?_ g2 hk hx
  by_cases w : ∃ j, j < n ∧ (D1 j && (!D j && decide (x ≤ q j))) = true
  · have hh : ∀ j, (D1 j && (!D j && decide (x ≤ q j))) = true → D1 j = true ∧ D j = false ∧ x ≤ q j := fun j hj => by
      rw [Bool.and_eq_true, Bool.and_eq_true, decide_eq_true_eq] at hj
      exact ⟨hj.1, by simpa using hj.2.1, hj.2.2⟩
    have a := hN.2.2.2.2.2 _ x (fun j hj => by
      have g := hh j hj
      have u := hD j g.1
      exact ⟨u.1, u.2.1, u.2.2, g.2.1, g.2.2⟩) w
    have z := zu_nn (p := fun j => D1 j && (!D j && decide (x ≤ q j))) ht n (Nat.le_refl _)
    exact Or.inr ⟨a, by omega⟩
  · refine Or.inl (zu_no (fun j hj => ?_))
    cases g : (D1 j && (!D j && decide (x ≤ q j)))
    · rfl
    · exact absurd ⟨j, hj, g⟩ w
def zAL (n : Nat) (t c0 q0 c q : Nat → Int) (D : Nat → Bool) (P : Nat) : Prop := ∀ k : Int, q P - 1 ≤ k → (∀ x, x ≤ k → su t (fun j => D j && (decide (x ≤ q j) && decide (q j ≤ k))) n ≤ k - x) → (∃ d, D d = true ∧ k < q d) → ∃ s, D s = true ∧ k < q s ∧ c s = c0 s ∧ q s = q0 s
theorem zLL (ht : ∀ j, j < n → 1 ≤ t j) (hN : zN n t c q U b P F D S r) (hV : zN n t c1 q1 U b1 P1 F1 D1 S1 r1) (hI : zAL n t c0 q0 c1 q1 D1 P1) (mo : ∀ j, c1 j ≤ c j ∧ q1 j ≤ q j) (hk : q P - 1 ≤ k) (hC : ∀ x, x ≤ k → su t (fun j => D j && (decide (x ≤ q j) && decide (q j ≤ k))) n ≤ k - x) (hD : ∀ a, D1 a = true → a ≠ b ∧ F a = false) (hK : ∀ a, D1 a = true → k < q a → q1 a = q a) (hr : k < su t D1 n + q1 P1) : ∃ s, D1 s = true ∧ k < q s ∧ c1 s = c0 s ∧ q1 s = q0 s := by
  have hD' : ∀ a, D1 a = true → a < n ∧ a ≠ b ∧ F a = false := fun a w => ⟨(hV.2.1 a w).1, hD a w⟩
  have y1 := hV.1.2.2.2.2.1
  have ex : ∃ a, D1 a = true ∧ k < q a := by
    by_cases w : ∃ a, D1 a = true ∧ k < q a
    · exact w
    · have al : ∀ a, D1 a = true → q a ≤ k := fun a g => Int.not_lt.mp (fun e => w ⟨a, g, e⟩)
      have hy := al P1 y1
      have my := (mo P1).2
      have e := zEL ht hN hk hC hD' (x := q1 P1) (by omega)
      rw [su_cong n (p' := D1) (fun j hj => by
        cases g : D1 j
        · rfl
        · have := (hV.2.1 j g).2.2.1
          have := (mo j).2
          exact zb3.mpr ⟨rfl, by omega, al j g⟩)] at e
      omega
  by_cases w : q1 P1 - 1 ≤ k
  · obtain ⟨s, s1, s2, s3, s4⟩ := hI k w (fun x hx => by
      refine Int.le_trans (zu_mn ht (fun j hj g => ?_)) (zEL ht hN hk hC hD' (x := x) hx)
      have g := zb3.mp g
      have := (mo j).2
      refine zb3.mpr ⟨g.1, by omega, ?_⟩
      rcases Int.lt_or_le k (q j) with u | u
      · have := hK j g.1 u
        omega
      · exact u) (by
      obtain ⟨a, a1, a2⟩ := ex
      exact ⟨a, a1, by rw [hK a a1 a2]; exact a2⟩)
    have := (mo s).2
    exact ⟨s, s1, by omega, s3, s4⟩
  · obtain ⟨s, s1, s2, s3, s4⟩ := hI (q1 P1 - 1) (Int.le_refl _) (fun x hx => by
      rw [zu_no (fun j hj => ?_)]
      · omega
      · cases g : D1 j
        · rfl
        · have := (hV.2.1 j g).2.2.1
          show (true && (decide (x ≤ q1 j) && decide (q1 j ≤ q1 P1 - 1))) = false
          rw [decide_eq_false (show ¬ q1 j ≤ q1 P1 - 1 by omega), Bool.and_false, Bool.and_false]) ⟨P1, y1, by omega⟩
    have := (mo s).2
    exact ⟨s, s1, by omega, s3, s4⟩
/-- nothing of BEHIND has come by the bar's begin, nothing cools shorter than LAST -/
theorem zC0 (hN : zN n t c q U b P F D S r) : ∀ x, x ≤ S → su t (fun j => D j && (decide (x ≤ c j) && decide (c j ≤ S))) n ≤ S - x := fun x hx => by
  rw [zu_no (fun j hj => ?_)]
  · omega
  · cases g : D j
    · rfl
    · have := (hN.2.1 j g).2.1
      have := hN.1
      show (true && (decide (x ≤ c j) && decide (c j ≤ S))) = false
      rw [decide_eq_false (show ¬ c j ≤ S by omega), Bool.and_false, Bool.and_false]
theorem zC1 (hN : zN n t c q U b P F D S r) : ∀ x, x ≤ q P - 1 → su t (fun j => D j && (decide (x ≤ q j) && decide (q j ≤ q P - 1))) n ≤ q P - 1 - x := fun x hx => by
  rw [zu_no (fun j hj => ?_)]
  · omega
  · cases g : D j
    · rfl
    · have := (hN.2.1 j g).2.2.1
      show (true && (decide (x ≤ q j) && decide (q j ≤ q P - 1))) = false
      rw [decide_eq_false (show ¬ q j ≤ q P - 1 by omega), Bool.and_false, Bool.and_false]
/-- an earlier node's BEHIND, by one of now's BEHIND who came later -/
theorem zFD (ht : ∀ j, j < n → 1 ≤ t j) (hN : zN n t c q U b P F D S r) {a : Nat} (hn : a < n) (hq : q P ≤ q a) : F a = true ∨ D a = true := by
  cases gF : F a
  · cases gD : D a
    · have hb : a ≠ b := fun e => by
        have := hN.1
        rw [e] at hq
        omega
      have := zN_B ht hN hn hb gF gD
      omega
    · exact Or.inr rfl
  · exact Or.inl rfl
theorem zS (ht : ∀ j, j < n → 1 ≤ t j) : ∀ (m k : Nat) (c q : Nat → Int) (b P : Nat) (F D : Nat → Bool) (S r : Int), k ≤ m → zH n t c0 q0 U k c q → zN n t c q U b P F D S r → zA n t c0 q0 c q D S ∧ zAL n t c0 q0 c q D P := by
  intro m
  induction m with
  | zero =>
    intro k c q b P F D S r hk hH hN
    have k0 : k = 0 := by omega
    subst k0
    refine ⟨fun h hS hC ⟨d, d1, d2⟩ => ⟨d, d1, d2, hH.1 d, hH.2 d⟩, fun h hS hC ⟨d, d1, d2⟩ => ⟨d, d1, d2, hH.1 d, hH.2 d⟩⟩
  | succ m ih =>
    intro k c q b P F D S r hk hH hN
    have hPq := hN.1
    refine ⟨fun h hS hC hd => ?_, fun h hS hC hd => ?_⟩
    · by_cases w : ∃ s, D s = true ∧ h < c s ∧ c s = c0 s ∧ q s = q0 s
      · exact w
      · exfalso
        have al : ∀ s, D s = true → h < c s → ¬ (c s = c0 s ∧ q s = q0 s) := fun s a1 a2 a3 => w ⟨s, a1, a2, a3⟩
        rcases zsp ht (fun j => D j = true ∧ h < c j) k c q hH with g | ⟨m2, c1, q1, b1, P1, F1, D1, S1, r1, m1, m3, m4, m5, m6, m7, m8⟩
        · obtain ⟨d, d1, d2⟩ := hd
          exact al d d1 d2 (g d ⟨d1, d2⟩)
        · have hI := ih m2 c1 q1 b1 P1 F1 D1 S1 r1 (by omega) m3 m4
          have hV := m4.1
          have hb1 := hN.2.1 b1 m5.1
          have nb : ∀ a, D1 a = true → a ≠ b1 := fun a ha e => by
            have := (m4.2.1 a ha).2.1
            rw [e] at this
            omega
          rcases m8 with ⟨e1, e2⟩ | ⟨e1, e2⟩
          · have fd : ∀ a, D1 a = true → F a = true ∨ D a = true := fun a ha => by
              have u := m4.2.1 a ha
              have := (m6 a).2
              exact zFD ht hN u.1 (by omega)
            have dl : ∀ a, D1 a = true → h < c a → D a = true := fun a ha hc => by
              rcases fd a ha with g | g
              · have := hN.2.2.2.1 a g
                omega
              · exact g
            obtain ⟨s, s1, s2, s3, s4⟩ := zR (h := h) ht hN m4 hI.1 m6 hS hC fd (fun a ha hc => (m7 a ⟨dl a ha hc, hc⟩ (nb a ha)).1.symm) (by have := m5.2; omega)
            have sd := dl s s1 s2
            have u := m7 s ⟨sd, s2⟩ (nb s s1)
            exact al s sd s2 ⟨by rw [u.1, s3], by rw [u.2, s4]⟩
          · have cr : ∀ a, D1 a = true → h < c a := fun a ha => by
              have u := m4.2.1 a ha
              have := (m6 a).1
              have := m5.2
              omega
            have nF : ∀ a, D1 a = true → a ≠ b ∧ F a = false := fun a ha => by
              have := cr a ha
              refine ⟨fun e => by rw [e] at this; omega, ?_⟩
              cases g : F a
              · rfl
              · have := hN.2.2.2.1 a g
                omega
            have dl : ∀ a, D1 a = true → q P - 1 < q a → D a = true := fun a ha hc => by
              have u := m4.2.1 a ha
              have v := nF a ha
              rcases zFD ht hN u.1 (by omega) with g | g
              · rw [v.2] at g
                exact absurd g (by decide)
              · exact g
            obtain ⟨s, s1, s2, s3, s4⟩ := zLL (k := q P - 1) ht hN m4 hI.2 m6 (Int.le_refl _) (zC1 hN) nF (fun a ha hc => (m7 a ⟨dl a ha hc, cr a ha⟩ (nb a ha)).2.symm) (by omega)
            have sd := dl s s1 s2
            have u := m7 s ⟨sd, cr s s1⟩ (nb s s1)
            exact al s sd (cr s s1) ⟨by rw [u.1, s3], by rw [u.2, s4]⟩
    · by_cases w : ∃ s, D s = true ∧ h < q s ∧ c s = c0 s ∧ q s = q0 s
      · exact w
      · exfalso
        have al : ∀ s, D s = true → h < q s → ¬ (c s = c0 s ∧ q s = q0 s) := fun s a1 a2 a3 => w ⟨s, a1, a2, a3⟩
        rcases zsp ht (fun j => D j = true ∧ h < q j) k c q hH with g | ⟨m2, c1, q1, b1, P1, F1, D1, S1, r1, m1, m3, m4, m5, m6, m7, m8⟩
        · obtain ⟨d, d1, d2⟩ := hd
          exact al d d1 d2 (g d ⟨d1, d2⟩)
        · have hI := ih m2 c1 q1 b1 P1 F1 D1 S1 r1 (by omega) m3 m4
          have hV := m4.1
          have hb1 := hN.2.1 b1 m5.1
          have nb : ∀ a, D1 a = true → a ≠ b1 := fun a ha e => by
            have := (m4.2.1 a ha).2.1
            rw [e] at this
            omega
          rcases m8 with ⟨e1, e2⟩ | ⟨e1, e2⟩
          · have qr : ∀ a, D1 a = true → h < q a := fun a ha => by
              have u := m4.2.1 a ha
              have := (m6 a).2
              have := m5.2
              omega
            have fd : ∀ a, D1 a = true → F a = true ∨ D a = true := fun a ha => by
              have u := m4.2.1 a ha
              have := qr a ha
              exact zFD ht hN u.1 (by omega)
            have dl : ∀ a, D1 a = true → S < c a → D a = true := fun a ha hc => by
              rcases fd a ha with g | g
              · have := hN.2.2.2.1 a g
                omega
              · exact g
            obtain ⟨s, s1, s2, s3, s4⟩ := zR (h := S) ht hN m4 hI.1 m6 (Int.le_refl _) (zC0 hN) fd (fun a ha hc => (m7 a ⟨dl a ha hc, qr a ha⟩ (nb a ha)).1.symm) (by omega)
            have sd := dl s s1 s2
            have u := m7 s ⟨sd, qr s s1⟩ (nb s s1)
            exact al s sd (qr s s1) ⟨by rw [u.1, s3], by rw [u.2, s4]⟩
          · have nF : ∀ a, D1 a = true → a ≠ b ∧ F a = false := fun a ha => by
              have u := m4.2.1 a ha
              have := (m6 a).1
              have cr : S < c a := by omega
              refine ⟨fun e => by rw [e] at cr; omega, ?_⟩
              cases g : F a
              · rfl
              · have := hN.2.2.2.1 a g
                omega
            have dl : ∀ a, D1 a = true → h < q a → D a = true := fun a ha hc => by
              have u := m4.2.1 a ha
              have v := nF a ha
              rcases zFD ht hN u.1 (by omega) with g | g
              · rw [v.2] at g
                exact absurd g (by decide)
              · exact g
            obtain ⟨s, s1, s2, s3, s4⟩ := zLL (k := h) ht hN m4 hI.2 m6 hS hC nF (fun a ha hc => (m7 a ⟨dl a ha hc, hc⟩ (nb a ha)).2.symm) (by have := m5.2; omega)
            have sd := dl s s1 s2
            have u := m7 s ⟨sd, s2⟩ (nb s s1)
            exact al s sd s2 ⟨by rw [u.1, s3], by rw [u.2, s4]⟩
/-- BEHIND holds one who is as told -/
theorem zS1 (ht : ∀ j, j < n → 1 ≤ t j) {m : Nat} (hH : zH n t c0 q0 U m c q) (hN : zN n t c q U b P F D S r) : ∃ s, D s = true ∧ c s = c0 s ∧ q s = q0 s := by
  obtain ⟨y, y1, y2⟩ := hN.2.2.1
  have := hN.1
  obtain ⟨s, s1, s2, s3, s4⟩ := (zS ht m m c q b P F D S r (Nat.le_refl _) hH hN).1 S (Int.le_refl _) (zC0 hN) ⟨y, y1, by omega⟩
  exact ⟨s, s1, s3, s4⟩
/-- .. and one who comes as told, and soon -/
theorem zY (ht : ∀ j, j < n → 1 ≤ t j) {m : Nat} (hH : zH n t c0 q0 U m c q) (hN : zN n t c q U b P F D S r) (hU : ∀ j, j < n → c j + t j + q j < U) : ∃ i, D i = true ∧ c i = c0 i ∧ c i ≤ r + su t D n := by
  obtain ⟨y, y1, y2⟩ := hN.2.2.1
  have hn := hN.1
  have yn := (hN.2.1 y y1).1
  have ty := su_pge (f := t) y1 n (fun i hi => by have := ht i hi; omega) yn
  by_cases w : ∃ i, D i = true ∧ c i + t i ≤ r + t y ∧ c i = c0 i
  · obtain ⟨i, i1, i2, i3⟩ := w
    have ti := ht i (hN.2.1 i i1).1
    exact ⟨i, i1, i3, by omega⟩
  · exfalso
    have al : ∀ i, D i = true → c i + t i ≤ r + t y → c i ≠ c0 i := fun i a1 a2 a3 => w ⟨i, a1, a2, a3⟩
    rcases zspR ht (fun j => D j = true ∧ c j + t j ≤ r + t y) m c q hH with g | ⟨m2, c1, q1, b1, P1, F1, D1, S1, r1, m1, m3, m4, m5, m6, m7, m8⟩
    · exact al y y1 (by omega) (g y ⟨y1, by omega⟩)
    · have hI := zS ht m2 m2 c1 q1 b1 P1 F1 D1 S1 r1 (Nat.le_refl _) m3 m4
      have hV := m4.1
      have hb1 := hN.2.1 b1 m5.1
      have ub := hU b1 hb1.1
      have nb : ∀ a, D1 a = true → a ≠ b1 := fun a ha e => by
        have := (m4.2.1 a ha).2.1
        rw [e] at this
        omega
      have fq : ∀ a, D1 a = true → (F a = true ∨ D a = true) ∧ c a + t a ≤ r + t y := fun a ha => by
        have u := m4.2.1 a ha
        have v := (m6 a).2
        have ua := hU a u.1
        have := m5.2
        exact ⟨zFD ht hN u.1 (by omega), by omega⟩
      have dl : ∀ a, D1 a = true → S < c a → D a = true := fun a ha hc => by
        rcases (fq a ha).1 with g | g
        · have := hN.2.2.2.1 a g
          omega
        · exact g
      obtain ⟨s, s1, s2, s3, s4⟩ := zR (h := S) ht hN m4 hI.1 m6 (Int.le_refl _) (zC0 hN) (fun a ha => (fq a ha).1) (fun a ha hc => (m7 a ⟨dl a ha hc, (fq a ha).2⟩ (nb a ha)).symm) (by omega)
      exact al s (dl s s1 s2) (fq s s1).2 (by rw [m7 s ⟨dl s s1 s2, (fq s s1).2⟩ (nb s s1), s3])
end STATIC
