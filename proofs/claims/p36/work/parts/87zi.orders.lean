/-! ORDERS as lists: in time for F from an hour on -/
def inTm (c t q : Nat → Int) (F : Int) : Int → List Nat → Prop
  | _, [] => True
  | h, j :: l => max h (c j) + t j + q j ≤ F ∧ inTm c t q F (max h (c j) + t j) l
def enT (c t : Nat → Int) : Int → List Nat → Int
  | h, [] => h
  | h, j :: l => enT c t (max h (c j) + t j) l
def smT (t : Nat → Int) (p : Nat → Bool) : List Nat → Int
  | [] => 0
  | j :: l => (if p j = true then t j else 0) + smT t p l
/-- an order of all -/
def ord (n : Nat) (l : List Nat) : Prop := l.Nodup ∧ ∀ j, j ∈ l ↔ j < n
section ORDERS
variable {n : Nat} {c t q c' q' : Nat → Int} {F : Int} {p : Nat → Bool} {r0 q0 : Int}
theorem inTm_app : ∀ (l m : List Nat) (h : Int), inTm c t q F h (l ++ m) ↔ inTm c t q F h l ∧ inTm c t q F (enT c t h l) m
  | [], m, h => by
    show inTm c t q F h m ↔ True ∧ inTm c t q F h m
    exact ⟨fun g => ⟨trivial, g⟩, fun g => g.2⟩
  | j :: l, m, h => by
    have ih := inTm_app l m (max h (c j) + t j)
    show (max h (c j) + t j + q j ≤ F ∧ inTm c t q F (max h (c j) + t j) (l ++ m)) ↔ (max h (c j) + t j + q j ≤ F ∧ inTm c t q F (max h (c j) + t j) l) ∧ inTm c t q F (enT c t (max h (c j) + t j) l) m
    rw [ih]
    exact ⟨fun g => ⟨⟨g.1, g.2.1⟩, g.2.2⟩, fun g => ⟨g.1.1, g.1.2, g.2⟩⟩
theorem enT_app : ∀ (l m : List Nat) (h : Int), enT c t h (l ++ m) = enT c t (enT c t h l) m
  | [], m, h => rfl
  | j :: l, m, h => enT_app l m _
theorem smT_app : ∀ (l m : List Nat), smT t p (l ++ m) = smT t p l + smT t p m
  | [], m => by
    show smT t p m = 0 + smT t p m
    omega
  | j :: l, m => by
    have ih := smT_app l m
    show (if p j = true then t j else 0) + smT t p (l ++ m) = (if p j = true then t j else 0) + smT t p l + smT t p m
    omega
theorem inTm_mono : ∀ (l : List Nat) (h h' : Int), h ≤ h' → (∀ j, j ∈ l → c j ≤ c' j) → (∀ j, j ∈ l → q j ≤ q' j) → inTm c' t q' F h' l → inTm c t q F h l
  | [], _, _, _, _, _, _ => trivial
  | j :: l, h, h', hh, hc, hq, g => by
    have a := hc j (List.mem_cons_self ..)
    have b := hq j (List.mem_cons_self ..)
    have g1 : max h' (c' j) + t j + q' j ≤ F := g.1
    refine ⟨by omega, inTm_mono l _ _ ?_ (fun i hi => hc i (List.mem_cons_of_mem _ hi)) (fun i hi => hq i (List.mem_cons_of_mem _ hi)) g.2⟩
    omega
theorem inTm_F {F' : Int} (hF : F ≤ F') : ∀ (l : List Nat) (h : Int), inTm c t q F h l → inTm c t q F' h l
  | [], _, _ => trivial
  | j :: l, h, g => ⟨Int.le_trans g.1 hF, inTm_F hF l _ g.2⟩
theorem enT_ge : ∀ (l : List Nat) (h : Int), (∀ j, j ∈ l → 0 ≤ t j) → h + smT t p l ≤ enT c t h l
  | [], h, _ => by
    show h + 0 ≤ h
    omega
  | j :: l, h, ht => by
    have ih := enT_ge l (max h (c j) + t j) (fun i hi => ht i (List.mem_cons_of_mem _ hi))
    have tj := ht j (List.mem_cons_self ..)
    show h + ((if p j = true then t j else 0) + smT t p l) ≤ enT c t (max h (c j) + t j) l
    split <;> omega
theorem smT_0 : ∀ l : List Nat, (∀ j, j ∈ l → p j = false) → smT t p l = 0
  | [], _ => rfl
  | j :: l, h => by
    show (if p j = true then t j else 0) + smT t p l = 0
    rw [h j (List.mem_cons_self ..), smT_0 l (fun i hi => h i (List.mem_cons_of_mem _ hi))]
    rfl
theorem smT_p : ∀ l : List Nat, (∀ j, j ∈ l → 0 ≤ t j) → 0 ≤ smT t p l
  | [], _ => Int.le_refl _
  | j :: l, h => by
    have a := smT_p l (fun i hi => h i (List.mem_cons_of_mem _ hi))
    have b := h j (List.mem_cons_self ..)
    show 0 ≤ (if p j = true then t j else 0) + smT t p l
    split <;> omega
/-- some of a list: they end no sooner than this -/
theorem inTm_i : ∀ (l : List Nat) (h : Int), (∀ j, j ∈ l → 0 ≤ t j) → (∀ j, j ∈ l → p j = true → q0 ≤ q j) → (∃ j, j ∈ l ∧ p j = true) → inTm c t q F h l → h + smT t p l + q0 ≤ F
  | [], _, _, _, ⟨j, hj, _⟩, _ => absurd hj (List.not_mem_nil)
  | j :: l, h, ht, hq, he, g => by
    have tj := ht j (List.mem_cons_self ..)
    have ht' : ∀ i, i ∈ l → 0 ≤ t i := fun i hi => ht i (List.mem_cons_of_mem _ hi)
    have hq' : ∀ i, i ∈ l → p i = true → q0 ≤ q i := fun i hi => hq i (List.mem_cons_of_mem _ hi)
    have g1 : max h (c j) + t j + q j ≤ F := g.1
    show h + ((if p j = true then t j else 0) + smT t p l) + q0 ≤ F
    by_cases ex : ∃ i, i ∈ l ∧ p i = true
    · have ih := inTm_i l _ ht' hq' ex g.2
      split <;> omega
    · have z0 : smT t p l = 0 := smT_0 l (fun i hi => by
        cases hp : p i
        · rfl
        · exact absurd ⟨i, hi, hp⟩ ex)
      have pj : p j = true := by
        obtain ⟨i, hi, hp⟩ := he
        rcases List.mem_cons.mp hi with e | e
        · rw [← e]
          exact hp
        · exact absurd ⟨i, e, hp⟩ ex
      have := hq j (List.mem_cons_self ..) pj
      rw [if_pos pj, z0]
      omega
theorem enT_r : ∀ (l : List Nat) (h : Int), (∀ j, j ∈ l → 0 ≤ t j) → (∀ j, j ∈ l → p j = true → r0 ≤ c j) → (∃ j, j ∈ l ∧ p j = true) → r0 + smT t p l ≤ enT c t h l
  | [], _, _, _, ⟨j, hj, _⟩ => absurd hj (List.not_mem_nil)
  | j :: l, h, ht, hr, he => by
    have tj := ht j (List.mem_cons_self ..)
    have ht' : ∀ i, i ∈ l → 0 ≤ t i := fun i hi => ht i (List.mem_cons_of_mem _ hi)
    show r0 + ((if p j = true then t j else 0) + smT t p l) ≤ enT c t (max h (c j) + t j) l
    by_cases pj : p j = true
    · have := hr j (List.mem_cons_self ..) pj
      have e := enT_ge (c := c) (p := p) l (max h (c j) + t j) ht'
      rw [if_pos pj]
      omega
    · rw [if_neg pj]
      have ih := enT_r l (max h (c j) + t j) ht' (fun i hi => hr i (List.mem_cons_of_mem _ hi)) (by
        obtain ⟨i, hi, hp⟩ := he
        rcases List.mem_cons.mp hi with e | e
        · rw [e] at hp
          exact absurd hp pj
        · exact ⟨i, e, hp⟩)
      omega
/-- some of a list: they come no sooner either -/
theorem inTm_ii : ∀ (l : List Nat) (h : Int), (∀ j, j ∈ l → 0 ≤ t j) → (∀ j, j ∈ l → p j = true → r0 ≤ c j ∧ q0 ≤ q j) → (∃ j, j ∈ l ∧ p j = true) → inTm c t q F h l → r0 + smT t p l + q0 ≤ F
  | [], _, _, _, ⟨j, hj, _⟩, _ => absurd hj (List.not_mem_nil)
  | j :: l, h, ht, hq, he, g => by
    have tj := ht j (List.mem_cons_self ..)
    have ht' : ∀ i, i ∈ l → 0 ≤ t i := fun i hi => ht i (List.mem_cons_of_mem _ hi)
    have hq' : ∀ i, i ∈ l → p i = true → q0 ≤ q i := fun i hi w => (hq i (List.mem_cons_of_mem _ hi) w).2
    have g1 : max h (c j) + t j + q j ≤ F := g.1
    show r0 + ((if p j = true then t j else 0) + smT t p l) + q0 ≤ F
    by_cases pj : p j = true
    · have hj := hq j (List.mem_cons_self ..) pj
      rw [if_pos pj]
      by_cases ex : ∃ i, i ∈ l ∧ p i = true
      · have ih := inTm_i l _ ht' hq' ex g.2
        omega
      · have z0 : smT t p l = 0 := smT_0 l (fun i hi => by
          cases hp : p i
          · rfl
          · exact absurd ⟨i, hi, hp⟩ ex)
        omega
    · rw [if_neg pj]
      have ih := inTm_ii l _ ht' (fun i hi => hq i (List.mem_cons_of_mem _ hi)) (by
        obtain ⟨i, hi, hp⟩ := he
        rcases List.mem_cons.mp hi with e | e
        · rw [e] at hp
          exact absurd hp pj
        · exact ⟨i, e, hp⟩) g.2
      omega
theorem smT_su : ∀ l : List Nat, l.Nodup → (∀ j, j ∈ l → j < n) → smT t p l = su t (fun j => p j && decide (j ∈ l)) n
  | [], _, _ => by
    have e : su t (fun j => p j && decide (j ∈ ([] : List Nat))) n = 0 := su_zero n (fun i _ hp => by
      simp at hp)
    rw [e]
    rfl
  | j :: l, hd, hl => by
    have hd' := List.nodup_cons.mp hd
    have ih := smT_su l hd'.2 (fun i hi => hl i (List.mem_cons_of_mem _ hi))
    show (if p j = true then t j else 0) + smT t p l = su t (fun i => p i && decide (i ∈ j :: l)) n
    rw [ih]
    by_cases pj : p j = true
    · have e := su_up (t := t) (p := fun i => p i && decide (i ∈ l)) (p' := fun i => p i && decide (i ∈ j :: l)) (j := j) (fun i => by
        show (p i && decide (i ∈ j :: l)) = ((p i && decide (i ∈ l)) || decide (i = j))
        by_cases e : i = j
        · rw [e, pj]
          simp
        · simp [e]) (by
        show (p j && decide (j ∈ l)) = false
        rw [decide_eq_false hd'.1, Bool.and_false]) n (hl j (List.mem_cons_self ..))
      rw [e, if_pos pj]
      omega
    · have e := su_cong (t := t) (p := fun i => p i && decide (i ∈ l)) (p' := fun i => p i && decide (i ∈ j :: l)) n (fun i _ => by
        show (p i && decide (i ∈ l)) = (p i && decide (i ∈ j :: l))
        by_cases e : i = j
        · rw [e]
          cases hp : p j
          · rfl
          · exact absurd hp pj
        · simp [e])
      rw [e, if_neg pj]
      omega
theorem smT_all {l : List Nat} (hl : ord n l) : smT t p l = su t p n := by
  rw [smT_su l hl.1 (fun j hj => (hl.2 j).mp hj)]
  exact su_cong n (fun i hi => by
    show (p i && decide (i ∈ l)) = p i
    rw [decide_eq_true ((hl.2 i).mpr hi), Bool.and_true])
/-- a set's bound holds of each order -/
theorem ord_set (hB : BD n c t q) {l : List Nat} (hl : ord n l) (hr : ∀ j, j < n → p j = true → r0 ≤ c j ∧ q0 ≤ q j) {j0 : Nat} (hj : j0 < n) (hp : p j0 = true) {h : Int} (g : inTm c t q F h l) : r0 + su t p n + q0 ≤ F := by
  rw [← smT_all hl]
  exact inTm_ii l h (fun j hj => by have := hB j ((hl.2 j).mp hj); omega) (fun j hj w => hr j ((hl.2 j).mp hj) w) ⟨j0, (hl.2 j0).mpr hj, hp⟩ g
theorem inTm_cong : ∀ (l : List Nat) (h : Int), (∀ j, j ∈ l → c j = c' j) → (∀ j, j ∈ l → q j = q' j) → inTm c t q F h l → inTm c' t q' F h l
  | [], _, _, _, _ => trivial
  | j :: l, h, hc, hq, g => by
    have a := hc j (List.mem_cons_self ..)
    have b := hq j (List.mem_cons_self ..)
    have g1 : max h (c j) + t j + q j ≤ F := g.1
    have g2 : inTm c t q F (max h (c j) + t j) l := g.2
    rw [a] at g1 g2
    rw [b] at g1
    exact ⟨g1, inTm_cong l _ (fun i hi => hc i (List.mem_cons_of_mem _ hi)) (fun i hi => hq i (List.mem_cons_of_mem _ hi)) g2⟩
theorem enT_cong : ∀ (l : List Nat) (h : Int), (∀ j, j ∈ l → c j = c' j) → enT c t h l = enT c' t h l
  | [], _, _ => rfl
  | j :: l, h, hc => by
    show enT c t (max h (c j) + t j) l = enT c' t (max h (c' j) + t j) l
    rw [hc j (List.mem_cons_self ..)]
    exact enT_cong l _ (fun i hi => hc i (List.mem_cons_of_mem _ hi))
end ORDERS
