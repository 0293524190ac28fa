/-! SEARCH: at the root, by all orders of 8 jobs: at most 5847 -/
def zG (k : Nat) : Nat → List Nat → Nat
  | a, [] => a
  | a, m :: R => if a < k - m then zG k (a + 1) R else zG k a R
def zall (f : Nat → Bool) : Nat → Bool
  | 0 => true
  | m + 1 => f m && zall f m
def zCk : Nat → Nat → List Nat → Nat → Bool
  | 0, k, L, P => decide (P * (1 + zG k 0 L) ≤ 5847)
  | f + 1, k, L, P => zall (fun i => zCk f (k + 1) (L.take i ++ k :: L.drop i) (P * (1 + zG k 0 (L.take i)))) (k + 1)
theorem zC_8 : zCk 7 0 [] 1 = true := by decide +kernel
def zRk (k : Nat) : Nat → List Nat → Prop
  | _, [] => True
  | a, m :: R => a < k - m ∧ zRk k (a + 1) R
theorem zall_h {f : Nat → Bool} {i : Nat} : ∀ m, zall f m = true → i < m → f i = true
  | 0, _, h => absurd h (Nat.not_lt_zero _)
  | m + 1, h, hi => by
    have h : (f m && zall f m) = true := h
    rw [Bool.and_eq_true] at h
    by_cases e : i = m
    · rw [e]
      exact h.1
    · exact zall_h m h.2 (by omega)
theorem zC_P : ∀ f k L P, zCk f k L P = true → P ≤ 5847
  | 0, k, L, P, h => by
    have h : P * (1 + zG k 0 L) ≤ 5847 := of_decide_eq_true h
    have e : P * (1 + zG k 0 L) = P + P * zG k 0 L := by rw [Nat.mul_add, Nat.mul_one]
    omega
  | f + 1, k, L, P, h => by
    have a := zall_h (i := 0) (k + 1) h (Nat.succ_pos _)
    have b := zC_P f _ _ _ a
    have e : P * (1 + zG k 0 (L.take 0)) = P := Nat.mul_one P
    omega
section ORDERS8
variable {n k : Nat} {t c0 q0 : Nat → Int} {U : Int}
theorem zG_ge : ∀ (R : List Nat) (a : Nat), a ≤ zG k a R
  | [], a => Nat.le_refl _
  | m :: R, a => by
    show a ≤ if a < k - m then zG k (a + 1) R else zG k a R
    split
    · exact Nat.le_trans (Nat.le_succ a) (zG_ge R (a + 1))
    · exact zG_ge R a
theorem zG_app : ∀ (R R2 : List Nat) (a : Nat), zG k a R ≤ zG k a (R ++ R2)
  | [], R2, a => zG_ge R2 a
  | m :: R, R2, a => by
    show (if a < k - m then zG k (a + 1) R else zG k a R) ≤ if a < k - m then zG k (a + 1) (R ++ R2) else zG k a (R ++ R2)
    split
    · exact zG_app R R2 (a + 1)
    · exact zG_app R R2 a
theorem zG_sub : ∀ (R : List Nat) (a a' : Nat) (S : List Nat), List.Sublist S R → a ≤ a' → zRk k a S → a + S.length ≤ zG k a' R
  | [], a, a', S, h, ha, _ => by
    have e : S = [] := List.sublist_nil.mp h
    rw [e]
    exact ha
  | m :: R, a, a', S, h, ha, hr => by
    show a + S.length ≤ if a' < k - m then zG k (a' + 1) R else zG k a' R
    rcases h with _ | h | h
    · split
      · exact zG_sub R a (a' + 1) S (by assumption) (by omega) hr
      · exact zG_sub R a a' S (by assumption) ha hr
    · rename_i S2 h
      obtain ⟨r1, r2⟩ : a < k - m ∧ zRk k (a + 1) S2 := hr
      rw [List.length_cons]
      split
      · have := zG_sub R (a + 1) (a' + 1) S2 h (by omega) r2
        omega
      · have := zG_sub R (a + 1) a' S2 h (by omega) r2
        omega
theorem zsubl {f : Nat → Int} : ∀ (R S : List Nat), R.Pairwise (fun x y => f y ≤ f x) → S.Pairwise (fun x y => f y < f x) → (∀ x, x ∈ S → x ∈ R) → List.Sublist S R
  | [], S, _, _, h => by
    cases S with
    | nil => exact List.Sublist.refl _
    | cons x S => exact absurd (h x (List.mem_cons_self ..)) (List.not_mem_nil)
  | m :: R, S, hR, hS, h => by
    have hR := List.pairwise_cons.mp hR
    cases S with
    | nil => exact List.nil_sublist _
    | cons x S =>
      have hS2 := List.pairwise_cons.mp hS
      by_cases e : x = m
      · subst e
        refine List.cons_sublist_cons.mpr (zsubl R S hR.2 hS2.2 (fun y hy => ?_))
        rcases List.mem_cons.mp (h y (List.mem_cons_of_mem _ hy)) with g | g
        · have := hS2.1 y hy
          rw [g] at this
          exact absurd this (Int.lt_irrefl _)
        · exact g
      · have xR : x ∈ R := by
          rcases List.mem_cons.mp (h x (List.mem_cons_self ..)) with g | g
          · exact absurd g e
          · exact g
        refine List.Sublist.cons _ (zsubl R (x :: S) hR.2 hS (fun y hy => ?_))
        rcases List.mem_cons.mp hy with g | g
        · rw [g]
          exact xR
        · rcases List.mem_cons.mp (h y hy) with g2 | g2
          · have a := hS2.1 y g
            have b := hR.1 x xR
            rw [g2] at a
            omega
          · exact g2
theorem zdec {R : Nat → Nat → Prop} {p : Nat → Prop} (hp : ∀ x y, R x y → p y → p x) : ∀ L : List Nat, L.Pairwise R → ∃ L1 L2, L = L1 ++ L2 ∧ (∀ x, x ∈ L1 → p x) ∧ ∀ x, x ∈ L2 → ¬ p x
  | [], _ => ⟨[], [], rfl, fun x h => absurd h (List.not_mem_nil), fun x h => absurd h (List.not_mem_nil)⟩
  | x :: L, h => by
    have h := List.pairwise_cons.mp h
    by_cases g : p x
    · obtain ⟨L1, L2, e, h1, h2⟩ := zdec hp L h.2
      refine ⟨x :: L1, L2, by rw [e]; rfl, fun y hy => ?_, h2⟩
      rcases List.mem_cons.mp hy with w | w
      · rw [w]
        exact g
      · exact h1 y w
    · refine ⟨[], x :: L, rfl, fun y hy => absurd hy (List.not_mem_nil), fun y hy => ?_⟩
      rcases List.mem_cons.mp hy with w | w
      · rw [w]
        exact g
      · exact fun a => g (hp x y (h.1 y w) a)
/-- the places of those who serve, by their births -/
theorem zRk_of {A : List Nat} {be : Nat → Nat} (hbe : ∀ i, i ∈ A → ∀ j, j ∈ A → c0 i < c0 j → be j < be i) : ∀ (l : List (Nat × Nat)) (w a : Nat), l.Pairwise (fun x y => c0 x.1 < c0 y.1 ∧ q0 y.2 < q0 x.2) → (∀ x, x ∈ l → x.1 ∈ A ∧ x.2 ∈ A ∧ c0 x.1 ≤ c0 x.2) → (∀ x, x ∈ l → be x.1 < w ∧ be x.2 < w) → a + w ≤ k → zRk k a (l.map (fun x => be x.2))
  | [], _, _, _, _, _, _ => trivial
  | x :: l, w, a, hp, hA, hw, hk => by
    have hp := List.pairwise_cons.mp hp
    have h1 := hw x (List.mem_cons_self ..)
    have h2 := hA x (List.mem_cons_self ..)
    refine ⟨by show a < k - be x.2; omega, zRk_of hbe l (be x.1) (a + 1) hp.2 (fun y hy => hA y (List.mem_cons_of_mem _ hy)) (fun y hy => ?_) (by omega)⟩
    have g := (hp.1 y hy).1
    have u := hA y (List.mem_cons_of_mem _ hy)
    exact ⟨hbe _ h2.1 _ u.1 g, hbe _ h2.1 _ u.2.1 (by omega)⟩
/-- one more job ahead of them -/
theorem zhead {A L1 L2 : List Nat} {be : Nat → Nat} {b : Nat} (hA : ∀ j, j < n → c0 b < c0 j → j ∈ A) (hL : ∀ j, j ∈ A → j ∈ L1 ++ L2) (hs : (L1 ++ L2).Pairwise (fun x y => q0 y ≤ q0 x)) (h2 : ∀ x, x ∈ L2 → ¬ q0 b < q0 x) (hb1 : ∀ j, j ∈ A → be j < k) (hbe : ∀ i, i ∈ A → ∀ j, j ∈ A → c0 i < c0 j → be j < be i) {l : List (Nat × Nat)} (hl : zK n t c0 q0 c0 q0 U b l) : l.length ≤ zG k 0 (L1.map be) := by
  have inA : ∀ x, x ∈ l → x.1 ∈ A ∧ x.2 ∈ A ∧ c0 x.1 ≤ c0 x.2 := fun x hx => by
    obtain ⟨⟨a1, a2, a3, a4⟩, ⟨b1, b2, b3, b4, b5, b6⟩, d⟩ := hl.1 x hx
    exact ⟨hA _ a1 a3, hA _ b1 b4, d⟩
  have rk := zRk_of (k := k) (q0 := q0) hbe l k 0 hl.2 inA (fun x hx => ⟨hb1 _ (inA x hx).1, hb1 _ (inA x hx).2.1⟩) (by omega)
  have sb : List.Sublist (l.map (fun x => x.2)) L1 := by
    refine zsubl (f := q0) L1 _ (List.pairwise_append.mp hs).1 ?_ (fun y hy => ?_)
    · exact List.pairwise_map.mpr (hl.2.imp (fun h => h.2))
    · obtain ⟨x, x1, x2⟩ := List.mem_map.mp hy
      rw [← x2]
      obtain ⟨⟨a1, a2, a3, a4⟩, ⟨b1, b2, b3, b4, b5, b6⟩, d⟩ := hl.1 x x1
      rcases List.mem_append.mp (hL _ (inA x x1).2.1) with g | g
      · exact g
      · exact absurd b5 (h2 _ g)
  have sb2 := sb.map be
  rw [List.map_map] at sb2
  have := zG_sub (k := k) (L1.map be) 0 0 _ sb2 (Nat.le_refl _) rk
  rw [List.length_map] at this
  omega
theorem zP_cong {kf kg : Nat → Nat} : ∀ l : List Nat, (∀ j, j ∈ l → kf j = kg j) → zP kf l = zP kg l
  | [], _ => rfl
  | b :: l, h => by
    show (1 + kf b) * zP kf l = (1 + kg b) * zP kg l
    rw [h b (List.mem_cons_self ..), zP_cong l (fun j hj => h j (List.mem_cons_of_mem _ hj))]
theorem zsound : ∀ A : List Nat, A.Nodup → A.Pairwise (fun x y => c0 x ≤ c0 y) → (∀ j, j < n → j ∉ A → ∀ a, a ∈ A → c0 j ≤ c0 a) → A.length ≤ 7 → ∃ (L : List Nat) (be : Nat → Nat) (P : Nat) (kf : Nat → Nat), (∀ j, j ∈ A ↔ j ∈ L) ∧ L.length = A.length ∧ L.Pairwise (fun x y => q0 y ≤ q0 x) ∧ (∀ j, j ∈ A → be j < A.length) ∧ (∀ i, i ∈ A → ∀ j, j ∈ A → c0 i < c0 j → be j < be i) ∧ zCk (7 - A.length) A.length (L.map be) P = true ∧ zP kf A ≤ P ∧ ∀ b, b ∈ A → ∀ l, zK n t c0 q0 c0 q0 U b l → l.length ≤ kf b
  | [], _, _, _, _ => ⟨[], fun _ => 0, 1, fun _ => 0, fun j => Iff.rfl, rfl, List.Pairwise.nil, fun j hj => absurd hj (List.not_mem_nil), fun i hi => absurd hi (List.not_mem_nil), zC_8, Nat.le_refl _, fun b hb => absurd hb (List.not_mem_nil)⟩
  | b :: A, hd, hp, hA, hl => by
    have hd := List.nodup_cons.mp hd
    have hp := List.pairwise_cons.mp hp
    have hA1 : ∀ j, j < n → j ∉ A → ∀ a, a ∈ A → c0 j ≤ c0 a := fun j hj hjA a ha => by
      by_cases e : j = b
      · rw [e]
        exact hp.1 a ha
      · exact hA j hj (fun g => by
          rcases List.mem_cons.mp g with g | g
          · exact e g
          · exact hjA g) a (List.mem_cons_of_mem _ ha)
    have hA2 : ∀ j, j < n → c0 b < c0 j → j ∈ A := fun j hj hc => by
      by_cases g : j ∈ A
      · exact g
      · exfalso
        have jb : j ≠ b := fun e => by
          rw [e] at hc
          exact absurd hc (Int.lt_irrefl _)
        have := hA j hj (fun w => by
          rcases List.mem_cons.mp w with w | w
          · exact jb w
          · exact g w) b (List.mem_cons_self ..)
        omega
    have hl : A.length + 1 ≤ 7 := hl
    obtain ⟨L, be, P, kf, i1, i2, i3, i4, i5, i6, i7, i8⟩ := zsound A hd.2 hp.2 hA1 (by omega)
    obtain ⟨L1, L2, e, d1, d2⟩ := zdec (R := fun x y => q0 y ≤ q0 x) (p := fun x => q0 b < q0 x) (fun x y h1 h2 => by
      show q0 b < q0 x
      have h2 : q0 b < q0 y := h2
      omega) L i3
    subst e
    obtain ⟨k, hk⟩ : ∃ k, k = A.length := ⟨_, rfl⟩
    rw [← hk] at i2 i4 i6 hl
    have hd2 : ∀ l, zK n t c0 q0 c0 q0 U b l → l.length ≤ zG k 0 (L1.map be) := fun l h => zhead (L2 := L2) hA2 (fun j hj => (i1 j).mp hj) i3 d2 i4 i5 h
    have nb : ∀ j, j ∈ A → j ≠ b := fun j hj e => hd.1 (by rw [← e]; exact hj)
    have step : zCk (7 - (k + 1)) (k + 1) (L1.map be ++ k :: L2.map be) (P * (1 + zG k 0 (L1.map be))) = true := by
      have f : 7 - k = (7 - (k + 1)) + 1 := by omega
      rw [f] at i6
      have ll : (L1.map be).length < k + 1 := by
        rw [List.length_append] at i2
        rw [List.length_map]
        omega
      have a := zall_h (i := (L1.map be).length) (k + 1) i6 ll
      rw [List.map_append, List.take_left, List.drop_left] at a
      exact a
    have mb : ∀ M : List Nat, (∀ j, j ∈ M → j ∈ A) → M.map (up be b k) = M.map be := fun M hM => List.map_congr_left (fun j hj => by
      unfold up
      rw [if_neg (nb j (hM j hj))])
    refine ⟨L1 ++ b :: L2, up be b k, P * (1 + zG k 0 (L1.map be)), up kf b (zG k 0 (L1.map be)), fun j => ?_, ?_, ?_, fun j hj => ?_, fun i hi j hj hc => ?_, ?_, ?_, fun b2 hb2 l hl2 => ?_⟩
    · have := i1 j
      rw [List.mem_append] at this
      rw [List.mem_append, List.mem_cons, List.mem_cons, this]
      constructor
      · rintro (g | g | g)
        · exact Or.inr (Or.inl g)
        · exact Or.inl g
        · exact Or.inr (Or.inr g)
      · rintro (g | g | g)
        · exact Or.inr (Or.inl g)
        · exact Or.inl g
        · exact Or.inr (Or.inr g)
    · rw [List.length_append] at i2 ⊢
      rw [List.length_cons, List.length_cons]
      omega
    · obtain ⟨p1, p2, p3⟩ := List.pairwise_append.mp i3
      refine List.pairwise_append.mpr ⟨p1, List.pairwise_cons.mpr ⟨fun y hy => ?_, p2⟩, fun x hx y hy => ?_⟩
      · exact Int.not_lt.mp (d2 y hy)
      · rcases List.mem_cons.mp hy with g | g
        · rw [g]
          exact Int.le_of_lt (d1 x hx)
        · exact p3 x hx y g
    · rw [List.length_cons, ← hk]
      unfold up
      split
      · omega
      · rename_i g
        rcases List.mem_cons.mp hj with w | w
        · exact absurd w g
        · have := i4 j w
          omega
    · unfold up
      rcases List.mem_cons.mp hi with w | w
      · rcases List.mem_cons.mp hj with w2 | w2
        · rw [w, w2] at hc
          exact absurd hc (Int.lt_irrefl _)
        · rw [if_neg (nb j w2), if_pos w]
          exact i4 j w2
      · rcases List.mem_cons.mp hj with w2 | w2
        · have := hp.1 i w
          rw [w2] at hc
          omega
        · rw [if_neg (nb j w2), if_neg (nb i w)]
          exact i5 i w j w2 hc
    · rw [List.length_cons, ← hk, List.map_append, List.map_cons, mb L1 (fun j hj => (i1 j).mpr (List.mem_append_left _ hj)), mb L2 (fun j hj => (i1 j).mpr (List.mem_append_right _ hj))]
      have : up be b k b = k := by
        unfold up
        rw [if_pos rfl]
      rw [this]
      exact step
    · show (1 + up kf b (zG k 0 (L1.map be)) b) * zP (up kf b (zG k 0 (L1.map be))) A ≤ _
      have u1 : up kf b (zG k 0 (L1.map be)) b = zG k 0 (L1.map be) := by
        unfold up
        rw [if_pos rfl]
      rw [u1, zP_cong A (kf := up kf b (zG k 0 (L1.map be))) (kg := kf) (fun j hj => by
        unfold up
        rw [if_neg (nb j hj)]), Nat.mul_comm]
      exact Nat.mul_le_mul_right _ i7
    · unfold up
      rcases List.mem_cons.mp hb2 with w | w
      · rw [if_pos w]
        rw [w] at hl2
        exact hd2 l hl2
      · rw [if_neg (nb b2 w)]
        exact i8 b2 w l hl2
/-- jobs by when they come -/
theorem zsort : ∀ m : Nat, ∃ A : List Nat, A.Nodup ∧ A.Pairwise (fun x y => c0 x ≤ c0 y) ∧ (∀ j, j ∈ A ↔ j < m) ∧ A.length = m
  | 0 => ⟨[], List.nodup_nil, List.Pairwise.nil, fun j => ⟨fun h => absurd h (List.not_mem_nil), fun h => absurd h (Nat.not_lt_zero _)⟩, rfl⟩
  | m + 1 => by
    obtain ⟨A, a1, a2, a3, a4⟩ := zsort m
    obtain ⟨A1, A2, e, d1, d2⟩ := zdec (R := fun x y => c0 x ≤ c0 y) (p := fun x => c0 x ≤ c0 m) (fun x y h1 h2 => by
      show c0 x ≤ c0 m
      have h2 : c0 y ≤ c0 m := h2
      omega) A a2
    subst e
    obtain ⟨p1, p2, p3⟩ := List.pairwise_append.mp a2
    obtain ⟨n1, n2, n3⟩ := List.nodup_append.mp a1
    have nm : ∀ j, j ∈ A1 ++ A2 → j ≠ m := fun j hj e => by
      have := (a3 j).mp hj
      omega
    refine ⟨A1 ++ m :: A2, List.nodup_append.mpr ⟨n1, List.nodup_cons.mpr ⟨fun g => nm m (List.mem_append_right _ g) rfl, n2⟩, fun x hx y hy => ?_⟩, List.pairwise_append.mpr ⟨p1, List.pairwise_cons.mpr ⟨fun y hy => Int.le_of_lt (Int.not_le.mp (d2 y hy)), p2⟩, fun x hx y hy => ?_⟩, fun j => ?_, ?_⟩
    · rcases List.mem_cons.mp hy with g | g
      · rw [g]
        exact nm x (List.mem_append_left _ hx)
      · exact n3 x hx y g
    · rcases List.mem_cons.mp hy with g | g
      · rw [g]
        exact d1 x hx
      · exact p3 x hx y g
    · have := a3 j
      rw [List.mem_append] at this
      rw [List.mem_append, List.mem_cons]
      constructor
      · rintro (g | g | g)
        · have := this.mp (Or.inl g)
          omega
        · omega
        · have := this.mp (Or.inr g)
          omega
      · intro g
        by_cases w : j = m
        · exact Or.inr (Or.inl w)
        · rcases this.mpr (by omega) with g2 | g2
          · exact Or.inl g2
          · exact Or.inr (Or.inr g2)
    · rw [List.length_append] at a4 ⊢
      rw [List.length_cons]
      omega
theorem zroot (hn : n ≤ 8) : ∃ (A : List Nat) (kf : Nat → Nat), (∀ b, b < n → b ∈ A) ∧ zP kf A ≤ 5847 ∧ ∀ b, b < n → ∀ l, zK n t c0 q0 c0 q0 U b l → l.length ≤ kf b := by
  obtain ⟨A, a1, a2, a3, a4⟩ := zsort (c0 := c0) n
  by_cases h7 : n ≤ 7
  · obtain ⟨L, be, P, kf, i1, i2, i3, i4, i5, i6, i7, i8⟩ := zsound (n := n) (t := t) (q0 := q0) (U := U) A a1 a2 (fun j hj h => absurd ((a3 j).mpr hj) h) (by omega)
    exact ⟨A, kf, fun b hb => (a3 b).mpr hb, Nat.le_trans i7 (zC_P _ _ _ _ i6), fun b hb => i8 b ((a3 b).mpr hb)⟩
  · cases A with
    | nil =>
      have a4 : 0 = n := a4
      omega
    | cons b A =>
      have hd := List.nodup_cons.mp a1
      have hp := List.pairwise_cons.mp a2
      have a4 : A.length + 1 = n := a4
      have all : ∀ j, j < n → j ≠ b → j ∈ A := fun j hj e => by
        rcases List.mem_cons.mp ((a3 j).mpr hj) with g | g
        · exact absurd g e
        · exact g
      have nb : ∀ j, j ∈ A → j ≠ b := fun j hj e => hd.1 (by rw [← e]; exact hj)
      obtain ⟨L, be, P, kf, i1, i2, i3, i4, i5, i6, i7, i8⟩ := zsound (n := n) (t := t) (q0 := q0) (U := U) A hd.2 hp.2 (fun j hj h a ha => by
        by_cases e : j = b
        · rw [e]
          exact hp.1 a ha
        · exact absurd (all j hj e) h) (by omega)
      obtain ⟨L1, L2, e, d1, d2⟩ := zdec (R := fun x y => q0 y ≤ q0 x) (p := fun x => q0 b < q0 x) (fun x y h1 h2 => by
        show q0 b < q0 x
        have h2 : q0 b < q0 y := h2
        omega) L i3
      subst e
      have ek : A.length = 7 := by omega
      rw [ek] at i4 i6
      have hd2 : ∀ l, zK n t c0 q0 c0 q0 U b l → l.length ≤ zG 7 0 ((L1 ++ L2).map be) := fun l h => by
        have a := zhead (L2 := L2) (fun j hj hc => all j hj (fun e => by rw [e] at hc; exact absurd hc (Int.lt_irrefl _))) (fun j hj => (i1 j).mp hj) i3 d2 i4 i5 h
        rw [List.map_append]
        exact Nat.le_trans a (zG_app _ _ 0)
      have bd : P * (1 + zG 7 0 ((L1 ++ L2).map be)) ≤ 5847 := of_decide_eq_true i6
      refine ⟨b :: A, up kf b (zG 7 0 ((L1 ++ L2).map be)), fun j hj => (a3 j).mpr hj, ?_, fun j hj l hl => ?_⟩
      · show (1 + up kf b (zG 7 0 ((L1 ++ L2).map be)) b) * zP (up kf b (zG 7 0 ((L1 ++ L2).map be))) A ≤ _
        have u1 : up kf b (zG 7 0 ((L1 ++ L2).map be)) b = zG 7 0 ((L1 ++ L2).map be) := by
          unfold up
          rw [if_pos rfl]
        rw [u1, zP_cong A (kf := up kf b (zG 7 0 ((L1 ++ L2).map be))) (kg := kf) (fun j hj => by
          unfold up
          rw [if_neg (nb j hj)]), Nat.mul_comm]
        exact Nat.le_trans (Nat.mul_le_mul_right _ i7) bd
      · unfold up
        by_cases e : j = b
        · rw [if_pos e]
          rw [e] at hl
          exact hd2 l hl
        · rw [if_neg e]
          exact i8 j (all j hj e) l hl
end ORDERS8
/-- how many nodes of the SEARCH have a bar -/
theorem tk_le {n : Nat} {c t q : Nat → Int} (hn : n ≤ 8) (hb : ∀ j, j < n → (0 ≤ c j ∧ c j ≤ 160) ∧ (1 ≤ t j ∧ t j ≤ 25) ∧ (0 ≤ q j ∧ q j ≤ 130)) : tk t n 400 c q (-1, 0, 0) ≤ 333333 := by
  obtain ⟨hB, f0, f5⟩ := root_f hn hb
  have n1 : (sN c t q n (-1, 0, 0)).1 = (gr c t q n n).2.2.2.2.2.2.1 := by
    unfold sN svN
    rw [if_pos (Or.inl rfl)]
  obtain ⟨A, kf, h1, h2, h3⟩ := zroot (n := n) (t := t) (c0 := c) (q0 := q) (U := (sN c t q n (-1, 0, 0)).1) hn
  have a := zT (c0 := c) (q0 := q) hn h1 400 c q (-1, 0, 0) 0 kf (fun j hj => by have := hb j hj; omega) (by rw [n1]; exact ⟨f0, f5⟩) ⟨fun _ => rfl, fun _ => rfl⟩ h3
  have m := zM_root (c := c) (q := q) hn
  have e : zP kf A * (zMm n c q c q + 1) ≤ 5847 * 57 := Nat.mul_le_mul h2 (by omega)
  omega
