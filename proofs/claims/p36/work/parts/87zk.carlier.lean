/-! CARLIER: an order that ends sooner than GREEDY goes by one of the branches -/
theorem up_eqN {f : Nat → Nat} {b v : Nat} : up f b v b = v := by
  unfold up
  rw [if_pos rfl]
theorem up_neN {f : Nat → Nat} {b j v : Nat} (h : j ≠ b) : up f b v j = f j := by
  unfold up
  rw [if_neg h]
theorem fp_start {y : Ly} : ∀ m : Nat, fp y m = 0 ∨ y.2.2.2.1 (y.2.2.1 (fp y m)) ≠ y.2.2.2.2.1 (y.2.2.1 (fp y m - 1))
  | 0 => Or.inl rfl
  | m + 1 => by
    unfold fp
    by_cases g : y.2.2.2.1 (y.2.2.1 (m + 1)) = y.2.2.2.2.1 (y.2.2.1 m)
    · rw [if_pos g]
      exact fp_start m
    · rw [if_neg g, Nat.add_sub_cancel]
      exact Or.inr g
section CARLIER
variable {n : Nat} {c t q : Nat → Int} {F : Int}
theorem ord_SB (hB : BD n c t q) {l : List Nat} (hl : ord n l) {h : Int} (g : inTm c t q F h l) : SB c t q n F := fun p r0 q0 j0 hj hp hr => ord_set hB hl hr hj hp g
theorem ord_br (hB : BD n c t q) (hn : n ≤ 8) {l : List Nat} (hl : ord n l) (h0 : 0 ≤ F) {h : Int} (g : inTm c t q F h l) : (bi c t q n 16).2.2.2.1 ≤ F := bi_le hB hn (ord_SB hB hl g) h0
theorem nc1 {f S tb D qP r H1 H2 a b F : Int} (h1 : f = S + tb + D + qP) (hr : S < r) (e1 : r + a ≤ H1) (e2 : H2 + b + qP ≤ F) (eD : D = a + b) (hm : H1 + tb ≤ H2) (hF : F < f) : False := by omega
theorem br_or (hB : BD n c t q) (hn : n ≤ 8) (hb : 0 ≤ bkB q n (gr c t q n n)) {l : List Nat} (hl : ord n l) (g : inTm c t q F 0 l) (hF : F < (gr c t q n n).2.2.2.2.2.2.1) : inTm c t (lQ c t q n) F 0 l ∨ inTm (rC c t q n) t q F 0 l := by
  obtain ⟨b, P, y, D, r, S, e1, b1, b2, b3, n1, n2, g1, g2, g3, g4, g5, g6, g7, g8, g9, g10, g11, g12, g13, g14, g15, g16⟩ := ed_facts hB hn hb
  have eQ : lQ c t q n = up q b (D + q P) := by
    unfold lQ
    rw [← e1, g8]
  have eC : rC c t q n = up c b (r + D) := by
    unfold rC
    rw [← e1, g9]
  rw [eQ, eC]
  obtain ⟨p, hp⟩ : ∃ p, p = Nat.testBit (svD c t q n) := ⟨_, rfl⟩
  rw [← hp] at g12 g14 g15 g16
  clear hp
  obtain ⟨l1, l2, hs⟩ := List.append_of_mem ((hl.2 b).mpr b1)
  have sm := smT_all (t := t) (p := p) hl
  have nd := hl.1
  rw [hs] at sm nd g
  rw [smT_app] at sm
  have sm : smT t p l1 + ((if p b = true then t b else 0) + smT t p l2) = su t p n := sm
  have pb : ¬ p b = true := fun w => (g14 b w).2.1 rfl
  rw [if_neg pb, ← g12] at sm
  obtain ⟨nd1, nd2, nd3⟩ := List.nodup_append.mp nd
  have nd4 := List.nodup_cons.mp nd2
  have bl1 : ∀ j, j ∈ l1 → j ≠ b := fun j hj => nd3 j hj b (List.mem_cons_self ..)
  have bl2 : ∀ j, j ∈ l2 → j ≠ b := fun j hj e => nd4.1 (by rw [← e]; exact hj)
  have in1 : ∀ j, j ∈ l1 → j < n := fun j hj => (hl.2 j).mp (by rw [hs]; exact List.mem_append_left _ hj)
  have in2 : ∀ j, j ∈ l2 → j < n := fun j hj => (hl.2 j).mp (by rw [hs]; exact List.mem_append_right _ (List.mem_cons_of_mem _ hj))
  have t1 : ∀ j, j ∈ l1 → 0 ≤ t j := fun j hj => by have := hB j (in1 j hj); omega
  have t2 : ∀ j, j ∈ l2 → 0 ≤ t j := fun j hj => by have := hB j (in2 j hj); omega
  obtain ⟨i1, i2⟩ := (inTm_app l1 (b :: l2) 0).mp g
  obtain ⟨i3, i4⟩ : max (enT c t 0 l1) (c b) + t b + q b ≤ F ∧ inTm c t q F (max (enT c t 0 l1) (c b) + t b) l2 := i2
  have Pin : P ∈ l1 ∨ P ∈ l2 := by
    have := (hl.2 P).mpr b2
    rw [hs] at this
    rcases List.mem_append.mp this with w | w
    · exact Or.inl w
    · rcases List.mem_cons.mp w with w | w
      · exact absurd w n1
      · exact Or.inr w
  rw [hs]
  by_cases x1 : ∃ d, d ∈ l1 ∧ p d = true
  · have H1 := enT_r (r0 := r) l1 0 t1 (fun j _ w => (g14 j w).2.2.1) x1 (c := c)
    by_cases x2 : ∃ d, d ∈ l2 ∧ p d = true
    · have H2 := inTm_i (q0 := q P) l2 _ t2 (fun j _ w => (g14 j w).2.2.2) x2 i4
      exact (nc1 g7 g2 H1 H2 (by omega) (by omega) hF).elim
    · have z2 : smT t p l2 = 0 := smT_0 l2 (fun i hi => by
        cases w : p i
        · rfl
        · exact absurd ⟨i, hi, w⟩ x2)
      have eH : enT (up c b (r + D)) t 0 l1 = enT c t 0 l1 := enT_cong l1 0 (fun j hj => up_ne (bl1 j hj))
      have D0 : 0 ≤ D := by
        have := smT_p l1 t1 (p := p)
        omega
      refine Or.inr ((inTm_app l1 (b :: l2) 0).mpr ⟨inTm_cong l1 0 (fun j hj => (up_ne (bl1 j hj)).symm) (fun j _ => rfl) i1, ?_⟩)
      rw [eH]
      have mm : max (enT c t 0 l1) (up c b (r + D) b) = max (enT c t 0 l1) (c b) := by
        rw [up_eq]
        omega
      refine ⟨?_, ?_⟩
      · rw [mm]
        exact i3
      · rw [mm]
        exact inTm_cong l2 _ (fun j hj => (up_ne (bl2 j hj)).symm) (fun j _ => rfl) i4
  · have z1 : smT t p l1 = 0 := smT_0 l1 (fun i hi => by
      cases w : p i
      · rfl
      · exact absurd ⟨i, hi, w⟩ x1)
    have x2 : ∃ d, d ∈ l2 ∧ p d = true := by
      rcases Pin with w | w
      · exact absurd ⟨P, w, g15⟩ x1
      · exact ⟨P, w, g15⟩
    have H2 := inTm_i (q0 := q P) l2 _ t2 (fun j _ w => (g14 j w).2.2.2) x2 i4
    refine Or.inl ((inTm_app l1 (b :: l2) 0).mpr ⟨inTm_cong l1 0 (fun j _ => rfl) (fun j hj => (up_ne (bl1 j hj)).symm) i1, ?_, inTm_cong l2 _ (fun j _ => rfl) (fun j hj => (up_ne (bl2 j hj)).symm) i4⟩)
    rw [up_eq]
    omega
/-- a block begins when all behind it are still to come -/
def GZ (n : Nat) (c : Nat → Int) (y : Ly) : Prop := (0 < y.1 → y.2.2.2.2.2.1 = y.2.2.2.2.1 (y.2.2.1 (y.1 - 1))) ∧ (y.1 = 0 → y.2.2.2.2.2.1 = 0) ∧ ∀ i, i < y.1 → (i = 0 ∨ y.2.2.2.1 (y.2.2.1 i) ≠ y.2.2.2.2.1 (y.2.2.1 (i - 1))) → ∀ j, j < n → (∀ k, k < i → y.2.2.1 k ≠ j) → y.2.2.2.1 (y.2.2.1 i) ≤ c j
theorem nz1 {e cj m H c1 : Int} (h : H = max m e) (hj : cj ≤ H) (hm : m ≤ c1) (hc : 0 ≤ c1) (w : e = 0 ∨ max e cj ≠ e) : max e cj ≤ c1 := by omega
theorem GZ_ap {y : Ly} (hB : BD n c t q) (hG : GI n t q y) (hS : GS n c q y) (hc : cb (Nat.testBit y.2.1) n < n) (h : GZ n c y) : GZ n c (ap c t q y (grJ c t q n y)) := by
  obtain ⟨g1, g2, g3, g4, g5⟩ := gr_next hB hc
  obtain ⟨z1, z2, z3⟩ := h
  have ne : ∀ i, i < y.1 → y.2.2.1 i ≠ grJ c t q n y := fun i hi e => by
    have := hG.1 i hi
    rw [e, g3] at this
    exact absurd this (by decide)
  have rN : up y.2.2.1 y.1 (grJ c t q n y) y.1 = grJ c t q n y := up_eqN
  have rO : ∀ i, i < y.1 → up y.2.2.1 y.1 (grJ c t q n y) i = y.2.2.1 i := fun i hi => up_neN (by omega)
  refine ⟨fun _ => ?_, fun e => absurd e (Nat.succ_ne_zero _), fun i hi w j hj hk => ?_⟩
  · show max y.2.2.2.2.2.1 (c (grJ c t q n y)) + t (grJ c t q n y) = up y.2.2.2.2.1 (grJ c t q n y) _ (up y.2.2.1 y.1 (grJ c t q n y) (y.1 + 1 - 1))
    rw [Nat.add_sub_cancel, rN, up_eq]
  · have hi : i < y.1 + 1 := hi
    have w : i = 0 ∨ up y.2.2.2.1 (grJ c t q n y) (max y.2.2.2.2.2.1 (c (grJ c t q n y))) (up y.2.2.1 y.1 (grJ c t q n y) i) ≠ up y.2.2.2.2.1 (grJ c t q n y) (max y.2.2.2.2.2.1 (c (grJ c t q n y)) + t (grJ c t q n y)) (up y.2.2.1 y.1 (grJ c t q n y) (i - 1)) := w
    show up y.2.2.2.1 (grJ c t q n y) (max y.2.2.2.2.2.1 (c (grJ c t q n y))) (up y.2.2.1 y.1 (grJ c t q n y) i) ≤ c j
    have hk : ∀ k, k < i → up y.2.2.1 y.1 (grJ c t q n y) k ≠ j := hk
    by_cases e : i = y.1
    · rw [e, rN, up_eq]
      have hm : Nat.testBit y.2.1 j = false := by
        cases hb : Nat.testBit y.2.1 j
        · rfl
        · obtain ⟨i2, i3, i4⟩ := hS.1 j hb
          have := hk i2 (by omega)
          rw [rO i2 i3] at this
          exact absurd i4 this
      have ml := (mn_le (c := c) (p := fun j => !Nat.testBit y.2.1 j) (by show (!Nat.testBit y.2.1 j) = true; rw [hm]; rfl) n (fun i hi => (hB i hi).1.1) hj).2
      refine nz1 (H := grH c n y) rfl g4 ml (hB j hj).1.1 ?_
      rcases Nat.eq_zero_or_pos y.1 with y0 | y0
      · exact Or.inl (z2 y0)
      · refine Or.inr ?_
        rcases w with w | w
        · omega
        · rw [e, rN, up_eq, rO (y.1 - 1) (by omega), up_ne (ne (y.1 - 1) (by omega)), ← z1 y0] at w
          exact w
    · have hi2 : i < y.1 := by omega
      rw [rO i hi2, up_ne (ne i hi2)]
      rw [rO i hi2, up_ne (ne i hi2), rO (i - 1) (by omega), up_ne (ne (i - 1) (by omega))] at w
      exact z3 i hi2 w j hj (fun k hk2 => by
        have := hk k hk2
        rw [rO k (by omega)] at this
        exact this)
theorem gr_GZ (hB : BD n c t q) (hn : n ≤ 8) : ∀ k, k ≤ n → GZ n c (gr c t q n k)
  | 0, _ => ⟨fun h => absurd h (Nat.lt_irrefl 0), fun _ => rfl, fun i hi => absurd hi (Nat.not_lt_zero _)⟩
  | k + 1, hk => by
    have h2 := (gr_inv hB hn k (by omega)).2.1
    exact GZ_ap hB (gr_GI hB hn k (by omega)) (gr_GS hB hn k (by omega)) (by omega) (gr_GZ hB hn k (by omega))
theorem bp_none {y : Ly} {x : Int} {fr : Nat} : ∀ k i : Nat, bp q y x fr k = -1 → fr ≤ i → i < k → x ≤ q (y.2.2.1 i)
  | 0, i, _, _, h => absurd h (Nat.not_lt_zero _)
  | k + 1, i, h0, h1, h2 => by
    unfold bp at h0
    by_cases g1 : k < fr
    · omega
    · rw [if_neg g1] at h0
      by_cases g2 : q (y.2.2.1 k) < x
      · rw [if_pos g2] at h0
        omega
      · rw [if_neg g2] at h0
        by_cases e : i = k
        · rw [e]
          exact Int.not_lt.mp g2
        · exact bp_none k i h0 h1 (by omega)
/-- where there is no bar, GREEDY is the least -/
theorem nobar (hB : BD n c t q) (hn : n ≤ 8) (hb : bkB q n (gr c t q n n) < 0) {l : List Nat} (hl : ord n l) (h0 : 0 ≤ F) {h : Int} (g : inTm c t q F h l) : (gr c t q n n).2.2.2.2.2.2.1 ≤ F := by
  rcases Nat.eq_zero_or_pos n with n0 | n0
  · subst n0
    exact h0
  · obtain ⟨w1, w2, w3⟩ := gr_inv hB hn n (Nat.le_refl _)
    have hG := gr_GI hB hn n (Nat.le_refl _)
    have hZ := gr_GZ hB hn n (Nat.le_refl _)
    have hp : 0 ≤ pl q (gr c t q n n) n := by
      rcases hG.2.2.1 with e | ⟨i, i1, i2⟩
      · omega
      · exact pl_ex i2 n (by omega)
    have pb := pl_b (q := q) (y := gr c t q n n) n
    have pe := pl_eq (q := q) (y := gr c t q n n) n hp
    have fc := fp_chain (y := gr c t q n n) (pl q (gr c t q n n) n).toNat
    have fl := fp_le (y := gr c t q n n) (pl q (gr c t q n n) n).toNat
    have fs := fp_start (y := gr c t q n n) (pl q (gr c t q n n) n).toNat
    have bb := bp_b (q := q) (y := gr c t q n n) (x := q ((gr c t q n n).2.2.1 (pl q (gr c t q n n) n).toNat)) (fr := fp (gr c t q n n) (pl q (gr c t q n n) n).toNat) ((pl q (gr c t q n n) n).toNat + 1)
    have bm := bp_none (q := q) (y := gr c t q n n) (x := q ((gr c t q n n).2.2.1 (pl q (gr c t q n n) n).toNat)) (fr := fp (gr c t q n n) (pl q (gr c t q n n) n).toNat) ((pl q (gr c t q n n) n).toNat + 1)
    have e : bkB q n (gr c t q n n) = bp q (gr c t q n n) (q ((gr c t q n n).2.2.1 (pl q (gr c t q n n) n).toNat)) (fp (gr c t q n n) (pl q (gr c t q n n) n).toNat) ((pl q (gr c t q n n) n).toNat + 1) := rfl
    rw [← e] at bb bm
    have bn : bkB q n (gr c t q n n) = -1 := by omega
    obtain ⟨a, ha⟩ : ∃ a : Nat, fp (gr c t q n n) (pl q (gr c t q n n) n).toNat = a := ⟨_, rfl⟩
    obtain ⟨m, hm⟩ : ∃ m : Nat, (pl q (gr c t q n n) n).toNat = m := ⟨_, rfl⟩
    rw [hm] at ha fc fl fs pe
    rw [hm, ha] at bm
    rw [ha] at fc fl fs
    have mn : m < n := by omega
    clear e bb ha hm
    generalize gr c t q n n = y at w1 w2 w3 hG hZ bm pe fc fl fs bn ⊢
    have re := row_end (t := t) hn (fun k hk => w1.2.2.2.2.2 k hk) hG.2.1 (fun i hi => (hG.2.2.2 i hi).2.1) a (m - a) (by omega) (fun k h1 h2 => fc k (by omega) (by omega))
    rw [show a + (m - a) = m by omega] at re
    have nb : Nat.testBit (mkR y.2.2.1 (a + 1) (m + 1)) (y.2.2.1 a) = false := by
      cases hb : Nat.testBit (mkR y.2.2.1 (a + 1) (m + 1)) (y.2.2.1 a)
      · rfl
      · obtain ⟨i, i1, i2, i3⟩ := (mkR_bit _).mp hb
        have := hG.2.1 i a (by omega) (by omega) i3
        omega
    have su1 : su t (Nat.testBit (mkR y.2.2.1 a (m + 1))) n = su t (Nat.testBit (mkR y.2.2.1 (a + 1) (m + 1))) n + t (y.2.2.1 a) := by
      refine su_up (fun i => ?_) nb n (w1.2.2.2.2.2 a (by omega))
      rw [mkR_down (m + 1) (by omega), or_bit]
    have os := ord_set (p := Nat.testBit (mkR y.2.2.1 a (m + 1))) (r0 := y.2.2.2.1 (y.2.2.1 a)) (q0 := q (y.2.2.1 m)) hB hl (fun j hj hp => by
      obtain ⟨i, i1, i2, i3⟩ := (mkR_bit _).mp hp
      refine ⟨hZ.2.2 a (by omega) fs j hj (fun k hk e => ?_), ?_⟩
      · have := hG.2.1 k i (by omega) (by omega) (by rw [e, i3])
        omega
      · rw [← i3]
        exact bm i bn i1 i2) (w1.2.2.2.2.2 m (by omega)) ((mkR_bit _).mpr ⟨m, fl, by omega, rfl⟩) g
    omega
end CARLIER
