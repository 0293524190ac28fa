/-! SEARCH: what is left to know of the tree is its depth alone -/
noncomputable def DT (t : Nat → Int) (n : Nat) : Nat → (Nat → Int) → (Nat → Int) → Se → Prop
  | 0, _, _, _ => False
  | d + 1, c, q, s => 0 ≤ bkB q n (gr c t q n n) → (see c t (lQ c t q n) n (sN c t q n s) → DT t n d c (lQ c t q n) (sN c t q n s)) ∧ (see (rC c t q n) t q n (sub t n d c (lQ c t q n) (sN c t q n s)) → DT t n d (rC c t q n) q (sub t n d c (lQ c t q n) (sN c t q n s)))
theorem DT_s {t : Nat → Int} {n d : Nat} {c q : Nat → Int} {s : Se} (h : DT t n (d + 1) c q s) : 0 ≤ bkB q n (gr c t q n n) → (see c t (lQ c t q n) n (sN c t q n s) → DT t n d c (lQ c t q n) (sN c t q n s)) ∧ (see (rC c t q n) t q n (sub t n d c (lQ c t q n) (sN c t q n s)) → DT t n d (rC c t q n) q (sub t n d c (lQ c t q n) (sN c t q n s))) := h
section DEEP
variable {n : Nat} {c t q : Nat → Int} {s : Se}
theorem nd1 {a b e f m : Int} (g : a + b + e ≤ f) (w : f < m) (hm : m ≤ 500) (h : (0 ≤ a ∧ a ≤ 900) ∧ (1 ≤ b ∧ b ≤ 25) ∧ (0 ≤ e ∧ e ≤ 900)) : (0 ≤ a ∧ a ≤ 500) ∧ (1 ≤ b ∧ b ≤ 25) ∧ (0 ≤ e ∧ e ≤ 500) := by omega
theorem see_b (hB : BD n c t q) (hn : n ≤ 8) (w : see c t q n s) (hs : s.1 ≤ 500) : ∀ j, j < n → (0 ≤ c j ∧ c j ≤ 500) ∧ (1 ≤ t j ∧ t j ≤ 25) ∧ (0 ≤ q j ∧ q j ≤ 500) := fun j hj => nd1 (bi_ge hB hn hj) w hs (hB j hj)
theorem sub_b {d : Nat} (hn : n ≤ 8) (ih : ∀ (c q : Nat → Int) (s : Se), GT t n d c q s → (0 ≤ (sN c t q n s).1 ∧ (sN c t q n s).1 ≤ 500) → 0 ≤ (sv t n d c q s).1 ∧ (sv t n d c q s).1 ≤ 500) (hG : see c t q n s → GT t n d c q s) (hs : 0 ≤ s.1 ∧ s.1 ≤ 500) : 0 ≤ (sub t n d c q s).1 ∧ (sub t n d c q s).1 ≤ 500 := by
  unfold sub
  by_cases w : (bi c t q n 16).2.2.2.1 < s.1
  · rw [if_pos w]
    have g := hG w
    cases d with
    | zero => exact g.elim
    | succ d => exact ih c q s g (svN_b hs (gr_f0 (GT_BD (GT_s g).1) hn)).1
  · rw [if_neg w]
    exact hs
theorem sv_b (hn : n ≤ 8) : ∀ (d : Nat) (c q : Nat → Int) (s : Se), GT t n d c q s → (0 ≤ (sN c t q n s).1 ∧ (sN c t q n s).1 ≤ 500) → 0 ≤ (sv t n d c q s).1 ∧ (sv t n d c q s).1 ≤ 500
  | 0, _, _, _, hG, _ => hG.elim
  | d + 1, c, q, s, hG, hs => by
    obtain ⟨hb, hc⟩ := GT_s hG
    rw [sv_s]
    by_cases nb : bkB q n (gr c t q n n) < 0
    · rw [if_pos nb]
      exact hs
    · rw [if_neg nb]
      obtain ⟨hl, hr⟩ := hc (Int.not_lt.mp nb)
      exact sub_b hn (sv_b hn d) hr (sub_b hn (sv_b hn d) hl hs)
theorem GT_of (hn : n ≤ 8) : ∀ (d : Nat) (c q : Nat → Int) (s : Se), (∀ j, j < n → (0 ≤ c j ∧ c j ≤ 500) ∧ (1 ≤ t j ∧ t j ≤ 25) ∧ (0 ≤ q j ∧ q j ≤ 500)) → (0 ≤ (sN c t q n s).1 ∧ (sN c t q n s).1 ≤ 500) → DT t n d c q s → GT t n d c q s
  | 0, _, _, _, _, _, hD => hD
  | d + 1, c, q, s, hb, hs, hD => by
    have hB := GT_BD hb
    refine ⟨hb, fun nb => ?_⟩
    obtain ⟨hl, hr⟩ := DT_s hD nb
    have sq := svQR_b hB hn (M := 500) (by decide) (fun j hj => (hb j hj).2.2.2) (fun j hj => (hb j hj).1.2) nb
    have hBl : BD n c t (lQ c t q n) := BD_upq hB (nm6 sq.1)
    have hBr : BD n (rC c t q n) t q := BD_upc hB (nm6 sq.2)
    have gl : see c t (lQ c t q n) n (sN c t q n s) → GT t n d c (lQ c t q n) (sN c t q n s) := fun w => GT_of hn d c (lQ c t q n) (sN c t q n s) (see_b hBl hn w hs.2) (svN_b hs (gr_f0 hBl hn)).1 (hl w)
    have sl := sub_b hn (sv_b hn d) gl hs
    exact ⟨gl, fun w => GT_of hn d (rC c t q n) q _ (see_b hBr hn w sl.2) (svN_b sl (gr_f0 hBr hn)).1 (hr w)⟩
end DEEP
