/-! SEARCH: the tree of the class, told as sv tells it -/
noncomputable def sN (c t q : Nat → Int) (n : Nat) (s : Se) : Se := svN (gr c t q n n).2.2.2.2.2.2.1 s
noncomputable def lQ (c t q : Nat → Int) (n : Nat) : Nat → Int := up q (svB c t q n) (svQ c t q n)
noncomputable def rC (c t q : Nat → Int) (n : Nat) : Nat → Int := up c (svB c t q n) (svR c t q n)
/-- does BREAKING let the child be seen? -/
def see (c t q : Nat → Int) (n : Nat) (s : Se) : Prop := (bi c t q n 16).2.2.2.1 < s.1
noncomputable def sub (t : Nat → Int) (n d : Nat) (c q : Nat → Int) (s : Se) : Se := if (bi c t q n 16).2.2.2.1 < s.1 then sv t n d c q s else s
theorem sv_s {t : Nat → Int} {n d : Nat} {c q : Nat → Int} {s : Se} : sv t n (d + 1) c q s = if bkB q n (gr c t q n n) < 0 then sN c t q n s else sub t n d (rC c t q n) q (sub t n d c (lQ c t q n) (sN c t q n s)) := by
  rw [sv]
  unfold sub sN lQ rC
  rfl
/-- nodes with a bar -/
noncomputable def tk (t : Nat → Int) (n : Nat) : Nat → (Nat → Int) → (Nat → Int) → Se → Nat
  | 0, _, _, _ => 0
  | d + 1, c, q, s => if bkB q n (gr c t q n n) < 0 then 0 else 1 + (if (bi c t (lQ c t q n) n 16).2.2.2.1 < (sN c t q n s).1 then tk t n d c (lQ c t q n) (sN c t q n s) else 0) + (if (bi (rC c t q n) t q n 16).2.2.2.1 < (sub t n d c (lQ c t q n) (sN c t q n s)).1 then tk t n d (rC c t q n) q (sub t n d c (lQ c t q n) (sN c t q n s)) else 0)
noncomputable def tkS (t : Nat → Int) (n d : Nat) (c q : Nat → Int) (s : Se) : Nat := if (bi c t q n 16).2.2.2.1 < s.1 then tk t n d c q s else 0
theorem tk_s {t : Nat → Int} {n d : Nat} {c q : Nat → Int} {s : Se} : tk t n (d + 1) c q s = if bkB q n (gr c t q n n) < 0 then 0 else 1 + tkS t n d c (lQ c t q n) (sN c t q n s) + tkS t n d (rC c t q n) q (sub t n d c (lQ c t q n) (sN c t q n s)) := rfl
/-- the tree ends above depth d, and its numbers stay small -/
def GT (t : Nat → Int) (n : Nat) : Nat → (Nat → Int) → (Nat → Int) → Se → Prop
  | 0, _, _, _ => False
  | d + 1, c, q, s => (∀ j, j < n → (0 ≤ c j ∧ c j ≤ 500) ∧ (1 ≤ t j ∧ t j ≤ 25) ∧ (0 ≤ q j ∧ q j ≤ 500)) ∧ (0 ≤ bkB q n (gr c t q n n) → (see c t (lQ c t q n) n (sN c t q n s) → GT t n d c (lQ c t q n) (sN c t q n s)) ∧ (see (rC c t q n) t q n (sub t n d c (lQ c t q n) (sN c t q n s)) → GT t n d (rC c t q n) q (sub t n d c (lQ c t q n) (sN c t q n s))))
theorem GT_s {t : Nat → Int} {n d : Nat} {c q : Nat → Int} {s : Se} (h : GT t n (d + 1) c q s) : (∀ j, j < n → (0 ≤ c j ∧ c j ≤ 500) ∧ (1 ≤ t j ∧ t j ≤ 25) ∧ (0 ≤ q j ∧ q j ≤ 500)) ∧ (0 ≤ bkB q n (gr c t q n n) → (see c t (lQ c t q n) n (sN c t q n s) → GT t n d c (lQ c t q n) (sN c t q n s)) ∧ (see (rC c t q n) t q n (sub t n d c (lQ c t q n) (sN c t q n s)) → GT t n d (rC c t q n) q (sub t n d c (lQ c t q n) (sN c t q n s)))) := h
/-- a node as visited -/
def AV (z : St) (n : Nat) (c t q : Nat → Int) (s : Se) (p : Nat) : Prop := LD z 25 n c t q ∧ SE z (sN c t q n s) ∧ (bkB q n (gr c t q n n) < 0 → z.1 40 7 = iv (p : Int)) ∧ (0 ≤ bkB q n (gr c t q n n) → z.1 40 7 = iv ((p + 1 : Nat) : Int) ∧ z.1 48 p = iv (svB c t q n : Int) ∧ z.1 49 p = iv 0 ∧ z.1 50 p = iv (svQ c t q n) ∧ z.1 51 p = iv (svR c t q n))
def kpt (z z' : St) (p : Nat) : Prop := ∀ a, 48 ≤ a → a ≤ 51 → ∀ i, i < p → z'.1 a i = z.1 a i
theorem kpt.trans {z z1 z2 : St} {p : Nat} (h : kpt z z1 p) (g : kpt z1 z2 p) : kpt z z2 p := fun a e1 e2 i hi => by rw [g a e1 e2 i hi, h a e1 e2 i hi]
theorem kpt.mono {z z1 : St} {p r : Nat} (h : kpt z z1 p) (hr : r ≤ p) : kpt z z1 r := fun a e1 e2 i hi => h a e1 e2 i (by omega)
/-- what a tree below a visited node comes to -/
def RT (t : Nat → Int) (n d : Nat) : Prop := ∀ (c q : Nat → Int) (s : Se) (p x : Nat) (z : St), GT t n d c q s → AV z n c t q s p → p + d ≤ 1650 → (0 ≤ (sN c t q n s).1 ∧ (sN c t q n s).1 ≤ 500) → (0 ≤ s.2.1 ∧ s.2.1 + 2 * (tk t n d c q s : Int) + 1 ≤ 9000000) → x + 3 * tk t n d c q s ≤ 1000000 → ∃ z', (∀ G, f_X6_run_27 (G + 3 * tk t n d c q s) z 40 25 (iv (x : Int)) = f_X6_run_27 G z' 40 25 (iv ((x + 3 * tk t n d c q s : Nat) : Int))) ∧ SE z' (sv t n d c q s) ∧ LD z' 25 n c t q ∧ z'.1 40 7 = iv (p : Int) ∧ kpt z z' p ∧ Fr fS z z' ∧ (0 ≤ (sv t n d c q s).1 ∧ (sv t n d c q s).1 ≤ 500) ∧ s.2.1 ≤ (sv t n d c q s).2.1 ∧ (sv t n d c q s).2.1 ≤ s.2.1 + 2 * (tk t n d c q s : Int) + 1
section TREE
variable {z z1 z2 : St} {n p x d : Nat} {c t q : Nat → Int} {s : Se}
theorem rn_s {F : Nat} {o u : Nat} {x : Int32} : f_X6_run_27 (F + 1) z o u x = if 1000000 ≤ x then f_X6_run_59 z else f_X6_run_33 (f_X6_run_27 F) z o u x := rfl
theorem rn_st (hp : z.1 40 7 = iv ((p + 1 : Nat) : Int)) (p8 : p < 1650) (hx : x < 1000000) {P : Prop} [Decidable P] (g : f_X6_goOn z 40 25 = some (z1, ob P)) (F : Nat) : (P → f_X6_visitNode z1 40 25 = some z2 → f_X6_run_27 (F + 1) z 40 25 (iv (x : Int)) = f_X6_run_27 F z2 40 25 (iv ((x + 1 : Nat) : Int))) ∧ (¬ P → f_X6_run_27 (F + 1) z 40 25 (iv (x : Int)) = f_X6_run_27 F z1 40 25 (iv ((x + 1 : Nat) : Int))) := by
  have sx : sm (x : Int) := sm_k (by omega)
  have st : f_X6_run_27 (F + 1) z 40 25 (iv (x : Int)) = if P then (f_X6_visitNode z1 40 25).bind fun r1 => f_X6_run_27 F r1 40 25 (iv ((x + 1 : Nat) : Int)) else f_X6_run_27 F z1 40 25 (iv ((x + 1 : Nat) : Int)) := by
    rw [rn_s, show (1000000 : Int32) = iv 1000000 by decide, if_neg (fun e => by have := (iv_kle sx 1000000).mp e; omega)]
    unfold f_X6_run_33 f_X6_run_40 f_X6_run_48 f_X6_run_53
    rw [hp, n_0, if_neg (fun e => by have := (iv_le (sm_k (show p + 1 < 2147483648 by omega)) (sm_d 0)).mp e; omega), g, Option.bind_some, iv_s]
    show (if ob P = iv 0 then _ else _) = _
    unfold ob
    by_cases w : P
    · rw [if_pos w, if_pos w]
      rfl
    · rw [if_neg w, if_neg w]
      rfl
  rw [st]
  refine ⟨fun a b => by rw [if_pos a, b, Option.bind_some], fun a => by rw [if_neg a]⟩
theorem svN_b {f : Int} (h : 0 ≤ s.1 ∧ s.1 ≤ 500) (hf : 0 ≤ f) : (0 ≤ (svN f s).1 ∧ (svN f s).1 ≤ 500) ∧ (svN f s).2.1 = s.2.1 + 1 := by
  unfold svN
  by_cases g : s.1 = -1 ∨ f < s.1
  · rw [if_pos g]
    exact ⟨⟨hf, by show f ≤ 500; omega⟩, rfl⟩
  · rw [if_neg g]
    exact ⟨h, rfl⟩
theorem svN_2 {f : Int} : (svN f s).2.1 = s.2.1 + 1 := by
  unfold svN
  split <;> rfl
theorem GT_BD (h : ∀ j, j < n → (0 ≤ c j ∧ c j ≤ 500) ∧ (1 ≤ t j ∧ t j ≤ 25) ∧ (0 ≤ q j ∧ q j ≤ 500)) : BD n c t q := fun j hj => by
  have := h j hj
  omega
theorem gr_f0 (hB : BD n c t q) (hn : n ≤ 8) : 0 ≤ (gr c t q n n).2.2.2.2.2.2.1 := (gr_inv hB hn n (Nat.le_refl _)).1.2.2.2.1.1
/-- one edge and what lies below it -/
theorem hf_c (ih : RT t n d) (hp : z.1 40 7 = iv ((p + 1 : Nat) : Int)) (hd : p + 1 + d ≤ 1650) (hx : x + 3 * tkS t n d c q s + 1 ≤ 1000000) (g : f_X6_goOn z 40 25 = some (z1, ob ((bi c t q n 16).2.2.2.1 < s.1))) (hL : LD z1 25 n c t q) (hB : BD n c t q) (e40 : z1.1 40 = z.1 40) (hG : see c t q n s → GT t n d c q s) (hS : SE z s) (hs : 0 ≤ s.1 ∧ s.1 ≤ 500) (hs2 : 0 ≤ s.2.1 ∧ s.2.1 + 2 * (tkS t n d c q s : Int) + 1 ≤ 9000000) (hk : kpt z z1 p) (hf : Fr fS z z1) : ∃ z3, (∀ G, f_X6_run_27 (G + 3 * tkS t n d c q s + 1) z 40 25 (iv (x : Int)) = f_X6_run_27 G z3 40 25 (iv ((x + 3 * tkS t n d c q s + 1 : Nat) : Int))) ∧ SE z3 (sub t n d c q s) ∧ LD z3 25 n c t q ∧ z3.1 40 7 = iv ((p + 1 : Nat) : Int) ∧ kpt z1 z3 (p + 1) ∧ Fr fS z z3 ∧ (0 ≤ (sub t n d c q s).1 ∧ (sub t n d c q s).1 ≤ 500) ∧ s.2.1 ≤ (sub t n d c q s).2.1 ∧ (sub t n d c q s).2.1 ≤ s.2.1 + 2 * (tkS t n d c q s : Int) + 1 := by
  have h8 := hL.2.1
  have S1 : SE z1 s := by
    unfold SE at hS ⊢
    rw [e40]
    exact hS
  have p1 : z1.1 40 7 = iv ((p + 1 : Nat) : Int) := by rw [e40, hp]
  by_cases w : (bi c t q n 16).2.2.2.1 < s.1
  · have et : tkS t n d c q s = tk t n d c q s := by
      unfold tkS
      rw [if_pos w]
    have es : sub t n d c q s = sv t n d c q s := by
      unfold sub
      rw [if_pos w]
    rw [et] at hx hs2 ⊢
    rw [es]
    have d0 : 0 < d := by
      rcases Nat.eq_zero_or_pos d with e | e
      · subst e
        exact (hG w).elim
      · exact e
    obtain ⟨z2, v1, v2, v3, v4, v5, v6⟩ := vi_c hL hB p1 (by omega) S1 ⟨⟨by omega, by omega⟩, by omega, by omega⟩
    have av : AV z2 n c t q s (p + 1) := ⟨LD_25 hL (v5.mono (fun a e => by omega)), v2, v3, v4⟩
    have nb := svN_b (s := s) hs (gr_f0 hB h8)
    obtain ⟨z3, r1, r2, r3, r4, r5, r6, r7, r8, r9⟩ := ih c q s (p + 1) (x + 1) z2 (hG w) av hd nb.1 hs2 (by omega)
    refine ⟨z3, fun G => ?_, r2, r3, r4, (show kpt z1 z2 (p + 1) from v6).trans r5, (hf.trans (v5.mono (fun a e => by unfold fS; omega))).trans r6, r7, r8, r9⟩
    rw [(rn_st (z2 := z2) hp (by omega) (by omega) g (G + 3 * tk t n d c q s)).1 w v1, r1 G]
    congr 3
    omega
  · have et : tkS t n d c q s = 0 := by
      unfold tkS
      rw [if_neg w]
    have es : sub t n d c q s = s := by
      unfold sub
      rw [if_neg w]
    rw [et, es]
    exact ⟨z1, fun G => (rn_st (z2 := z) hp (by omega) (by omega) g G).2 w, S1, hL, p1, fun a _ _ i _ => rfl, hf, hs, by omega, by omega⟩
end TREE
