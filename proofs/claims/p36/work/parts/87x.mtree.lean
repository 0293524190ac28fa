/-! SEARCH: the tree of the model -/
def fM (a : Nat) : Prop := a = 68 ∨ (75 ≤ a ∧ a ≤ 87)
noncomputable def ms (t : Nat → Int) (n : Nat) : Nat → (Nat → Int) → (Nat → Int) → Se → Nat
  | 0, _, _, _ => 0
  | d + 1, c, q, s => if bkB q n (gr c t q n n) < 0 then 1 else 3 + (if (bi c t (lQ c t q n) n 16).2.2.2.1 < (sN c t q n s).1 then ms t n d c (lQ c t q n) (sN c t q n s) else 0) + (if (bi (rC c t q n) t q n 16).2.2.2.1 < (sub t n d c (lQ c t q n) (sN c t q n s)).1 then ms t n d (rC c t q n) q (sub t n d c (lQ c t q n) (sN c t q n s)) else 0)
noncomputable def msS (t : Nat → Int) (n d : Nat) (c q : Nat → Int) (s : Se) : Nat := if (bi c t q n 16).2.2.2.1 < s.1 then ms t n d c q s else 0
theorem ms_s {t : Nat → Int} {n d : Nat} {c q : Nat → Int} {s : Se} : ms t n (d + 1) c q s = if bkB q n (gr c t q n n) < 0 then 1 else 3 + msS t n d c (lQ c t q n) (sN c t q n s) + msS t n d (rC c t q n) q (sub t n d c (lQ c t q n) (sN c t q n s)) := rfl
def AVm (z : St) (n : Nat) (c t q : Nat → Int) (s : Se) (p : Nat) : Prop := MD z n c t q ∧ SEm z (sN c t q n s) ∧ z.1 68 30 = iv (p : Int) ∧ z.1 82 p = iv (svV c t q n) ∧ z.1 83 p = iv 0 ∧ (0 ≤ bkB q n (gr c t q n n) → z.1 84 p = iv (q (svB c t q n)) ∧ z.1 85 p = iv (c (svB c t q n)) ∧ z.1 86 p = iv (svQ c t q n) ∧ z.1 87 p = iv (svR c t q n))
theorem kpm.trans {z z1 z2 : St} {p : Nat} (h : kpm z z1 p) (g : kpm z1 z2 p) : kpm z z2 p := fun a e1 e2 i hi => by rw [g a e1 e2 i hi, h a e1 e2 i hi]
theorem kpm.mono {z z1 : St} {p r : Nat} (h : kpm z z1 p) (hr : r ≤ p) : kpm z z1 r := fun a e1 e2 i hi => h a e1 e2 i (by omega)
def k6 (z z' : St) : Prop := ∀ k, k68 k → z'.1 68 k = z.1 68 k
theorem k6.trans {z z1 z2 : St} (h : k6 z z1) (g : k6 z1 z2) : k6 z z2 := fun k hk => by rw [g k hk, h k hk]
def RTm (t : Nat → Int) (n d : Nat) : Prop := ∀ (c q : Nat → Int) (s : Se) (p : Nat) (z : St), GT t n d c q s → AVm z n c t q s p → p + d ≤ 400 → (0 ≤ (sN c t q n s).1 ∧ (sN c t q n s).1 ≤ 500) → (0 ≤ s.2.1 ∧ s.2.1 + (ms t n d c q s : Int) ≤ 9000000) → ∃ z', (∀ G, f_X11_search_23 (G + ms t n d c q s) z 68 = f_X11_search_23 G z' 68) ∧ SEm z' (sv t n d c q s) ∧ MD z' n c t q ∧ z'.1 68 30 = iv ((p : Int) - 1) ∧ kpm z z' p ∧ Fr fM z z' ∧ k6 z z' ∧ (0 ≤ (sv t n d c q s).1 ∧ (sv t n d c q s).1 ≤ 500) ∧ s.2.1 ≤ (sv t n d c q s).2.1 ∧ (sv t n d c q s).2.1 ≤ s.2.1 + (ms t n d c q s : Int)
section MTREE
variable {z z1 z2 : St} {n p d : Nat} {c t q : Nat → Int} {s : Se}
theorem fo_m (hL : MD z n c t q) (hB : BD n c t q) (h27 : z.1 68 27 = iv s.1) (ss : sm s.1) : ∃ z1, f_X11_follows z 68 = (if (bi c t q n 16).2.2.2.1 < s.1 then f_X11_visits (zI z1 68 30 (z1.1 68 30 + 1)) 68 else some z1) ∧ Fr (fun a => a = 81 ∨ a = 68) z z1 ∧ ∀ k, k ≠ 21 → z1.1 68 k = z.1 68 k := by
  obtain ⟨z1, b1, -, b3, b4⟩ := bk_of hL hB
  refine ⟨z1, ?_, b3, b4⟩
  unfold f_X11_follows f_X11_follows_0 f_X11_follows_11 f_X11_follows_25
  rw [b1, Option.bind_some]
  show (if z1.1 68 27 ≤ iv (bi c t q n 16).2.2.2.1 then some z1 else (f_X11_visits (zI z1 68 30 (z1.1 68 30 + 1)) 68).bind fun r1 => some r1) = _
  rw [b4 27 (by decide), h27]
  have e : ((f_X11_visits (zI z1 68 30 (z1.1 68 30 + 1)) 68).bind fun r1 => some r1) = f_X11_visits (zI z1 68 30 (z1.1 68 30 + 1)) 68 := by
    cases f_X11_visits (zI z1 68 30 (z1.1 68 30 + 1)) 68 <;> rfl
  rw [e]
  by_cases g : (bi c t q n 16).2.2.2.1 < s.1
  · rw [if_neg (fun w => by have := (iv_le ss (bi_sm hB hL.2.1)).mp w; exact absurd g (Int.not_lt.mpr this)), if_pos g]
  · rw [if_pos ((iv_le ss (bi_sm hB hL.2.1)).mpr (Int.not_lt.mp g)), if_neg g]
theorem hf_m (ih : RTm t n d) (hp : z.1 68 30 = iv (p : Int)) (hd : p + 1 + d ≤ 400) (hL : MD z n c t q) (hB : BD n c t q) (hG : see c t q n s → GT t n d c q s) (hS : SEm z s) (hs : 0 ≤ s.1 ∧ s.1 ≤ 500) (hs2 : 0 ≤ s.2.1 ∧ s.2.1 + (msS t n d c q s : Int) ≤ 9000000) : ∃ zf z3, f_X11_follows z 68 = some zf ∧ (∀ G, f_X11_search_23 (G + msS t n d c q s) zf 68 = f_X11_search_23 G z3 68) ∧ SEm z3 (sub t n d c q s) ∧ MD z3 n c t q ∧ z3.1 68 30 = iv (p : Int) ∧ kpm z z3 (p + 1) ∧ Fr fM z z3 ∧ k6 z z3 ∧ (0 ≤ (sub t n d c q s).1 ∧ (sub t n d c q s).1 ≤ 500) ∧ s.2.1 ≤ (sub t n d c q s).2.1 ∧ (sub t n d c q s).2.1 ≤ s.2.1 + (msS t n d c q s : Int) := by
  have h8 := hL.2.1
  obtain ⟨z1, o1, o2, o3⟩ := fo_m (s := s) hL hB hS.1 (nm4 hs)
  have o2' : Fr fM z z1 := o2.mono (fun a e => by unfold fM; omega)
  have ko : kpm z z1 (p + 1) := fun a e1 e2 i _ => by rw [(o2 a (by omega)).1]
  have k1 : k6 z z1 := fun k hk => o3 k (by unfold k68 at hk; omega)
  have hL1 : MD z1 n c t q := MD_fr hL (o3 5 (by decide)) (fun a e1 e2 => (o2 a (by omega)).1)
  have S1 : SEm z1 s := by
    unfold SEm at hS ⊢
    rw [o3 27 (by decide), o3 28 (by decide), o3 29 (by decide)]
    exact hS
  have p1 : z1.1 68 30 = iv (p : Int) := by rw [o3 30 (by decide), hp]
  by_cases w : (bi c t q n 16).2.2.2.1 < s.1
  · have et : msS t n d c q s = ms t n d c q s := by
      unfold msS
      rw [if_pos w]
    have es : sub t n d c q s = sv t n d c q s := by
      unfold sub
      rw [if_pos w]
    rw [et] at hs2 ⊢
    rw [es]
    rw [if_pos w, p1, iv_s] at o1
    have d0 : 0 < d := by
      rcases Nat.eq_zero_or_pos d with e | e
      · subst e
        exact (hG w).elim
      · exact e
    obtain ⟨zv, hzv⟩ : ∃ zv, zv = zI z1 68 30 (iv ((p + 1 : Nat) : Int)) := ⟨_, rfl⟩
    rw [← hzv] at o1
    have hLv : MD zv n c t q := MD_fr hL1 (by rw [hzv, rI, if_neg (by decide)]) (fun a e1 e2 => by rw [hzv, zI_n (by omega)])
    have Sv : SEm zv s := by
      unfold SEm at S1 ⊢
      rw [hzv, rI, if_neg (by decide), rI, if_neg (by decide), rI, if_neg (by decide)]
      exact S1
    have kv : k6 z1 zv := fun k hk => by rw [hzv, rI, if_neg (by unfold k68 at hk; omega)]
    obtain ⟨z2, v1, v2, v3, v4, v5, v6, v7, v8, v9, v10⟩ := vi_m hLv hB (p := p + 1) (by rw [hzv, rI, if_pos ⟨rfl, rfl⟩]) (by omega) Sv ⟨⟨by omega, by omega⟩, by omega, by omega⟩
    have nb := svN_b (s := s) hs (gr_f0 hB h8)
    obtain ⟨z3, r1, r2, r3, r4, r5, r6, r7, r8, r9, r10⟩ := ih c q s (p + 1) z2 (hG w) ⟨v3, v2, v4, v5, v6, v7⟩ hd nb.1 hs2
    have fv : Fr fM z1 zv := by
      rw [hzv]
      exact Fr.refl.zI (Or.inl rfl)
    refine ⟨z2, z3, by rw [o1, v1], r1, r2, r3, ?_, ((ko.trans (fun a e1 e2 i _ => by rw [hzv, zI_n (by omega)])).trans v8).trans r5, ((o2'.trans fv).trans (v9.mono (fun a e => by unfold fM; omega))).trans r6, ((k1.trans kv).trans v10).trans r7, r8, r9, r10⟩
    rw [r4]
    congr 1
    omega
  · have et : msS t n d c q s = 0 := by
      unfold msS
      rw [if_neg w]
    have es : sub t n d c q s = s := by
      unfold sub
      rw [if_neg w]
    rw [if_neg w] at o1
    rw [et, es]
    exact ⟨z1, z1, o1, fun G => rfl, S1, hL1, p1, ko, o2', k1, hs, Int.le_refl _, by omega⟩
end MTREE
