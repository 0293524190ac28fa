/-! SHEETS: copy -/
def cpS (s : Sh) (a i b j n : Nat) : Sh := (s.1, s.2.1, fun c k => if c = b ∧ j ≤ k ∧ k < j + n then s.2.2 a (i + (k - j)) else s.2.2 c k)
/-- forwards: from P on, to Q on -/
def cfZ (z : St) (P Q : Nat) : Nat → St
  | 0 => z
  | k + 1 => zL (cfZ z P Q k) 98 (Q + k) ((cfZ z P Q k).2 98 (P + k))
theorem cfZ_1 {z : St} {P Q : Nat} : ∀ k, (cfZ z P Q k).1 = z.1
  | 0 => rfl
  | k + 1 => cfZ_1 k
theorem cfZ_2 {z : St} {P Q n : Nat} (h : Q ≤ P ∨ P + n ≤ Q) : ∀ k, k ≤ n → ∀ b p, (cfZ z P Q k).2 b p = if b = 98 ∧ Q ≤ p ∧ p < Q + k then z.2 98 (P + (p - Q)) else z.2 b p
  | 0, _, b, p => by
    rw [if_neg (fun x => by omega)]
    rfl
  | k + 1, hk, b, p => by
    show (zL (cfZ z P Q k) 98 (Q + k) ((cfZ z P Q k).2 98 (P + k))).2 b p = _
    rw [rL, cfZ_2 h k (by omega) b p, cfZ_2 h k (by omega) 98 (P + k)]
    rw [if_neg (show ¬ (98 = 98 ∧ Q ≤ P + k ∧ P + k < Q + k) by omega)]
    by_cases e : b = 98 ∧ p = Q + k
    · rw [if_pos e, if_pos (by omega), show P + (p - Q) = P + k by omega]
    · rw [if_neg e]
      by_cases e2 : b = 98 ∧ Q ≤ p ∧ p < Q + k
      · rw [if_pos e2, if_pos (by omega)]
      · rw [if_neg e2, if_neg (by omega)]
/-- backwards -/
def cbZ (z : St) (P Q n : Nat) : Nat → St
  | 0 => z
  | k + 1 => zL (cbZ z P Q n k) 98 (Q + (n - 1 - k)) ((cbZ z P Q n k).2 98 (P + (n - 1 - k)))
theorem cbZ_1 {z : St} {P Q n : Nat} : ∀ k, (cbZ z P Q n k).1 = z.1
  | 0 => rfl
  | k + 1 => cbZ_1 k
theorem cbZ_2 {z : St} {P Q n : Nat} (h : P ≤ Q) : ∀ k, k ≤ n → ∀ b p, (cbZ z P Q n k).2 b p = if b = 98 ∧ Q + (n - k) ≤ p ∧ p < Q + n then z.2 98 (P + (p - Q)) else z.2 b p
  | 0, _, b, p => by
    rw [if_neg (fun x => by omega)]
    rfl
  | k + 1, hk, b, p => by
    show (zL (cbZ z P Q n k) 98 (Q + (n - 1 - k)) ((cbZ z P Q n k).2 98 (P + (n - 1 - k)))).2 b p = _
    rw [rL, cbZ_2 h k (by omega) b p, cbZ_2 h k (by omega) 98 (P + (n - 1 - k))]
    rw [if_neg (show ¬ (98 = 98 ∧ Q + (n - k) ≤ P + (n - 1 - k) ∧ P + (n - 1 - k) < Q + n) by omega)]
    by_cases e : b = 98 ∧ p = Q + (n - 1 - k)
    · rw [if_pos e, if_pos (by omega), show P + (p - Q) = P + (n - 1 - k) by omega]
    · rw [if_neg e]
      by_cases e2 : b = 98 ∧ Q + (n - k) ≤ p ∧ p < Q + n
      · rw [if_pos e2, if_pos (by omega)]
      · rw [if_neg e2, if_neg (by omega)]
section COPY
variable {z : St} {y : Sy} {s : Sh}
theorem hr_c (h : CS z s) (hV : ShV s) {i : Nat} (hi : i < 4) {x n : Int} (sx : sm x) (sn : sm n) : f_X7_holdsRow z (60 + 2 * i) (iv x) (iv n) = some (z, ob (0 ≤ x ∧ 0 ≤ n ∧ n ≤ s.2.1 i ∧ x ≤ s.2.1 i - n)) := by
  have b := (hV i hi).2.1
  unfold f_X7_holdsRow f_X7_holdsRow_0 f_X7_holdsRow_4 f_X7_holdsRow_8 f_X7_holdsRow_16 f_X7_holdsRow_26 f_X7_holdsRow_30 f_X7_holdsRow_31 ob
  rw [(h i hi).2.1]
  simp only [iv_lt0 sx, iv_lt0 sn, iv_lt (sm_k (show s.2.1 i < 2147483648 by omega)) sn, zb_0, zb_1, if_true]
  by_cases h1 : 0 ≤ n ∧ n ≤ s.2.1 i
  · have e := iv_lt (show sm ((s.2.1 i : Int) - n) from ⟨by omega, by omega⟩) sx
    simp only [iv_sub, e]
    grind
  · grind
abbrev cpP (s : Sh) (a b : Nat) (i j n : Int) : Prop := 0 ≤ n ∧ 0 ≤ i ∧ 0 ≤ j ∧ n ≤ s.2.1 a - i ∧ n ≤ s.2.1 b - j
theorem zC_2 {o b j : Nat} {f : Nat → Int64} : (zC z o f).2 b j = if b = o then f j else z.2 b j := by
  show (if b = o then f else z.2 b) j = _
  split <;> rfl
theorem CS_cp (h : CS z s) {a b i j n : Nat} (ha : a < 4) (hb : b < 4) (hi : i + n ≤ 40) (hj : j + n ≤ 40) : CS (zC z (61 + 2 * b) (va_cpy (z.2 (61 + 2 * a)) (z.2 (61 + 2 * b)) i j n)) (cpS s a i b j n) := fun k hk => by
  refine ⟨(h k hk).1, (h k hk).2.1, fun x hx => ?_⟩
  rw [zC_2]
  unfold cpS va_cpy
  by_cases e : k = b
  · subst e
    rw [if_pos rfl]
    by_cases e2 : j ≤ x ∧ x < j + n
    · rw [if_pos e2]
      show _ = if k = k ∧ j ≤ x ∧ x < j + n then _ else _
      rw [if_pos ⟨rfl, e2⟩]
      exact (h a ha).2.2 _ (by omega)
    · rw [if_neg e2]
      show _ = if k = k ∧ j ≤ x ∧ x < j + n then _ else _
      rw [if_neg (fun q => e2 q.2)]
      exact (h k hk).2.2 x hx
  · rw [if_neg (by omega)]
    show _ = if k = b ∧ j ≤ x ∧ x < j + n then _ else _
    rw [if_neg (fun q => e q.1)]
    exact (h k hk).2.2 x hx
theorem MS_cp (h : MS z s) {z' : St} {a b i j n : Nat} (ha : a < 4) (hb : b < 4) (hi : i + n ≤ 40) (hj : j + n ≤ 40) (h1 : z'.1 = z.1) (h2 : ∀ p, z'.2 98 p = if 40 * b + j ≤ p ∧ p < 40 * b + j + n then z.2 98 (40 * a + i + (p - (40 * b + j))) else z.2 98 p) : MS z' (cpS s a i b j n) := fun k hk => by
  rw [h1]
  refine ⟨(h k hk).1, (h k hk).2.1, fun x hx => ?_⟩
  rw [h2]
  show _ = if k = b ∧ j ≤ x ∧ x < j + n then s.2.2 a (i + (x - j)) else s.2.2 k x
  by_cases e : k = b ∧ j ≤ x ∧ x < j + n
  · obtain ⟨rfl, e1, e2⟩ := e
    rw [if_pos (by omega), if_pos ⟨rfl, e1, e2⟩, show 40 * a + i + (40 * k + x - (40 * k + j)) = 40 * a + (i + (x - j)) by omega]
    exact (h a ha).2.2 _ (by omega)
  · rw [if_neg e, if_neg (by omega)]
    exact (h k hk).2.2 x hx
theorem copy_c (h : CS z s) (hV : ShV s) {a b : Nat} {i j n : Int} (ha : a < 4) (hb : b < 4) (si : sm i) (sj : sm j) (sn : sm n) : f_X10_copy z 0 (iv (a : Int)) (iv i) (iv (b : Int)) (iv j) (iv n) = if s.1 a = -1 ∨ s.1 b = -1 then some (z, iv (-11)) else if s.1 a = s.1 b then (if cpP s a b i j n then some (zC z (61 + 2 * b) (va_cpy (z.2 (61 + 2 * a)) (z.2 (61 + 2 * b)) i.toNat j.toNat n.toNat), iv n) else some (z, iv (-12))) else some (z, iv (-13)) := by
  have va := hV a ha
  have vb := hV b hb
  unfold f_X10_copy f_X10_copy_0 f_X10_copy_8 f_X10_copy_19 f_X10_copy_43 f_X10_copy_51 f_X10_copy_54 f_X10_copy_67 f_X10_copy_70 f_X10_copy_81 f_X10_copy_96 f_X10_copy_93 f_X10_copy_16 f_X7_takeOver f_X7_takeOver_0 f_X7_takeOver_10 f_X7_takeOver_20 f_X7_takeOver_35
  rw [is_c (sm_k (by omega)), Option.bind_some]
  simp only [is_c (show sm (b : Int) from sm_k (by omega)), Option.bind_some, ob_0, show (0 ≤ (a : Int) ∧ (a : Int) < 4) from by omega, show (0 ≤ (b : Int) ∧ (b : Int) < 4) from by omega, not_true_eq_false, if_false, and_self, inb4 ha, inb4 hb, if_true, tn (show a < 2147483648 by omega), tn (show b < 2147483648 by omega), r0_13, (shA a ha).1, (shA b hb).1, (shA a ha).2, (shA b hb).2, mi_c h hV ha, mi_c h hV hb, hr_c h hV ha si sn, hr_c h hV hb sj sn, (h a ha).1, (h b hb).1, iv_eq (show sm (s.1 a) from ⟨by omega, by omega⟩) (show sm (s.1 b) from ⟨by omega, by omega⟩)]
  by_cases g1 : s.1 a = -1
  · simp only [g1, not_true_eq_false, if_false, true_or, if_true, n_m11]
  · simp only [g1, not_false_eq_true, if_true, false_or]
    by_cases g2 : s.1 b = -1
    · simp only [g2, not_true_eq_false, if_false, if_true, n_m11]
    · simp only [g2, not_false_eq_true, if_true, if_false]
      by_cases g3 : s.1 a = s.1 b
      · rw [if_pos g3, if_pos g3]
        unfold cpP
        by_cases g4 : 0 ≤ i ∧ 0 ≤ n ∧ n ≤ s.2.1 a ∧ i ≤ s.2.1 a - n
        · rw [if_neg (fun q => q g4)]
          by_cases g5 : 0 ≤ j ∧ 0 ≤ n ∧ n ≤ s.2.1 b ∧ j ≤ s.2.1 b - n
          · have e : cpOk (iv i) (iv j) (iv n) 40 40 = true := by
              unfold cpOk
              rw [iv_nat si, iv_nat sj, iv_nat sn]
              simp only [Bool.and_eq_true, decide_eq_true_eq, iv_lt0 si, iv_lt0 sj, iv_lt0 sn]
              omega
            rw [if_neg (fun q => q g5), if_neg (fun q => q g4), if_neg (fun q => q g5), e, if_pos rfl, if_pos (by omega), iv_nat si, iv_nat sj, iv_nat sn]
            rfl
          · rw [if_pos g5, if_neg (by omega), n_m12]
        · rw [if_pos g4, if_neg (by omega), n_m12]
      · rw [if_neg g3, if_neg g3, n_m13]
theorem iv_40 {a k : Nat} {i : Int} (hi : i = k) : (40 : Int32) * iv (a : Int) + iv i = iv ((40 * a + k : Nat) : Int) := by
  rw [hi, show (40 : Int32) = iv 40 by decide, iv_mul, iv_add]
  congr 1
theorem cf_of {a b i j n : Nat} (ha : a < 4) (hb : b < 4) (hi : i + n ≤ 40) (hj : j + n ≤ 40) : f_X11_copy_121 FU z 68 (iv (a : Int)) (iv (i : Int)) (iv (b : Int)) (iv (j : Int)) (iv (n : Int)) 0 0 = some (cfZ z (40 * a + i) (40 * b + j) n, iv (n : Int)) := by
  refine loop_up (n := n) (fun F k b' => f_X11_copy_121 F b' 68 (iv (a : Int)) (iv (i : Int)) (iv (b : Int)) (iv (j : Int)) (iv (n : Int)) 0 (iv (k : Int))) (cfZ z (40 * a + i) (40 * b + j)) (fun F => ?_) (fun F k hk => ?_) n 0 FU (by omega) (FU_8 (by omega))
  · show f_X11_copy_121 _ _ _ _ _ _ _ _ _ _ = _
    rw [f_X11_copy_121, if_pos sz_t]
    rfl
  · show f_X11_copy_121 _ _ _ _ _ _ _ _ _ _ = f_X11_copy_121 F (zL (cfZ z (40 * a + i) (40 * b + j) k) 98 (40 * b + j + k) ((cfZ z (40 * a + i) (40 * b + j) k).2 98 (40 * a + i + k))) 68 _ _ _ _ _ 0 (iv ((k + 1 : Nat) : Int))
    rw [f_X11_copy_121, if_neg (sz_f hk (by omega))]
    unfold f_X11_copy_128 f_X11_copy_143 f_X11_copy_145
    rw [if_pos rfl, iv_40 rfl, iv_40 rfl, iv_add, iv_add, show (((40 * a + i : Nat) : Int) + (k : Int)) = ((40 * a + i + k : Nat) : Int) by omega, show (((40 * b + j : Nat) : Int) + (k : Int)) = ((40 * b + j + k : Nat) : Int) by omega, inb_k (show 40 * a + i + k < 160 by omega) (by decide), inb_k (show 40 * b + j + k < 160 by omega) (by decide), if_pos rfl, if_pos rfl, tn (by omega), tn (by omega), r68_56, iv_s]
theorem cbk_of {a b i j n : Nat} (ha : a < 4) (hb : b < 4) (hi : i + n ≤ 40) (hj : j + n ≤ 40) : f_X11_copy_121 FU z 68 (iv (a : Int)) (iv (i : Int)) (iv (b : Int)) (iv (j : Int)) (iv (n : Int)) 1 0 = some (cbZ z (40 * a + i) (40 * b + j) n n, iv (n : Int)) := by
  refine loop_up (n := n) (fun F k b' => f_X11_copy_121 F b' 68 (iv (a : Int)) (iv (i : Int)) (iv (b : Int)) (iv (j : Int)) (iv (n : Int)) 1 (iv (k : Int))) (cbZ z (40 * a + i) (40 * b + j) n) (fun F => ?_) (fun F k hk => ?_) n 0 FU (by omega) (FU_8 (by omega))
  · show f_X11_copy_121 _ _ _ _ _ _ _ _ _ _ = _
    rw [f_X11_copy_121, if_pos sz_t]
    rfl
  · show f_X11_copy_121 _ _ _ _ _ _ _ _ _ _ = f_X11_copy_121 F (zL (cbZ z (40 * a + i) (40 * b + j) n k) 98 (40 * b + j + (n - 1 - k)) ((cbZ z (40 * a + i) (40 * b + j) n k).2 98 (40 * a + i + (n - 1 - k)))) 68 _ _ _ _ _ 1 (iv ((k + 1 : Nat) : Int))
    rw [f_X11_copy_121, if_neg (sz_f hk (by omega))]
    unfold f_X11_copy_128 f_X11_copy_133 f_X11_copy_145
    have e : iv (n : Int) - 1 - iv (k : Int) = iv ((n - 1 - k : Nat) : Int) := by
      rw [n_1, iv_sub, iv_sub]
      congr 1
      omega
    rw [if_neg (by decide), e, iv_40 rfl, iv_40 rfl, iv_add, iv_add, show (((40 * a + i : Nat) : Int) + ((n - 1 - k : Nat) : Int)) = ((40 * a + i + (n - 1 - k) : Nat) : Int) by omega, show (((40 * b + j : Nat) : Int) + ((n - 1 - k : Nat) : Int)) = ((40 * b + j + (n - 1 - k) : Nat) : Int) by omega, inb_k (show 40 * a + i + (n - 1 - k) < 160 by omega) (by decide), inb_k (show 40 * b + j + (n - 1 - k) < 160 by omega) (by decide), if_pos rfl, if_pos rfl, tn (by omega), tn (by omega), r68_56, iv_s]
theorem copy_m (h : MS z s) (hV : ShV s) {a b : Nat} {i j n : Int} (ha : a < 4) (hb : b < 4) (si : sm i) (sj : sm j) (sn : sm n) : f_X11_copy z 68 (iv (a : Int)) (iv i) (iv (b : Int)) (iv j) (iv n) = if s.1 a = -1 ∨ s.1 b = -1 then some (z, iv (-11)) else if s.1 a = s.1 b then (if cpP s a b i j n then some (if a = b ∧ i < j then cbZ z (40 * a + i.toNat) (40 * b + j.toNat) n.toNat n.toNat else cfZ z (40 * a + i.toNat) (40 * b + j.toNat) n.toNat, iv n) else some (z, iv (-12))) else some (z, iv (-13)) := by
  have va := hV a ha
  have vb := hV b hb
  obtain ⟨m1, m2, m3, m4, m5, m6⟩ := MS_at h hV ha
  obtain ⟨k1, k2, k3, k4, k5, k6⟩ := MS_at h hV hb
  have sa : sm (a : Int) := sm_k (by omega)
  have sb : sm (b : Int) := sm_k (by omega)
  unfold f_X11_copy f_X11_copy_0 f_X11_copy_7 f_X11_copy_17 f_X11_copy_26 f_X11_copy_38 f_X11_copy_56 f_X11_copy_61 f_X11_copy_65 f_X11_copy_70 f_X11_copy_83 f_X11_copy_100 f_X11_copy_105 f_X11_copy_111 f_X11_copy_115 f_X11_copy_116 f_X11_copy_14 f_X11_copy_35 f_X11_copy_53 f_X11_copy_97
  rw [is_m sa, Option.bind_some]
  simp only [is_m sb, Option.bind_some, ob_0, show (0 ≤ (a : Int) ∧ (a : Int) < 4) from by omega, show (0 ≤ (b : Int) ∧ (b : Int) < 4) from by omega, not_true_eq_false, if_false, and_self, inb4 ha, inb4 hb, if_true, tn (show a < 2147483648 by omega), tn (show b < 2147483648 by omega), r68_54, r68_55, m1, m2, m4, k1, k2, k3, iv_eq (show sm (s.1 a) from ⟨by omega, by omega⟩) (show sm (s.1 b) from ⟨by omega, by omega⟩), iv_lt0 si, iv_lt0 sj, iv_lt0 sn, iv_eq sa sb, iv_le sj si]
  by_cases g1 : s.1 a = -1
  · rw [if_pos g1, if_pos (Or.inl g1), n_m11]
  · rw [if_neg g1]
    by_cases g2 : s.1 b = -1
    · rw [if_neg (fun q => q g2), if_pos (Or.inr g2), n_m11]
    · rw [if_pos g2, if_neg (show ¬ (s.1 a = -1 ∨ s.1 b = -1) from fun q => q.elim g1 g2)]
      by_cases g3 : s.1 a = s.1 b
      · rw [if_pos g3, if_pos g3]
        unfold cpP
        by_cases q1 : n < 0
        · rw [if_pos q1, if_neg (by omega), n_m12]
        · by_cases q2 : i < 0
          · rw [if_neg q1, if_pos q2, if_neg (by omega), n_m12]
          · by_cases q3 : j < 0
            · rw [if_neg q1, if_neg q2, if_pos q3, if_neg (by omega), n_m12]
            · have sia : sm ((s.2.1 a : Int) - i) := ⟨by have := si.2; omega, by omega⟩
              have sjb : sm ((s.2.1 b : Int) - j) := ⟨by have := sj.2; omega, by omega⟩
              rw [if_neg q1, if_neg q2, if_neg q3]
              simp only [iv_sub, iv_lt sia sn, iv_le sn sjb]
              by_cases q4 : (s.2.1 a : Int) - i < n
              · rw [if_pos q4, if_neg (by omega), n_m12]
              · rw [if_neg q4]
                by_cases q5 : n ≤ (s.2.1 b : Int) - j
                · rw [if_pos q5, if_pos (show 0 ≤ n ∧ 0 ≤ i ∧ 0 ≤ j ∧ n ≤ (s.2.1 a : Int) - i ∧ n ≤ (s.2.1 b : Int) - j from by omega)]
                  obtain ⟨u, rfl⟩ : ∃ u : Nat, n = u := ⟨n.toNat, by omega⟩
                  obtain ⟨x, rfl⟩ : ∃ x : Nat, i = x := ⟨i.toNat, by omega⟩
                  obtain ⟨w, rfl⟩ : ∃ w : Nat, j = w := ⟨j.toNat, by omega⟩
                  simp only [Int.toNat_natCast]
                  rw [cf_of ha hb (by omega) (by omega), cbk_of ha hb (by omega) (by omega)]
                  by_cases e : a = b
                  · subst e
                    by_cases e2 : (x : Int) < w
                    · rw [if_pos rfl, if_neg (by omega), if_pos ⟨rfl, e2⟩]
                    · rw [if_pos rfl, if_pos (by omega), if_neg (fun q => e2 q.2)]
                  · rw [if_neg (by omega), if_neg (fun q => e q.1)]
                · rw [if_neg q5, if_neg (by omega), n_m12]
      · rw [if_neg g3, if_neg g3, n_m13]
theorem s_copy (h : INV z y) (a b c d e : Int32) : Both (f_X10_copy z 0 a b c d e) (fun z => f_X11_copy z 68 a b c d e) := by
  obtain ⟨p, sp, rfl⟩ := ex_iv a
  obtain ⟨i, si, rfl⟩ := ex_iv b
  obtain ⟨r, sr, rfl⟩ := ex_iv c
  obtain ⟨j, sj, rfl⟩ := ex_iv d
  obtain ⟨n, sn, rfl⟩ := ex_iv e
  have hC := h.1.2.2.2.2.2.1
  have hM := h.2.1.2.2.2.2
  have hV := h.2.2.2.2.2.2
  by_cases hp : 0 ≤ p ∧ p < 4
  · by_cases hr : 0 ≤ r ∧ r < 4
    · obtain ⟨a, rfl⟩ : ∃ a : Nat, p = a := ⟨p.toNat, by omega⟩
      obtain ⟨b, rfl⟩ : ∃ b : Nat, r = b := ⟨r.toNat, by omega⟩
      have ha : a < 4 := by omega
      have hb : b < 4 := by omega
      have p1 := copy_c hC hV ha hb si sj sn
      have p2 := copy_m hM hV ha hb si sj sn
      by_cases g1 : y.2.2.2.2.2.1 a = -1 ∨ y.2.2.2.2.2.1 b = -1
      · rw [if_pos g1] at p1 p2
        exact Both_s h p1 p2
      · by_cases g2 : y.2.2.2.2.2.1 a = y.2.2.2.2.2.1 b
        · by_cases g3 : cpP y.2.2.2.2.2 a b i j n
          · rw [if_neg g1, if_pos g2, if_pos g3] at p1
            have va := (hV a ha).2.1
            have vb := (hV b hb).2.1
            have g3' := g3
            unfold cpP at g3'
            have f1 : Fr (fun a => 60 ≤ a ∧ a ≤ 67) z (zC z (61 + 2 * b) (va_cpy (z.2 (61 + 2 * a)) (z.2 (61 + 2 * b)) i.toNat j.toNat n.toNat)) := fun o ho => ⟨rfl, by
              funext k
              rw [zC_2, if_neg (by omega)]⟩
            have hM' := MS_fr hM (fun a e1 e2 => f1 a (by omega))
            have p3 := copy_m hM' hV ha hb si sj sn
            rw [if_neg g1, if_pos g2, if_pos g3] at p3
            have b1 : i.toNat + n.toNat ≤ 40 := by omega
            have b2 : j.toNat + n.toNat ≤ 40 := by omega
            refine ⟨_, _, _, p1, p3, _, INV_s h f1 ?_ (CS_cp hC ha hb b1 b2) ?_ ?_⟩
            · split
              · rename_i q
                exact fun o ho => ⟨by rw [cbZ_1], by
                  funext k
                  rw [cbZ_2 (by omega) n.toNat (Nat.le_refl _), if_neg (by omega)]⟩
              · rename_i q
                exact fun o ho => ⟨by rw [cfZ_1], by
                  funext k
                  rw [cfZ_2 (n := n.toNat) (by omega) n.toNat (Nat.le_refl _), if_neg (by omega)]⟩
            · split
              · rename_i q
                refine MS_cp hM' ha hb b1 b2 (cbZ_1 _) (fun x => ?_)
                rw [cbZ_2 (by omega) n.toNat (Nat.le_refl _)]
                simp only [true_and, Nat.sub_self, Nat.add_zero]
              · rename_i q
                refine MS_cp hM' ha hb b1 b2 (cfZ_1 _) (fun x => ?_)
                rw [cfZ_2 (n := n.toNat) (by omega) n.toNat (Nat.le_refl _)]
                simp only [true_and]
            · exact fun k hk => hV k hk
          · rw [if_neg g1, if_pos g2, if_neg g3] at p1 p2
            exact Both_s h p1 p2
        · rw [if_neg g1, if_neg g2] at p1 p2
          exact Both_s h p1 p2
    · refine Both_s h (r := iv (-2)) ?_ ?_
      · unfold f_X10_copy f_X10_copy_0 f_X10_copy_8 f_X10_copy_16
        rw [is_c sp, Option.bind_some]
        simp only [is_c sr, Option.bind_some, ob_0, hp, hr, not_true_eq_false, not_false_eq_true, and_self, if_true, if_false, n_m2]
      · show f_X11_copy _ 68 _ _ _ _ _ = _
        unfold f_X11_copy f_X11_copy_0 f_X11_copy_7 f_X11_copy_14
        rw [is_m sp, Option.bind_some]
        simp only [is_m sr, Option.bind_some, ob_0, hp, hr, not_true_eq_false, not_false_eq_true, and_self, if_true, if_false, n_m2]
  · refine Both_s h (r := iv (-2)) ?_ ?_
    · unfold f_X10_copy f_X10_copy_0 f_X10_copy_16
      rw [is_c sp, Option.bind_some]
      simp only [ob_0, hp, not_false_eq_true, if_true, n_m2]
    · show f_X11_copy _ 68 _ _ _ _ _ = _
      unfold f_X11_copy f_X11_copy_0 f_X11_copy_14
      rw [is_m sp, Option.bind_some]
      simp only [ob_0, hp, not_false_eq_true, if_true, n_m2]
end COPY
