/-! THE MODEL's side of CRITICAL -/
theorem zI_id {z : St} {o k : Nat} {v : Int32} (h : z.1 o k = v) : zI z o k v = z := by
  refine Prod.ext (funext fun a => ?_) rfl
  by_cases e : a = o
  · subst e
    rw [zI_o]
    funext j
    unfold upd
    by_cases w : j = k
    · rw [if_pos w, w, h]
    · rw [if_neg w]
  · rw [zI_n e]
theorem iv_p1 (k : Nat) : iv ((k + 1 : Nat) : Int) + -1 = iv (k : Int) := by
  rw [n_m1, iv_add]
  congr 1
  omega
theorem iv_m1 (k : Nat) : iv ((k + 1 : Nat) : Int) - 1 = iv (k : Int) := by
  rw [n_1, iv_sub]
  congr 1
  omega
section LOOKS
variable {z : St} {n : Nat} {c t q : Nat → Int} {y : Ly}
theorem lk4 (hL : MD z n c t q) (hB : BD n c t q) (hM : MG z n y) (hW : WY n y) (hG : GI n t q y) (hs : y.1 = n) (hn : 0 < n) : f_X11_looks z 68 (iv y.2.2.2.2.2.2.1) = f_X11_looks_47 z 68 (iv (pl q y n)) := by
  have h8 := hL.2.1
  have hp : 0 ≤ pl q y n := by
    rcases hG.2.2.1 with w | ⟨i, i1, i2⟩
    · omega
    · exact pl_ex i2 n (by omega)
  refine loop_up (n := n) (fun F k b => f_X11_looks_4 F z 68 (iv y.2.2.2.2.2.2.1) (iv b) (iv (k : Int))) (fun k => max (pl q y k) 0) (fun F => ?_) (fun F k hk => ?_) n 0 FU (by omega) (FU_8 (by omega))
  · show f_X11_looks_4 _ _ _ _ _ _ = _
    rw [f_X11_looks_4, hL.1, if_pos sz_t, Int.max_eq_left hp]
  · show f_X11_looks_4 _ _ _ _ _ _ = f_X11_looks_4 F z 68 _ (iv (max (plS q y k (pl q y k)) 0)) _
    rw [f_X11_looks_4, hL.1, if_neg (sz_f hk (by omega))]
    have hr := hW.2.2.2.2.2 k (by omega)
    have hbit := hG.1 k (by omega)
    have h4 := hG.2.2.2 k (by omega)
    have pb := pl_b (q := q) (y := y) k
    obtain ⟨w1, w2, w3, w4, w5, w6⟩ := hW
    obtain ⟨-, e1, e2, e3, b1, b2, b3, b4, b5, b6, i1, i2⟩ := MD_at hL hB hr
    have ek : inb (iv (k : Int)) 8 = true := inb_k (by omega) (by omega)
    have kk : (iv (k : Int)).toNatClampNeg = k := iv_natN (by omega)
    have er := hM.1 k (by omega)
    have ee := (hM.2 _ hr hbit).2
    have ie := iv_eq (x := y.2.2.2.2.1 (y.2.2.1 k) + q (y.2.2.1 k)) (y := y.2.2.2.2.2.2.1) ⟨by omega, by omega⟩ ⟨by omega, by omega⟩
    unfold f_X11_looks_12 f_X11_looks_39 f_X11_looks_41 plS
    simp only [r68_16, r68_18, r68_15, ek, kk, er, i1, i2, ee, e3, iv_add, ie, iv_s, if_true]
    by_cases w : y.2.2.2.2.1 (y.2.2.1 k) + q (y.2.2.1 k) = y.2.2.2.2.2.2.1
    · rw [if_pos w, if_pos w, Int.max_eq_left (by omega)]
    · rw [if_neg w, if_neg w]
theorem lk49 (hB : BD n c t q) (hM : MG z n y) (hW : WY n y) (hG : GI n t q y) (hs : y.1 = n) (h8 : n ≤ 8) {lp : Nat} (hlp : lp < n) : ∀ (m F : Nat), m ≤ lp → m < F → f_X11_looks_49 F z 68 (iv (lp : Int)) (iv (m : Int)) = f_X11_looks_86 z 68 (iv (lp : Int)) (iv (fp y m : Int))
  | _, 0, _, h => absurd h (Nat.not_lt_zero _)
  | 0, F + 1, _, _ => by
    rw [f_X11_looks_49, if_pos (by rw [n_0]; exact Int32.le_refl _)]
    rfl
  | k + 1, F + 1, hm, hF => by
    have smk : sm ((k + 1 : Nat) : Int) := sm_k (by omega)
    rw [f_X11_looks_49, if_neg (fun x => by rw [n_0] at x; have := (iv_le smk (by constructor <;> decide)).mp x; omega)]
    have hrow : ∀ i, i < y.1 → y.2.2.1 i < n := hW.2.2.2.2.2
    have r1 := hrow (k + 1) (by omega)
    have r0 := hrow k (by omega)
    have t1 := hG.1 (k + 1) (by omega)
    have t0 := hG.1 k (by omega)
    have g1 := hG.2.2.2 (k + 1) (by omega)
    have g0 := hG.2.2.2 k (by omega)
    have q1 := hB _ r1
    have q0 := hB _ r0
    have we := hW.2.2.1
    have e1 := hM.1 (k + 1) (by omega)
    have e0 := hM.1 k (by omega)
    have f1 := (hM.2 _ r1 t1).1
    have f0 := (hM.2 _ r0 t0).2
    have ek : inb (iv (k : Int)) 8 = true := inb_k (by omega) (by omega)
    have kk : (iv (k : Int)).toNatClampNeg = k := iv_natN (by omega)
    have ek1 : inb (iv ((k + 1 : Nat) : Int)) 8 = true := inb_k (by omega) (by omega)
    have kk1 : (iv ((k + 1 : Nat) : Int)).toNatClampNeg = k + 1 := iv_natN (by omega)
    have i1 : inb (iv (y.2.2.1 (k + 1) : Int)) 8 = true := inb_k (by omega) (by omega)
    have j1 : (iv (y.2.2.1 (k + 1) : Int)).toNatClampNeg = y.2.2.1 (k + 1) := iv_natN (by omega)
    have i0 : inb (iv (y.2.2.1 k : Int)) 8 = true := inb_k (by omega) (by omega)
    have j0 : (iv (y.2.2.1 k : Int)).toNatClampNeg = y.2.2.1 k := iv_natN (by omega)
    have ie := iv_eq (x := y.2.2.2.2.1 (y.2.2.1 k)) (y := y.2.2.2.1 (y.2.2.1 (k + 1))) ⟨by omega, by omega⟩ ⟨by omega, by omega⟩
    unfold f_X11_looks_53 f_X11_looks_80
    simp only [iv_m1, iv_p1, r68_16, r68_18, r68_17, ek, kk, ek1, kk1, e1, e0, i1, i0, j1, j0, f1, f0, ie, if_true]
    have ih := lk49 hB hM hW hG hs h8 hlp k F (by omega) (by omega)
    have ef : fp y (k + 1) = if y.2.2.2.1 (y.2.2.1 (k + 1)) = y.2.2.2.2.1 (y.2.2.1 k) then fp y k else k + 1 := rfl
    rw [ef]
    by_cases w : y.2.2.2.1 (y.2.2.1 (k + 1)) = y.2.2.2.2.1 (y.2.2.1 k)
    · rw [if_pos w.symm, if_pos w]
      exact ih
    · rw [if_neg (fun x => w x.symm), if_neg w]
theorem lk128 (hL : MD z n c t q) (hB : BD n c t q) (hM : MG z n y) (hW : WY n y) (hs : y.1 = n) {lp fr : Nat} (hlp : lp < n) (hfr : fr ≤ lp) (h0 : z.1 68 22 = iv (y.2.2.1 lp : Int)) : ∀ (m F : Nat), m ≤ lp + 1 → m < F →
    f_X11_looks_128 F z 68 (iv (lp : Int)) (iv (fr : Int)) (iv ((m : Int) - 1)) = if bp q y (q (y.2.2.1 lp)) fr m < 0 then some z else f_X11_looks_171 z 68 (iv (lp : Int)) (iv (bp q y (q (y.2.2.1 lp)) fr m))
  | _, 0, _, h => absurd h (Nat.not_lt_zero _)
  | 0, F + 1, _, _ => by
    have h8 := hL.2.1
    have e : (iv (((0 : Nat) : Int) - 1)) = iv (-1) := rfl
    have sf : sm (fr : Int) := sm_k (by omega)
    rw [f_X11_looks_128, e, if_pos ((iv_lt (by constructor <;> decide) sf).mpr (by omega))]
    unfold f_X11_looks_164
    rw [if_neg (fun x => by have := (iv_le sf (by constructor <;> decide)).mp x; omega)]
    exact (if_pos (by show (-1 : Int) < 0; decide)).symm
  | m + 1, F + 1, hm, hF => by
    have h8 := hL.2.1
    have em : ((m + 1 : Nat) : Int) - 1 = (m : Int) := by omega
    have eb : bp q y (q (y.2.2.1 lp)) fr (m + 1) = if m < fr then -1 else if q (y.2.2.1 m) < q (y.2.2.1 lp) then (m : Int) else bp q y (q (y.2.2.1 lp)) fr m := rfl
    have smm : sm (m : Int) := sm_k (by omega)
    have sf : sm (fr : Int) := sm_k (by omega)
    rw [em, eb, f_X11_looks_128]
    by_cases w1 : m < fr
    · rw [if_pos ((iv_lt smm sf).mpr (by omega)), if_pos w1]
      unfold f_X11_looks_164
      rw [if_neg (fun x => by have := (iv_le sf smm).mp x; omega)]
      exact (if_pos (by decide)).symm
    · rw [if_neg (fun x => w1 (by have := (iv_lt smm sf).mp x; omega)), if_neg w1]
      have hrow : ∀ i, i < y.1 → y.2.2.1 i < n := hW.2.2.2.2.2
      have r1 := hrow m (by omega)
      have r2 := hrow lp (by omega)
      obtain ⟨-, -, -, e3, -, -, -, -, b5, b6, i1, i2⟩ := MD_at hL hB r1
      obtain ⟨-, -, -, g3, -, -, -, -, d5, d6, j1, j2⟩ := MD_at hL hB r2
      have ek : inb (iv (m : Int)) 8 = true := inb_k (by omega) (by omega)
      have kk : (iv (m : Int)).toNatClampNeg = m := iv_natN (by omega)
      have e1 := hM.1 m (by omega)
      have il := iv_lt (sm_b b5 b6) (sm_b d5 d6)
      unfold f_X11_looks_134 f_X11_looks_158
      simp only [r68_16, r68_15, ek, kk, e1, h0, i1, i2, j1, j2, e3, g3, il, if_true]
      by_cases w2 : q (y.2.2.1 m) < q (y.2.2.1 lp)
      · rw [if_pos w2, if_pos w2, if_neg (show ¬ (m : Int) < 0 by omega)]
        unfold f_X11_looks_164
        rw [if_pos ((iv_le sf smm).mpr (by omega))]
      · rw [if_neg w2, if_neg w2]
        have em2 : iv (m : Int) + -1 = iv ((m : Int) - 1) := by
          rw [n_m1, iv_add]
          rfl
        rw [em2]
        exact lk128 hL hB hM hW hs hlp hfr h0 m F (by omega) (by omega)
theorem lk188 (hM : ∀ k, k < y.1 → z.1 78 k = iv (y.2.2.1 k : Int)) (hW : WY n y) (hs : y.1 = n) (h8 : n ≤ 8) {lp lo : Nat} (hlp : lp < n) : ∀ (d k F : Nat), k + d = lp + 1 → d < F →
    f_X11_looks_188 F (zI z 68 25 (iv (mkR y.2.2.1 lo k : Int))) 68 (iv (lp : Int)) (iv (k : Int)) = some (zI z 68 25 (iv (if lo ≤ lp then mkR y.2.2.1 lo (lp + 1) else mkR y.2.2.1 lo k : Nat) : Int32)) ∨ k < lo
  | _, _, 0, _, h => absurd h (Nat.not_lt_zero _)
  | 0, k, F + 1, e, _ => by
    have e : k = lp + 1 := e
    subst e
    refine Or.inl ?_
    rw [f_X11_looks_188, if_pos ((iv_lt (sm_k (by omega)) (sm_k (by omega))).mpr (by omega))]
    unfold f_X11_looks_218
    split <;> rfl
  | d + 1, k, F + 1, e, hF => by
    by_cases hk : k < lo
    · exact Or.inr hk
    · refine Or.inl ?_
      have hrow : ∀ i, i < y.1 → y.2.2.1 i < n := hW.2.2.2.2.2
      have ml : mkR y.2.2.1 lo k < 256 := lt_256 h8 (mkR_lt (by omega) k (fun i hi => hrow i (by omega)))
      have r1 := hrow k (by omega)
      have bo := bit_or _ ml (y.2.2.1 k) (by omega)
      have ek : inb (iv (k : Int)) 8 = true := inb_k (by omega) (by omega)
      have kk : (iv (k : Int)).toNatClampNeg = k := iv_natN (by omega)
      have e1 := hM k (by omega)
      have es : mkR y.2.2.1 lo (k + 1) = mkR y.2.2.1 lo k ||| (1 <<< y.2.2.1 k) := if_pos (by omega)
      rw [f_X11_looks_188, if_neg (fun x => by have := (iv_lt (sm_k (show lp < 2147483648 by omega)) (sm_k (show k < 2147483648 by omega))).mp x; omega)]
      unfold f_X11_looks_194
      simp only [r68_16, ek, kk, rI, reduceIte, Nat.reduceEqDiff, false_and, and_self, e1, bo, iv_s, zI_same, ← es]
      rcases lk188 hM hW hs h8 hlp d (k + 1) F (by omega) (by omega) (lo := lo) with h | h
      · rw [h]
        by_cases w : lo ≤ lp
        · rw [if_pos w, if_pos w]
        · omega
      · omega
noncomputable def lk0 (q : Nat → Int) (n : Nat) (y : Ly) (z : St) : St := zI (zI (zI (zI (zI z 68 22 (iv (y.2.2.1 (pl q y n).toNat : Int))) 68 23 (iv (y.2.2.1 (fp y (pl q y n).toNat) : Int))) 68 26 (iv (((pl q y n).toNat : Int) - (fp y (pl q y n).toNat : Int) + 1))) 68 24 (iv (-1))) 68 25 (iv 0)
noncomputable def lkZ (q : Nat → Int) (n : Nat) (y : Ly) (z : St) : St := if bkB q n y < 0 then lk0 q n y z else zI (zI (lk0 q n y z) 68 24 (iv (y.2.2.1 (bkB q n y).toNat : Int))) 68 25 (iv (mkR y.2.2.1 ((bkB q n y).toNat + 1) ((pl q y n).toNat + 1) : Int))
theorem lk_of (hL : MD z n c t q) (hB : BD n c t q) (hM : MG z n y) (hW : WY n y) (hG : GI n t q y) (hs : y.1 = n) (hn : 0 < n) : f_X11_looks z 68 (iv y.2.2.2.2.2.2.1) = some (lkZ q n y z) := by
  have h8 := hL.2.1
  have hp : 0 ≤ pl q y n := by
    rcases hG.2.2.1 with w | ⟨i, i1, i2⟩
    · omega
    · exact pl_ex i2 n (by omega)
  have hpb := pl_b (q := q) (y := y) n
  rw [lk4 hL hB hM hW hG hs hn]
  unfold lkZ bkB lk0
  have hfl := fp_le (y := y) (pl q y n).toNat
  have ep : pl q y n = (((pl q y n).toNat : Nat) : Int) := by omega
  unfold f_X11_looks_47
  rw [ep]
  generalize (pl q y n).toNat = lp at *
  simp only [Int.toNat_natCast]
  rw [lk49 hB hM hW hG hs h8 (by omega) lp FU (Nat.le_refl _) (FU_8 (by omega))]
  unfold f_X11_looks_86
  have ek : inb (iv (lp : Int)) 8 = true := inb_k (by omega) (by omega)
  have kk : (iv (lp : Int)).toNatClampNeg = lp := iv_natN (by omega)
  have ef : inb (iv (fp y lp : Int)) 8 = true := inb_k (by omega) (by omega)
  have kf : (iv (fp y lp : Int)).toNatClampNeg = fp y lp := iv_natN (by omega)
  have e1 := hM.1 lp (by omega)
  have e2 := hM.1 (fp y lp) (by omega)
  simp only [r68_16, ek, kk, ef, kf, rI, reduceIte, Nat.reduceEqDiff, false_and, e1, e2, if_true, iv_sub]
  rw [show iv ((lp : Int) - (fp y lp : Int)) + 1 = iv ((lp : Int) - (fp y lp : Int) + 1) by rw [n_1, iv_add]]
  rw [n_m1, n_0]
  generalize hZ : zI (zI (zI (zI (zI z 68 22 (iv (y.2.2.1 lp : Int))) 68 23 (iv (y.2.2.1 (fp y lp) : Int))) 68 26 (iv ((lp : Int) - (fp y lp : Int) + 1))) 68 24 (iv (-1))) 68 25 (iv 0) = Z
  have hz : ∀ a, a ≠ 68 → Z.1 a = z.1 a := fun a h => by
    rw [← hZ, zI_n h, zI_n h, zI_n h, zI_n h, zI_n h]
  have z5 : Z.1 68 5 = z.1 68 5 := by
    rw [← hZ]
    simp only [rI, reduceIte, Nat.reduceEqDiff, and_false]
  have z22 : Z.1 68 22 = iv (y.2.2.1 lp : Int) := by
    rw [← hZ]
    simp only [rI, reduceIte, Nat.reduceEqDiff, and_false, and_true]
  have z25 : Z.1 68 25 = iv 0 := by
    rw [← hZ]
    simp only [rI, reduceIte, Nat.reduceEqDiff, and_true]
  have hL' : MD Z n c t q := MD_fr hL z5 (fun a h1 h2 => hz a (by omega))
  have hM' : MG Z n y := by
    unfold MG
    rw [hz 78 (by decide), hz 79 (by decide), hz 80 (by decide)]
    exact hM
  have h128 := lk128 hL' hB hM' hW hs (by omega) hfl z22 (lp + 1) FU (Nat.le_refl _) (FU_8 (by omega))
  rw [show ((lp + 1 : Nat) : Int) - 1 = (lp : Int) by omega] at h128
  rw [h128]
  have bb := bp_b (q := q) (y := y) (x := q (y.2.2.1 lp)) (fr := fp y lp) (lp + 1)
  by_cases w : bp q y (q (y.2.2.1 lp)) (fp y lp) (lp + 1) < 0
  · rw [if_pos w, if_pos w]
  · rw [if_neg w, if_neg w]
    rcases bb with h | ⟨b1, b2, b3⟩
    · omega
    · have eb : bp q y (q (y.2.2.1 lp)) (fp y lp) (lp + 1) = (((bp q y (q (y.2.2.1 lp)) (fp y lp) (lp + 1)).toNat : Nat) : Int) := by omega
      generalize (bp q y (q (y.2.2.1 lp)) (fp y lp) (lp + 1)).toNat = p at *
      rw [eb]
      have hne : p ≠ lp := fun x => by
        rw [x] at b3
        omega
      unfold f_X11_looks_171
      have pk : inb (iv (p : Int)) 8 = true := inb_k (by omega) (by omega)
      have pp : (iv (p : Int)).toNatClampNeg = p := iv_natN (by omega)
      have e3 := hM'.1 p (by omega)
      simp only [r68_16, pk, pp, e3, iv_s, if_true]
      have z25' : (zI Z 68 24 (iv (y.2.2.1 p : Int))).1 68 25 = iv (mkR y.2.2.1 (p + 1) (p + 1) : Int) := by
        rw [rI, if_neg (by simp), z25, mkR_out (p + 1) (Nat.le_refl _)]
        rfl
      have hM2 : ∀ k, k < y.1 → (zI Z 68 24 (iv (y.2.2.1 p : Int))).1 78 k = iv (y.2.2.1 k : Int) := fun k hk => by
        rw [zI_n (by decide)]
        exact hM'.1 k hk
      have h188 := lk188 hM2 hW hs h8 (by omega) (lp - p) (p + 1) FU (by omega) (FU_8 (by omega)) (lo := p + 1) (lp := lp)
      rw [zI_id z25'] at h188
      rcases h188 with h | h
      · rw [h, if_pos (by omega)]
      · omega
end LOOKS
