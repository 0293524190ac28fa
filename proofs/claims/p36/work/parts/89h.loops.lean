/-! P36: GREEDY beside what was in truth; hour by hour; the start -/
section LOO
variable {z : St} {xs : Nat → Int32} {L n : Nat} {v : Nat → Nat → Int} {x : Tr}
noncomputable abbrev gT (n : Nat) (v : Nat → Nat → Int) (m : Nat) : Tr := goT (cmO v) (tkO v) (clO v) n tr0 m
theorem l_290 (hL : L ≤ 260) (h8 : n ≤ 8) {m : Nat} (hm : 1 ≤ m ∧ m ≤ 60) : ∀ (d k F : Nat) (z : St), k + d = m → d < F → IK z (YL n v (gT n v k) b00) → ∃ z', f_L_law_290 xs L F z 0 (iv (n : Int)) (stV n v tr0 0) (iv (m : Int)) (stV n v (gT n v m) 0) (iv (k : Int)) = some (z', 1)
  | _, _, 0, _, _, hF, _ => absurd hF (Nat.not_lt_zero _)
  | 0, k, F + 1, z, e, _, h => by
    have e : k = m := e
    subst e
    obtain ⟨z1, e1⟩ := l_329 (xs := xs) hL h8 h
    refine ⟨z1, ?_⟩
    rw [f_L_law_290, if_pos sz_t]
    unfold f_L_law_317
    rw [l_state h, Option.bind_some, if_pos (lc_eq _)]
    exact e1
  | d + 1, k, F + 1, z, e, hF, h => by
    have t1 : (gT n v k).1 = (k : Int) := by
      show (goT _ _ _ _ tr0 k).1 = _
      rw [goT_1]
      show (0 : Int) + k = k
      omega
    obtain ⟨z1, e1, h1⟩ := p_go h (m := 1) (by decide) (by show (gT n v k).1 + ((1 : Nat) : Int) ≤ 999; omega)
    have h1 : IK z1 (YL n v (gT n v (k + 1)) b00) := h1
    have e1 : f_X10_go z 0 1 = some (z1, iv (k : Int) + 1) := by
      rw [n_1, iv_add, ← t1]
      exact e1
    obtain ⟨z2, e2⟩ := l_290 hL h8 hm d (k + 1) F z1 (by omega) (by omega) h1
    refine ⟨z2, ?_⟩
    rw [f_L_law_290, if_neg (sz_f (by omega) (by omega))]
    unfold f_L_law_297
    rw [e1, Option.bind_some]
    dsimp only
    rw [if_pos rfl]
    unfold f_L_law_311
    rw [iv_s]
    exact e2
theorem l_255 (hL : L ≤ 260) (h8 : n ≤ 8) {m : Nat} (hm : 1 ≤ m ∧ m ≤ 60) (h : IK z (YL n v (gT n v m) b00)) : ∃ z', f_L_law_255 xs L z 0 (iv (n : Int)) (stV n v tr0 0) (iv (m : Int)) (stV n v (gT n v m) 0) (iv (tks (cmO v) (tkO v) (clO v) n (m : Int) n)) = some (z', 1) := by
  have hB := BD_O h.2.1
  have g := (go_v hB h8 (go_all hB h8 m)).2
  obtain ⟨z1, e1, h1⟩ := p_back h rfl
  have h1 : IK z1 (YL n v tr0 b00) := h1
  have e1 : f_X10_back z 0 = some (z1, iv (n : Int)) := e1
  obtain ⟨z2, e2⟩ := l_290 (xs := xs) hL h8 hm m 0 FU z1 (by omega) (FU_8 (by omega)) h1
  refine ⟨z2, ?_⟩
  unfold f_L_law_255
  rw [q_bench h (sm_d 3) n_3, Option.bind_some]
  dsimp only
  rw [if_pos (show iv (beV (gT n v m) 3) = iv (m : Int) - iv (tks (cmO v) (tkO v) (clO v) n (m : Int) n) by
    rw [iv_sub]
    show iv (goT (cmO v) (tkO v) (clO v) n tr0 m).2.2.2.2.2.1 = _
    rw [g])]
  unfold f_L_law_268
  rw [e1, Option.bind_some]
  dsimp only
  rw [if_pos rfl]
  unfold f_L_law_276
  rw [l_state h1, Option.bind_some, if_pos (lc_eq _)]
  unfold f_L_law_287
  exact e2
theorem l_98 (h8 : n ≤ 8) {m : Nat} (hm : 1 ≤ m ∧ m ≤ 60) (h : IK z (YL n v (gT n v m) b00)) {k : Nat} (hk : k < n) {K : St → Nat → Int32 → Int64 → Int32 → Int64 → Int32 → Int32 → Option (St × Int32)} {y3 y6 : Int64} : ∃ z', f_L_law_98 xs L K z 0 (iv (n : Int)) y3 (iv (m : Int)) y6 (iv (tks (cmO v) (tkO v) (clO v) n (m : Int) k)) (iv (k : Int)) = K z' 0 (iv (n : Int)) y3 (iv (m : Int)) y6 (iv (tks (cmO v) (tkO v) (clO v) n (m : Int) (k + 1))) (iv ((k + 1 : Nat) : Int)) ∧ IK z' (YL n v (gT n v m) b00) := by
  have hB : BD n (cmO v) (tkO v) (clO v) := BD_O h.2.1
  obtain ⟨w1, w2, w3, w4⟩ := (go_v hB h8 (go_all hB h8 m)).1 k hk
  obtain ⟨H, hH⟩ : ∃ H, H = gH (cmO v) (tkO v) (clO v) n k := ⟨_, rfl⟩
  obtain ⟨E, hE⟩ : ∃ E, E = gE (cmO v) (tkO v) (clO v) n (k + 1) := ⟨_, rfl⟩
  obtain ⟨j, hj⟩ : ∃ j, j = gJ (cmO v) (tkO v) (clO v) n k := ⟨_, rfl⟩
  obtain ⟨T, hT⟩ : ∃ T, T = tks (cmO v) (tkO v) (clO v) n (m : Int) k := ⟨_, rfl⟩
  obtain ⟨g1, g2, g3, g4, g5, g6, g7, g8⟩ := gs hB h8 hk
  have gr1 := gr_at hB h8 n (Nat.le_refl _) k hk
  have H0 := gH_ge hB h8 (k := 0) (i := k) (by omega) hk
  have E0 : gE (cmO v) (tkO v) (clO v) n 0 = 0 := rfl
  have wy := (gr_inv hB h8 (k + 1) (by omega))
  have EB : gE (cmO v) (tkO v) (clO v) n (k + 1) ≤ 2000 + 25 * ((gr (cmO v) (tkO v) (clO v) n (k + 1)).1 : Int) := wy.1.2.2.1.2
  rw [wy.2.2] at EB
  have T1 := tks_b (h := (m : Int)) (by omega) hB h8 k (by omega)
  have T2 : (m : Int) * (k : Int) ≤ 60 * 8 := Int.mul_le_mul (by omega) (by omega) (by omega) (by omega)
  have eT : tks (cmO v) (tkO v) (clO v) n (m : Int) (k + 1) = T + max 0 (min (m : Int) E - min (m : Int) H) := by
    rw [hT, hE, hH]
    rfl
  rw [← hj] at g1 g5 g7 w1 w2 w3 w4 gr1
  rw [← hH] at g1 g3 w1 w2 w4 gr1 H0
  rw [← hE] at g1 w3 w4 EB
  rw [← hT] at T1
  rw [eT, ← hT]
  have sH : sm H := ⟨by omega, by omega⟩
  have sE : sm E := ⟨by omega, by omega⟩
  have smm : sm (m : Int) := sm_k (by omega)
  have sj : sm (j : Int) := sm_k (by omega)
  obtain ⟨z1, e1, h1⟩ := q_greedy h (a := iv (k : Int)) (b := 0) (k := (k : Int)) (w := 0) rfl n_0 (sm_k (by omega)) (sm_d 0) (by decide) ⟨by omega, by show (k : Int) < n; omega⟩
  obtain ⟨z2, e2, h2⟩ := q_greedy h1 (a := iv (k : Int)) (b := 1) (k := (k : Int)) (w := 1) rfl n_1 (sm_k (by omega)) (sm_d 1) (by decide) ⟨by omega, by show (k : Int) < n; omega⟩
  have gd0 : gdV (YL n v (gT n v m) b00) (k : Int) 0 = (j : Int) := by
    unfold gdV
    rw [if_neg (by omega), if_pos rfl, Int.toNat_natCast]
    exact congrArg _ gr1.1
  have gd1 : gdV (YL n v (gT n v m) b00) (k : Int) 1 = H := by
    unfold gdV
    rw [if_neg (by omega), if_neg (by decide), Int.toNat_natCast]
    have e := gr1.2
    rw [← gr1.1] at e
    exact e
  rw [gd0] at e1
  rw [gd1] at e2
  have d5 : f_X10_told z2 0 (iv (j : Int)) 5 = some (z2, iv (tkO v j)) := q_toldk h2 (k := j) g5 (w := 5) (by decide) rfl (by decide)
  have bg := q_began h2 sj rfl
  have bgE : bgV n (gT n v m) (j : Int) = if H < (m : Int) then H else -1 := by
    unfold bgV
    rw [if_pos ⟨by omega, by omega⟩, Int.toNat_natCast]
    by_cases q : H < (m : Int)
    · rw [if_pos q, if_pos (w1.mpr q), w2 q]
    · rw [if_neg q, if_neg (fun e => q (w1.mp e))]
  have bg : f_X10_began z2 0 (iv (j : Int)) = some (z2, iv (if H < (m : Int) then H else -1)) := by
    rw [← bgE]
    exact bg
  have b2 : f_X10_bench z2 0 2 = some (z2, iv ((gT n v m).2.2.2.2.1 : Int)) := q_bench h2 (sm_d 2) n_2
  have b1 : f_X10_bench z2 0 1 = some (z2, iv (gT n v m).2.1) := q_bench h2 (sm_d 1) n_1
  have tw : (gT n v m).2.2.2.2.1 < 2 ^ n := h.2.2.2.2.1.1.2.2.2.2.1
  have ta : -1 ≤ (gT n v m).2.1 ∧ (gT n v m).2.1 < n := h.2.2.2.2.1.1.2.1
  have sat : sm (gT n v m).2.1 := ⟨by omega, by omega⟩
  have bit := bit_all1 (gT n v m).2.2.2.2.1 (lt_256 h8 tw) j (by omega)
  have w4' : (iv (gT n v m).2.1 = iv (j : Int)) ↔ (H < (m : Int) ∧ (m : Int) < E) := (iv_eq sat sj).trans w4
  have bit' : (((iv ((gT n v m).2.2.2.2.1 : Int)) >>> ((iv (j : Int)) &&& 31)) &&& 1 = 1) ↔ E ≤ (m : Int) := bit.trans w3
  refine ⟨z2, ?_, h2⟩
  have ee : iv H + iv (tkO v j) = iv E := by
    rw [iv_add]
    exact congrArg iv g1.symm
  have last : f_L_law_225 xs L K z2 0 (iv (n : Int)) y3 (iv (m : Int)) y6 (iv T) (iv (k : Int)) (iv H) (iv E) = K z2 0 (iv (n : Int)) y3 (iv (m : Int)) y6 (iv (T + max 0 (min (m : Int) E - min (m : Int) H))) (iv ((k + 1 : Nat) : Int)) := by
    unfold f_L_law_225
    rw [iv_min smm sE, iv_min smm sH, iv_sub, n_0, iv_max (sm_d 0) ⟨by omega, by omega⟩, iv_add, iv_s]
  have at1 : f_L_law_186 xs L K z2 0 (iv (n : Int)) y3 (iv (m : Int)) y6 (iv T) (iv (k : Int)) (iv (j : Int)) (iv H) (iv E) = K z2 0 (iv (n : Int)) y3 (iv (m : Int)) y6 (iv (T + max 0 (min (m : Int) E - min (m : Int) H))) (iv ((k + 1 : Nat) : Int)) := by
    unfold f_L_law_186
    rw [b1, Option.bind_some]
    dsimp only
    have e201 : ∀ s : Int32, f_L_law_201 xs L K z2 0 (iv (n : Int)) y3 (iv (m : Int)) y6 (iv T) (iv (k : Int)) (iv H) (iv E) s = f_L_law_220 xs L K z2 0 (iv (n : Int)) y3 (iv (m : Int)) y6 (iv T) (iv (k : Int)) (iv H) (iv E) s (if H < (m : Int) ∧ (m : Int) < E then 1 else 0) := fun s => by
      unfold f_L_law_201 f_L_law_208 f_L_law_219 f_L_law_215
      simp only [iv_le smm sH, iv_le sE smm]
      by_cases q1 : (m : Int) ≤ H
      · rw [if_pos q1, if_neg (fun e => by omega)]
      · rw [if_neg q1]
        by_cases q2 : E ≤ (m : Int)
        · rw [if_pos q2, if_neg (fun e => by omega)]
        · rw [if_neg q2, if_pos ⟨by omega, by omega⟩]
    by_cases q : H < (m : Int) ∧ (m : Int) < E
    · rw [if_pos (w4'.mpr q)]
      unfold f_L_law_196
      rw [e201, if_pos q]
      unfold f_L_law_220
      rw [if_pos rfl]
      exact last
    · rw [if_neg (fun e => q (w4'.mp e))]
      unfold f_L_law_200
      rw [e201, if_neg q]
      unfold f_L_law_220
      rw [if_pos rfl]
      exact last
  have mid : f_L_law_152 xs L K z2 0 (iv (n : Int)) y3 (iv (m : Int)) y6 (iv T) (iv (k : Int)) (iv (j : Int)) (iv H) (iv E) = K z2 0 (iv (n : Int)) y3 (iv (m : Int)) y6 (iv (T + max 0 (min (m : Int) E - min (m : Int) H))) (iv ((k + 1 : Nat) : Int)) := by
    unfold f_L_law_152
    rw [b2, Option.bind_some]
    dsimp only
    by_cases q : E ≤ (m : Int)
    · rw [if_pos (bit'.mpr q)]
      unfold f_L_law_166 f_L_law_171
      rw [if_neg (fun e => by have := (iv_lt smm sE).mp e; omega)]
      unfold f_L_law_178 f_L_law_183
      rw [if_pos rfl]
      exact at1
    · rw [if_neg (fun e => q (bit'.mp e))]
      unfold f_L_law_170 f_L_law_171
      rw [if_pos ((iv_lt smm sE).mpr (by omega))]
      unfold f_L_law_182 f_L_law_183
      rw [if_pos rfl]
      exact at1
  unfold f_L_law_98
  rw [e1, Option.bind_some]
  dsimp only
  rw [e2, Option.bind_some]
  dsimp only
  rw [d5, Option.bind_some]
  dsimp only
  rw [bg, Option.bind_some]
  dsimp only
  rw [ee]
  by_cases q : (m : Int) ≤ H
  · rw [if_pos ((iv_le smm sH).mpr q), if_neg (by omega)]
    unfold f_L_law_146 f_L_law_147
    rw [if_pos n_m1.symm]
    exact mid
  · rw [if_neg (fun e => q ((iv_le smm sH).mp e)), if_pos (by omega)]
    unfold f_L_law_141 f_L_law_147
    rw [if_pos rfl]
    exact mid
theorem l_92 (hL : L ≤ 260) (h8 : n ≤ 8) {m : Nat} (hm : 1 ≤ m ∧ m ≤ 60) : ∀ (d k F : Nat) (z : St), k + d = n → d < F → IK z (YL n v (gT n v m) b00) → ∃ z', f_L_law_92 xs L F z 0 (iv (n : Int)) (stV n v tr0 0) (iv (m : Int)) (stV n v (gT n v m) 0) (iv (tks (cmO v) (tkO v) (clO v) n (m : Int) k)) (iv (k : Int)) = some (z', 1)
  | _, _, 0, _, _, hF, _ => absurd hF (Nat.not_lt_zero _)
  | 0, k, F + 1, z, e, _, h => by
    have e : k = n := e
    subst e
    rw [f_L_law_92, if_pos sz_t]
    exact l_255 hL h8 hm h
  | d + 1, k, F + 1, z, e, hF, h => by
    obtain ⟨z1, e1, h1⟩ := l_98 (xs := xs) (L := L) h8 hm h (k := k) (by omega) (K := f_L_law_92 xs L F) (y3 := stV n v tr0 0) (y6 := stV n v (gT n v m) 0)
    obtain ⟨z2, e2⟩ := l_92 hL h8 hm d (k + 1) F z1 (by omega) (by omega) h1
    refine ⟨z2, ?_⟩
    rw [f_L_law_92, if_neg (sz_f (by omega) (by omega)), e1]
    exact e2
theorem l_22 (hL : L ≤ 260) (h8 : n ≤ 8) (h : IK z (yN yS n v)) : ∃ z', f_L_law_22 xs L z 0 = some (z', 1) := by
  obtain ⟨z1, e1, h1⟩ := p_image h
  have h1 : IK z1 (YL n v tr0 b00) := h1
  have e1 : f_X10_image z 0 = some (z1, iv (n : Int)) := e1
  have c0 : f_X10_count z 0 0 = some (z, iv (n : Int)) := q_count h (sm_d 0) n_0
  obtain ⟨a3, h3⟩ := at_of (xs := xs) hL (k := 3) (by decide)
  have e3 : ∀ z : St, f_L_at xs L z 3 = some (z, a3) := h3
  obtain ⟨N, j1, j2⟩ := some_of (a := a3) (N := 60) (by decide)
  have j2 : ∀ z : St, f_L_some z a3 60 = some (z, iv N) := j2
  obtain ⟨m, hm⟩ : ∃ m : Nat, (m : Int) = 1 + N := ⟨(1 + N).toNat, by omega⟩
  have m1 : 1 ≤ m ∧ m ≤ 60 := by omega
  have em : (1 : Int32) + iv N = iv (m : Int) := by rw [n_1, iv_add, hm]
  obtain ⟨z2, e2, h2⟩ := p_go h1 (m := m) m1 (by show (0 : Int) + m ≤ 999; omega)
  have h2 : IK z2 (YL n v (gT n v m) b00) := h2
  have e2 : f_X10_go z1 0 (iv (m : Int)) = some (z2, iv (m : Int)) := by
    have : (YL n v tr0 b00).2.2.2.2.1.1 + (m : Int) = (m : Int) := by
      show (0 : Int) + m = m
      omega
    rw [this] at e2
    exact e2
  have t1 : (gT n v m).1 = (m : Int) := by
    show (goT _ _ _ _ tr0 m).1 = _
    rw [goT_1]
    show (0 : Int) + m = m
    omega
  obtain ⟨z3, e4⟩ := l_92 (xs := xs) hL h8 m1 n 0 FU z2 (by omega) (FU_8 (by omega)) h2
  refine ⟨z3, ?_⟩
  unfold f_L_law_22
  rw [c0, Option.bind_some]
  dsimp only
  rw [e1, Option.bind_some]
  dsimp only
  rw [if_pos rfl]
  unfold f_L_law_38
  rw [l_state h1, Option.bind_some]
  dsimp only
  rw [e3, Option.bind_some]
  dsimp only
  rw [j2, Option.bind_some]
  dsimp only
  rw [em, e2, Option.bind_some]
  dsimp only
  rw [if_pos rfl]
  unfold f_L_law_68
  rw [q_bench h2 (sm_d 0) n_0, Option.bind_some]
  dsimp only
  rw [if_pos (show iv (beV (gT n v m) 0) = iv (m : Int) from congrArg iv t1)]
  unfold f_L_law_80
  rw [l_state h2, Option.bind_some]
  exact e4
/-! the bench that the law makes -/
theorem lb_53 {N : Nat} (hN : N ≤ 8) {W : Int} (hW : 2 ≤ W ∧ W ≤ 31) : ∀ (d k F : Nat) (z : St) (x2 : Int32) (v : Nat → Nat → Int), k + d = N → d < F → IK z (yN yS k v) → ∃ z' v', f_L_bench_53 xs L F z 0 x2 (iv (N : Int)) (iv W) (iv (k : Int)) = some (z', 0) ∧ IK z' (yN yS N v')
  | _, _, 0, _, _, _, _, hF, _ => absurd hF (Nat.not_lt_zero _)
  | 0, k, F + 1, z, x2, v, e, _, h => by
    have e : k = N := e
    subst e
    refine ⟨z, v, ?_, h⟩
    rw [f_L_bench_53, if_pos sz_t]
    rfl
  | d + 1, k, F + 1, z, x2, v, e, hF, h => by
    obtain ⟨r1, p1, q1⟩ := some_of (a := ((x2 * 1103515245) + 12345) >>> (7 &&& 31)) (N := 6) (by decide)
    obtain ⟨r2, p2, q2⟩ := some_of (a := ((x2 * 1103515245) + 12345) >>> (10 &&& 31)) (N := W) ⟨by omega, by omega⟩
    obtain ⟨r3, p3, q3⟩ := some_of (a := ((x2 * 1103515245) + 12345) >>> (15 &&& 31)) (N := 12) (by decide)
    obtain ⟨r4, p4, q4⟩ := some_of (a := ((x2 * 1103515245) + 12345) >>> (19 &&& 31)) (N := 25) (by decide)
    have q1 : ∀ z : St, f_L_some z (((x2 * 1103515245) + 12345) >>> (7 &&& 31)) 6 = some (z, iv r1) := q1
    have q3 : ∀ z : St, f_L_some z (((x2 * 1103515245) + 12345) >>> (15 &&& 31)) 12 = some (z, iv r3) := q3
    have q4 : ∀ z : St, f_L_some z (((x2 * 1103515245) + 12345) >>> (19 &&& 31)) 25 = some (z, iv r4) := q4
    obtain ⟨z1, e1, h1⟩ := p_job h (a := r1) (b := r2) (c := 1 + r3) (d := r4) ⟨by omega, by omega⟩ ⟨by omega, by omega⟩ ⟨by omega, by omega⟩ ⟨by omega, by omega⟩ ⟨by omega, by omega, by omega, by omega⟩ (by show k < 8; omega)
    have h1 : IK z1 (yN yS (k + 1) (vA v k (xA r1 r2 (1 + r3) r4))) := h1
    obtain ⟨z2, v2, e2, h2⟩ := lb_53 hN hW d (k + 1) F z1 ((x2 * 1103515245) + 12345) (vA v k (xA r1 r2 (1 + r3) r4)) (by omega) (by omega) h1
    refine ⟨z2, v2, ?_, h2⟩
    rw [f_L_bench_53, if_neg (sz_f (by omega) (by omega))]
    unfold f_L_bench_59
    rw [q1, Option.bind_some]
    dsimp only
    rw [q2, Option.bind_some]
    dsimp only
    rw [q3, Option.bind_some]
    dsimp only
    rw [q4, Option.bind_some]
    dsimp only
    rw [show (1 : Int32) + iv r3 = iv (1 + r3) by rw [n_1, iv_add], e1, Option.bind_some]
    dsimp only
    rw [iv_s]
    exact e2
theorem lb_8 (hL : L ≤ 260) (h : IK z yS) : ∃ z' N v', N ≤ 8 ∧ f_L_bench_8 xs L z 0 = some (z', 0) ∧ IK z' (yN yS N v') := by
  obtain ⟨a0, h0⟩ := at_of (xs := xs) hL (k := 0) (by decide)
  obtain ⟨a1, h1⟩ := at_of (xs := xs) hL (k := 1) (by decide)
  obtain ⟨a2, h2⟩ := at_of (xs := xs) hL (k := 2) (by decide)
  have e0 : ∀ z : St, f_L_at xs L z 0 = some (z, a0) := h0
  have e1 : ∀ z : St, f_L_at xs L z 1 = some (z, a1) := h1
  have e2 : ∀ z : St, f_L_at xs L z 2 = some (z, a2) := h2
  obtain ⟨N, p1, q1⟩ := some_of (a := a2) (N := 9) (by decide)
  obtain ⟨W, p2, q2⟩ := some_of (a := a2 >>> (5 &&& 31)) (N := 30) (by decide)
  have q1 : ∀ z : St, f_L_some z a2 9 = some (z, iv N) := q1
  have q2 : ∀ z : St, f_L_some z (a2 >>> (5 &&& 31)) 30 = some (z, iv W) := q2
  obtain ⟨k, rfl⟩ : ∃ k : Nat, N = k := ⟨N.toNat, by omega⟩
  obtain ⟨z2, v2, e3, h3⟩ := lb_53 (xs := xs) (L := L) (N := k) (by omega) (W := 2 + W) ⟨by omega, by omega⟩ k 0 FU z ((a0 * 31) + a1) (fun _ _ => 0) (by omega) (FU_8 (by omega)) h
  refine ⟨z2, k, v2, by omega, ?_, h3⟩
  unfold f_L_bench_8
  rw [e0, Option.bind_some]
  dsimp only
  rw [e1, Option.bind_some]
  dsimp only
  rw [e2, Option.bind_some]
  dsimp only
  rw [q1, Option.bind_some]
  dsimp only
  rw [e2, Option.bind_some]
  dsimp only
  rw [q2, Option.bind_some]
  dsimp only
  rw [show (2 : Int32) + iv W = iv (2 + W) by rw [n_2, iv_add]]
  exact e3
theorem zX_0 : zX.1 0 14 = iv 0 ∧ zX.1 0 15 = iv 0 ∧ zX.1 1 1 = iv 0 ∧ zX.1 21 3 = iv 0 ∧ zX.1 19 1 = iv 0 ∧ zX.1 57 1 = iv 0 ∧ zX.1 57 2 = iv (-1) ∧ zX.1 57 3 = iv 0 ∧ zX.1 57 4 = iv 0 ∧ zX.1 57 5 = iv 0 ∧ zX.1 57 6 = iv 0 := by decide
theorem zX_S : ∀ i, i < 4 → zX.1 (60 + 2 * i) 1 = iv (-1) ∧ zX.1 (60 + 2 * i) 2 = iv 0 := by decide
theorem zX_2 : ∀ a b, zX.2 a b = 0 := fun _ _ => rfl
theorem IK_0 : IK zX yS := by
  obtain ⟨a1, a2, a3, a4, a5, a6, a7, a8, a9, a10, a11⟩ := zX_0
  refine ⟨⟨⟨a3, by decide, fun w _ j hj => absurd hj (Nat.not_lt_zero _)⟩, ⟨a4, by decide, fun j hj => absurd hj (Nat.not_lt_zero _)⟩, ⟨fun e => absurd e (by decide), fun _ => a1⟩, ⟨a5, fun j hj => absurd hj (Nat.not_lt_zero _)⟩, ⟨a6, a7, a8, a9, a10, a11, fun j _ hb => ?_⟩, fun i hi => ⟨(zX_S i hi).1, (zX_S i hi).2, fun j _ => zX_2 _ _⟩, Or.inl a2⟩, fun j hj => absurd hj (Nat.not_lt_zero _), fun e => absurd e (by decide), ⟨by decide, fun j hj => absurd hj (Nat.not_lt_zero _)⟩, ⟨TW_0, by show (0 : Int) ≤ 999; decide⟩, fun i hi => ⟨by show (-1 : Int) ≤ -1 ∧ (-1 : Int) ≤ 1; decide, by show 0 ≤ 40; decide, fun _ => rfl⟩⟩
  have hb : Nat.testBit 0 j = true := hb
  rw [Nat.zero_testBit] at hb
  exact absurd hb (by decide)
end LOO
