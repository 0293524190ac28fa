/-! TEXT: the loop over ITEMS; the class -/
def plT (b : Ta) : Nat → Nat
  | 0 => 0
  | k + 1 => t3P b (plT b k) + 1
def cnT (b : Ta) (k : Nat) : Prop := itOK b (plT b k) ∧ t3P b (plT b k) ≠ b.1 ∧ byT b (t3P b (plT b k)) = 59
def itV (b : Ta) : Nat → Nat → Int := fun w j => itX b (plT b j) w
def rsT (b : Ta) (k : Nat) : Int := if itOK b (plT b k) then (if t3P b (plT b k) = b.1 then -1 else (t3P b (plT b k) : Int)) else (itF b (plT b k) : Int)
section TEXT2
variable {z z1 z2 : St} {b : Ta} {p k : Nat} {v : Nat → Nat → Int}
theorem by59 (h : byT b p = 59) : p < b.1 := by
  unfold byT at h
  by_cases g : p < b.1
  · exact g
  · rw [if_neg g] at h
    omega
theorem plT_b : ∀ k, (∀ i, i < k → cnT b i) → 7 * k ≤ plT b k ∧ plT b k ≤ b.1
  | 0, _ => ⟨Nat.le_refl _, Nat.zero_le _⟩
  | k + 1, h => by
    have ih := plT_b k (fun i hi => h i (by omega))
    obtain ⟨c1, c2, c3⟩ := h k (by omega)
    have a := it_len c1
    have c := by59 c3
    show 7 * (k + 1) ≤ t3P b (plT b k) + 1 ∧ t3P b (plT b k) + 1 ≤ b.1
    omega
theorem plT_k (hT : TV b) (h : ∀ i, i < k → cnT b i) (ho : itOK b (plT b k)) : k < 8 := by
  have a := plT_b k h
  have c := it_len ho
  have := hT.1
  omega
theorem plT_8 (hT : TV b) (h : ∀ i, i < k → cnT b i) : k ≤ 8 := by
  have a := plT_b k h
  have := hT.1
  omega
theorem ends (hT : TV b) : ∃ k, (∀ i, i < k → cnT b i) ∧ ¬ cnT b k := by
  refine Classical.byContradiction fun hn => ?_
  have st : ∀ k, (∀ i, i < k → cnT b i) → cnT b k := fun k hk => Classical.byContradiction fun e => hn ⟨k, hk, e⟩
  have al : ∀ k, ∀ i, i < k → cnT b i := fun k => by
    induction k with
    | zero => exact fun i hi => absurd hi (Nat.not_lt_zero _)
    | succ k ih =>
      intro i hi
      by_cases e : i < k
      · exact ih i e
      · have : i = k := by omega
        subst this
        exact st i ih
  have := plT_8 hT (al 9)
  omega
theorem vA_it : vA (itV b) k (itX b (plT b k)) = itV b := by
  funext w j
  unfold vA itV
  by_cases e : j = k
  · rw [if_pos e, e]
  · rw [if_neg e]
theorem rl_s {F : Nat} {o u : Nat} {x : Int32} : f_X8_readItems_11 (F + 1) z o u x = if 60 < x then f_X8_readItems_63 z o else f_X8_readItems_17 (f_X8_readItems_11 F) z o u x := rfl
theorem rl_c (hT : TV b) (hk : ∀ i, i < k → cnT b i) (hn : ¬ cnT b k) : ∀ d i F z, i + d = k → d < F → PC z b (plT b i) → JD z 13 i (itV b) → ∃ z', f_X8_readItems_11 F z 19 13 (iv (i : Int)) = some (z', iv (rsT b k)) ∧ (rsT b k = -1 → JD z' 13 (k + 1) (itV b)) ∧ Fr (fun a => a = 19 ∨ (13 ≤ a ∧ a ≤ 18)) z z'
  | _, _, 0, _, _, h, _, _ => absurd h (Nat.not_lt_zero _)
  | d, i, F + 1, z, e, hF, hP, hJ => by
    have k8 := plT_8 hT hk
    have ki : ∀ j, j < i → cnT b j := fun j hj => hk j (by omega)
    have pb := plT_b i ki
    obtain ⟨z1, q1, q2, q3⟩ := ri_c hT hP pb.2 hJ (fun ho => plT_k hT ki ho)
    have st : f_X8_readItems_11 (F + 1) z 19 13 (iv (i : Int)) = f_X8_readItems_17 (f_X8_readItems_11 F) z 19 13 (iv (i : Int)) := by
      rw [rl_s, show (60 : Int32) = iv 60 by decide, if_neg (fun g => by have := (iv_klt (sm_k (show i < 2147483648 by omega)) 60).mp g; omega)]
    rw [st]
    unfold f_X8_readItems_17
    by_cases ho : itOK b (plT b i)
    · obtain ⟨r1, r2, r3⟩ := q1 ho
      have l := it_len ho
      rw [vA_it] at r3
      have st2 : (f_X8_readItem z 19 13).bind (fun r1 => if r1.2 = 0 then f_X8_readItems_25 r1.1 19 else f_X8_readItems_30 (f_X8_readItems_11 F) r1.1 19 13 (iv (i : Int))) = if t3P b (plT b i) = b.1 then some (z1, iv (-1)) else f_X8_readItems_43 (f_X8_readItems_11 F) z1 19 13 (iv (i : Int)) := by
        rw [r1, Option.bind_some]
        show (if (1 : Int32) = 0 then _ else _) = _
        rw [if_neg (by decide)]
        unfold f_X8_readItems_30 f_X8_readItems_41
        have h60 := hT.1
        rw [r2.2.1, r2.1, n_m1]
        simp only [iv_eq (sm_k (show t3P b (plT b i) < 2147483648 by omega)) (sm_k (show b.1 < 2147483648 by omega))]
        by_cases g : t3P b (plT b i) = b.1
        · rw [if_pos (by omega), if_pos g]
        · rw [if_neg (by omega), if_neg g]
      rw [st2]
      by_cases g : t3P b (plT b i) = b.1
      · have ek : i = k := by
          by_cases c : i < k
          · exact absurd g (hk i c).2.1
          · omega
        subst ek
        have er : rsT b i = -1 := by
          unfold rsT
          rw [if_pos ho, if_pos g]
        rw [if_pos g, er]
        exact ⟨z1, rfl, fun _ => r3, q3⟩
      · rw [if_neg g]
        unfold f_X8_readItems_43
        rw [show (59 : Int32) = iv 59 by decide, rs_c hT r2 l.2 (c := 59) (by decide), Option.bind_some]
        by_cases c : byT b (t3P b (plT b i)) = 59
        · rw [if_pos c]
          show ∃ z', (if (1 : Int32) = 0 then _ else f_X8_readItems_57 (f_X8_readItems_11 F) (zI z1 19 2 (iv ((t3P b (plT b i) + 1 : Nat) : Int))) 19 13 (iv (i : Int))) = some (z', _) ∧ _
          rw [if_neg (by decide)]
          unfold f_X8_readItems_57
          rw [iv_s]
          have ik : i < k := by
            by_cases w : i < k
            · exact w
            · have : i = k := by omega
              subst this
              exact absurd ⟨ho, g, c⟩ hn
          obtain ⟨z', s1, s2, s3⟩ := rl_c hT hk hn (d - 1) (i + 1) F (zI z1 19 2 (iv ((t3P b (plT b i) + 1 : Nat) : Int))) (by omega) (by omega) (PC_p r2) (JD_fr (by decide) r3 (fun a e1 e2 => by rw [zI_n (by omega)]))
          exact ⟨z', s1, s2, (q3.zI (Or.inl rfl)).trans s3⟩
        · have ek : i = k := by
            by_cases w : i < k
            · exact absurd (hk i w).2.2 c
            · omega
          subst ek
          have er : rsT b i = (t3P b (plT b i) : Int) := by
            unfold rsT
            rw [if_pos ho, if_neg g]
          rw [if_neg c, er]
          show ∃ z', (if (0 : Int32) = 0 then f_X8_readItems_52 z1 19 else _) = some (z', _) ∧ _
          rw [if_pos rfl]
          refine ⟨z1, ?_, fun e => absurd e (by omega), q3⟩
          unfold f_X8_readItems_52
          rw [r2.2.1]
    · obtain ⟨r1, r2⟩ := q2 ho
      have ek : i = k := by
        by_cases w : i < k
        · exact absurd (hk i w).1 ho
        · omega
      subst ek
      have er : rsT b i = (itF b (plT b i) : Int) := by
        unfold rsT
        rw [if_neg ho]
      rw [r1, Option.bind_some]
      show ∃ z', (if (0 : Int32) = 0 then f_X8_readItems_25 z1 19 else _) = some (z', _) ∧ _
      rw [if_pos rfl, er]
      refine ⟨z1, ?_, fun e => absurd e (by omega), q3⟩
      unfold f_X8_readItems_25
      rw [r2.2.1]
/-- all of the tape, read -/
theorem rr_c (hT : TV b) (hC : CT z b) (hk : ∀ i, i < k → cnT b i) (hn : ¬ cnT b k) : ∃ z', f_X8_readItems z 19 13 = some (z', iv (rsT b k)) ∧ (rsT b k = -1 → JD z' 13 (k + 1) (itV b)) ∧ Fr (fun a => a = 19 ∨ (13 ≤ a ∧ a ≤ 18)) z z' := by
  unfold f_X8_readItems f_X8_readItems_0 f_X2_clear f_X2_clear_0
  rw [Option.bind_some]
  have hP : PC (zI (zI z 13 1 0) 19 2 0) b (plT b 0) := by
    refine ⟨?_, ?_, fun j hj => ?_⟩
    · rw [rI, if_neg (by decide), zI_n (by decide)]
      exact hC.1
    · rw [rI, if_pos ⟨rfl, rfl⟩]
      rfl
    · rw [zI_n (by decide), zI_n (by decide)]
      exact hC.2 j hj
  have hJ : JD (zI (zI z 13 1 0) 19 2 0) 13 0 (itV b) := ⟨by rw [zI_n (by decide), rI, if_pos ⟨rfl, rfl⟩]; rfl, Nat.zero_le _, fun w _ j hj => absurd hj (Nat.not_lt_zero _)⟩
  obtain ⟨z', s1, s2, s3⟩ := rl_c hT hk hn k 0 FU _ (by omega) (FU_8 (by have := plT_8 hT hk; omega)) hP hJ
  exact ⟨z', s1, s2, ((Fr.refl.zI (Or.inr (by decide))).zI (Or.inl rfl)).trans s3⟩
def vB (v : Nat → Nat → Int) (n : Nat) (u : Nat → Nat → Int) : Nat → Nat → Int := fun w j => if j < n then v w j else u w (j - n)
noncomputable def aaZ (u : Nat → Nat → Int) (n : Nat) (z : St) : Nat → St
  | 0 => z
  | k + 1 => adZ (aaZ u n z k) 1 (n + k) (fun w => u w k)
theorem vB_A {n : Nat} {u : Nat → Nat → Int} : vA (vB v n u) (n + k) (fun w => u w k) = vB v n u := by
  funext w j
  unfold vA vB
  by_cases e : j = n + k
  · rw [if_pos e, if_neg (by omega), e, show n + k - n = k by omega]
  · rw [if_neg e]
theorem aaZ_fr {n : Nat} {u : Nat → Nat → Int} : ∀ k, Fr (fun a => 1 ≤ a ∧ a ≤ 6) z (aaZ u n z k)
  | 0 => Fr.refl
  | k + 1 => (aaZ_fr k).trans (adZ_fr1 (o := 1) (by decide))
theorem aaZ_JD {n : Nat} {u : Nat → Nat → Int} (hJ : JD z 1 n v) : ∀ k, n + k ≤ 8 → JD (aaZ u n z k) 1 (n + k) (vB v n u)
  | 0, _ => ⟨hJ.1, hJ.2.1, fun w hw j hj => by
    have hj : j < n := hj
    show z.1 _ j = _
    unfold vB
    rw [if_pos hj]
    exact hJ.2.2 w hw j hj⟩
  | k + 1, h => by
    have ih := aaZ_JD (u := u) hJ k (by omega)
    have a := (ad_of (o := 1) (by decide) ih (by omega) (x := fun w => u w k)).2
    rw [vB_A] at a
    exact a
theorem aa_of {n m : Nat} {u : Nat → Nat → Int} (hJ : JD z 1 n v) (hU : JD z 13 m u) (hm : n + m ≤ 8) : f_X2_addAll z 1 13 = some (aaZ u n z m) := by
  have keep : ∀ k, JD (aaZ u n z k) 13 m u := fun k => JD_fr (by decide) hU (fun a h1 h2 => (aaZ_fr k a (by omega)).1)
  refine loop_up (n := m) (fun F k b => f_X2_addAll_2 F b 1 13 (iv (k : Int))) (aaZ u n z) (fun F => ?_) (fun F k hk => ?_) m 0 FU (by omega) (FU_8 (by omega))
  · show f_X2_addAll_2 _ _ _ _ _ = _
    rw [f_X2_addAll_2, (keep m).1, if_pos sz_t]
    rfl
  · show f_X2_addAll_2 _ _ _ _ _ = f_X2_addAll_2 F (adZ (aaZ u n z k) 1 (n + k) (fun w => u w k)) _ _ _
    have hK := keep k
    have hO := aaZ_JD (u := u) hJ k (by omega)
    rw [f_X2_addAll_2, hK.1, if_neg (sz_f hk (by omega))]
    unfold f_X2_addAll_10
    have v0 : f_X2_value (aaZ u n z k) 13 0 (iv (k : Int)) = some (aaZ u n z k, iv (u 0 k)) := va_of hK (w := 0) (by decide) hk
    have v1 : f_X2_value (aaZ u n z k) 13 1 (iv (k : Int)) = some (aaZ u n z k, iv (u 1 k)) := va_of hK (w := 1) (by decide) hk
    have v2 : f_X2_value (aaZ u n z k) 13 2 (iv (k : Int)) = some (aaZ u n z k, iv (u 2 k)) := va_of hK (w := 2) (by decide) hk
    have v3 : f_X2_value (aaZ u n z k) 13 3 (iv (k : Int)) = some (aaZ u n z k, iv (u 3 k)) := va_of hK (w := 3) (by decide) hk
    have ad := (ad_of (by decide) hO (by omega) (x := fun w => u w k)).1
    simp only [v0, v1, v2, v3, Option.bind_some, ad, iv_s]
end TEXT2
