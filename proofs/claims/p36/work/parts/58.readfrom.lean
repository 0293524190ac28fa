/-! LOAD: readFrom, becomeAs -/
theorem kd2_n : ∀ o, o < KN → kd o = 2 → rf o 0 = o + 1 ∧ (o = 1 ∨ o = 7 ∨ o = 13) ∧ rf (rf o 0) 0 = o + 2 ∧ rf (rf o 0) 1 = o + 3 ∧ rf (rf o 0) 2 = o + 4 ∧ rf (rf o 0) 3 = o + 5 := by decide +kernel
theorem JD_fr {z z' : St} {o n : Nat} {v : Nat → Nat → Int} (ho : kd o = 2) (hJ : JD z o n v) (h : ∀ a, o ≤ a → a ≤ o + 5 → z'.1 a = z.1 a) : JD z' o n v := by
  obtain ⟨a1, a2, a3, a4, a5, a6⟩ := kd2_n o (kd_lt ho (by decide)) ho
  refine ⟨by rw [h o (by omega) (by omega)]; exact hJ.1, hJ.2.1, fun w hw j hj => ?_⟩
  have := hJ.2.2 w hw j hj
  rcases (show w = 0 ∨ w = 1 ∨ w = 2 ∨ w = 3 by omega) with rfl | rfl | rfl | rfl
  · rw [h _ (by omega) (by omega)]
    exact this
  · rw [h _ (by omega) (by omega)]
    exact this
  · rw [h _ (by omega) (by omega)]
    exact this
  · rw [h _ (by omega) (by omega)]
    exact this
noncomputable def ldS (c t q : Nat → Int) (z : St) (u k : Nat) : St := zI (zI (zI (zI z (rf u 0) k (iv (c k))) (rf u 1) k (iv (t k))) (rf u 2) k (iv (q k))) u 3 (iv ((k + 1 : Nat) : Int))
noncomputable def ldZ (c t q : Nat → Int) (z : St) (u : Nat) : Nat → St
  | 0 => zI z u 3 (iv 0)
  | k + 1 => ldS c t q (ldZ c t q z u k) u k
section READ
variable {z : St} {o u n : Nat} {v : Nat → Nat → Int} {c t q : Nat → Int}
theorem ldZ_fr : ∀ k, Fr (own u) z (ldZ c t q z u k)
  | 0 => Fr.refl.zI (Or.inl rfl)
  | k + 1 => (ldZ_fr k).trans ((((Fr.refl.zI (Or.inr (Or.inl rfl))).zI (Or.inr (Or.inr (Or.inl rfl)))).zI (Or.inr (Or.inr (Or.inr rfl)))).zI (Or.inl rfl))
theorem ldZ_LD (hu : kd u = 4) : ∀ k, k ≤ 8 → LD (ldZ c t q z u k) u k c t q
  | 0, _ => ⟨by unfold ldZ; rw [rI, if_pos ⟨rfl, rfl⟩]; rfl, by decide, fun j hj => absurd hj (Nat.not_lt_zero _)⟩
  | k + 1, hk => by
    have h := own_n u (kd_lt hu (by decide)) (Or.inr hu)
    obtain ⟨h1, h2, h3⟩ := ldZ_LD hu k (by omega)
    have d0 : u ≠ rf u 0 := by omega
    have d1 : u ≠ rf u 1 := by omega
    have d2 : u ≠ rf u 2 := by omega
    have d3 : rf u 0 ≠ rf u 1 := by omega
    have d4 : rf u 0 ≠ rf u 2 := by omega
    have d5 : rf u 1 ≠ rf u 2 := by omega
    unfold ldZ ldS
    refine ⟨by rw [rI, if_pos ⟨rfl, rfl⟩], hk, fun j hj => ?_⟩
    simp only [rI, true_and, false_and, if_false, Ne.symm d0, Ne.symm d1, Ne.symm d2, d3, d4, d5, Ne.symm d3, Ne.symm d4, Ne.symm d5]
    by_cases e : j = k
    · simp only [e, if_true, and_self]
    · simp only [e, if_false]
      exact h3 j (by omega)
theorem rf_of (ho : kd o = 2) (hu : kd u = 4) (hJ : JD z o n v) (hV : JV n v) : f_X4_readFrom z u o = some (ldZ (cmO v) (tkO v) (clO v) z u n) := by
  have h8 := hJ.2.1
  have k2 := kd2_n o (kd_lt ho (by decide)) ho
  have k4 := kd4_in u (kd_lt hu (by decide)) hu
  have hw := own_n u (kd_lt hu (by decide)) (Or.inr hu)
  refine loop_up (n := n) (fun F k b => f_X4_readFrom_7 F b u o (iv (k : Int))) (ldZ (cmO v) (tkO v) (clO v) z u) (fun F => ?_) (fun F k hk => ?_) n 0 FU (by omega) (FU_8 (by omega))
  · have hJ0 : JD (ldZ (cmO v) (tkO v) (clO v) z u n) o n v := JD_fr ho hJ (fun a h1 h2 => (ldZ_fr n a (fun x => by have := own_rng (Or.inr hu) x; omega)).1)
    show f_X4_readFrom_7 _ _ _ _ _ = _
    rw [f_X4_readFrom_7, hJ0.1, if_pos sz_t]
    rfl
  · show f_X4_readFrom_7 _ _ _ _ _ = f_X4_readFrom_7 F (ldS (cmO v) (tkO v) (clO v) (ldZ (cmO v) (tkO v) (clO v) z u k) u k) _ _ _
    have hL := ldZ_LD (c := cmO v) (t := tkO v) (q := clO v) (z := z) hu k (by omega)
    have hJ0 : JD (ldZ (cmO v) (tkO v) (clO v) z u k) o n v := JD_fr ho hJ (fun a h1 h2 => (ldZ_fr k a (fun x => by have := own_rng (Or.inr hu) x; omega)).1)
    generalize ldZ (cmO v) (tkO v) (clO v) z u k = Z at *
    have hJ1 : JD (zI Z (rf u 0) k (iv (cmO v k))) o n v := JD_fr ho hJ0 (fun a h1 h2 => zI_n (by omega))
    have hJ2 : JD (zI (zI Z (rf u 0) k (iv (cmO v k))) (rf u 1) k (iv (tkO v k))) o n v := JD_fr ho hJ1 (fun a h1 h2 => zI_n (by omega))
    have i1 : inb (iv (k : Int)) 8 = true := inb_k (by omega) (by decide)
    have i2 : (iv (k : Int)).toNatClampNeg = k := iv_natN (by omega)
    have d0 : u ≠ rf u 0 := by omega
    have d1 : u ≠ rf u 1 := by omega
    have d2 : u ≠ rf u 2 := by omega
    rw [f_X4_readFrom_7, hJ0.1, if_neg (sz_f hk (by omega))]
    unfold f_X4_readFrom_15
    rw [if_neg (fun x => by have := (iv_8le (sm_k (show k < 2147483648 by omega))).mp x; omega)]
    unfold f_X4_readFrom_21 ldS
    simp only [cmO_of hJ0 hV hk, Option.bind_some, i1, i2, if_true, tkO_of hJ1 hV hk, clO_of hJ2 hV hk, iv_s, rI, d0, d1, d2, false_and, if_false, hL.1]
theorem ba_of (ho : kd o = 4) (hu : kd u = 4) (hne : o ≠ u) (hL : LD z u n c t q) : f_X4_becomeAs z o u = some (ldZ c t q z o n) := by
  have h8 := hL.2.1
  have k1 := kd4_in o (kd_lt ho (by decide)) ho
  have k4 := kd4_in u (kd_lt hu (by decide)) hu
  have hw := own_n o (kd_lt ho (by decide)) (Or.inr ho)
  have hx := own_n u (kd_lt hu (by decide)) (Or.inr hu)
  refine loop_up (n := n) (fun F k b => f_X4_becomeAs_7 F b o u (iv (k : Int))) (ldZ c t q z o) (fun F => ?_) (fun F k hk => ?_) n 0 FU (by omega) (FU_8 (by omega))
  · have hL0 : LD (ldZ c t q z o n) u n c t q := LD_fr hL (fun a h1 => (ldZ_fr n a (fun x => by have := own_rng (Or.inr ho) x; have := own_rng (Or.inr hu) h1; omega)).1)
    show f_X4_becomeAs_7 _ _ _ _ _ = _
    rw [f_X4_becomeAs_7, hL0.1, if_pos sz_t]
    rfl
  · show f_X4_becomeAs_7 _ _ _ _ _ = f_X4_becomeAs_7 F (ldS c t q (ldZ c t q z o k) o k) _ _ _
    have hO := ldZ_LD (c := c) (t := t) (q := q) (z := z) ho k (by omega)
    have hL0 : LD (ldZ c t q z o k) u n c t q := LD_fr hL (fun a h1 => (ldZ_fr k a (fun x => by have := own_rng (Or.inr ho) x; have := own_rng (Or.inr hu) h1; omega)).1)
    generalize ldZ c t q z o k = Z at *
    obtain ⟨e1, e2, e3⟩ := hL0.2.2 k hk
    have i1 : inb (iv (k : Int)) 8 = true := inb_k (by omega) (by decide)
    have i2 : (iv (k : Int)).toNatClampNeg = k := iv_natN (by omega)
    have d0 : o ≠ rf o 0 := by omega
    have d1 : o ≠ rf o 1 := by omega
    have d2 : o ≠ rf o 2 := by omega
    have f0 : rf u 1 ≠ rf o 0 := by omega
    have f1 : rf u 2 ≠ rf o 0 := by omega
    have f2 : rf u 2 ≠ rf o 1 := by omega
    rw [f_X4_becomeAs_7, hL0.1, if_neg (sz_f hk (by omega))]
    unfold f_X4_becomeAs_15
    rw [if_neg (fun x => by have := (iv_8le (sm_k (show k < 2147483648 by omega))).mp x; omega)]
    unfold f_X4_becomeAs_21 ldS
    simp only [i1, i2, if_true, iv_s, rI, d0, d1, d2, f0, f1, f2, false_and, if_false, hO.1, e1, e2, e3]
end READ
