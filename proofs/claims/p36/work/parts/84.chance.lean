/-! DRAWN: who comes later; CHANCE -/
theorem ius9 (x : Int32) : 0 ≤ (ius x 9).toInt ∧ (ius x 9).toInt < 8388608 := by
  have e : ius x 9 = (x.toUInt32 >>> 9).toInt32 := by
    show (x.toUInt32 >>> ((9 : Int32).toUInt32 &&& Int32.toUInt32 31)).toInt32 = _
    rw [show ((9 : Int32).toUInt32 &&& Int32.toUInt32 31) = 9 by decide]
  have h : (x.toUInt32 >>> 9).toNat < 8388608 := by
    rw [UInt32.toNat_shiftRight]
    have := UInt32.toNat_lt x.toUInt32
    simp [Nat.shiftRight_eq_div_pow]
    omega
  have h2 : (x.toUInt32 >>> 9).toInt32.toInt = ((x.toUInt32 >>> 9).toNat : Int) := by
    show (x.toUInt32 >>> 9).toBitVec.toInt = _
    rw [BitVec.toInt_eq_toNat_of_lt (by show 2 * (x.toUInt32 >>> 9).toNat < _; omega)]
    rfl
  rw [e, h2]
  omega
def dzN (sd : Int32) : Nat → Int32
  | 0 => sd
  | k + 1 => dzN sd k * 1103515245 + 12345
def deI (w : Int32) (N : Int) : Int := (ius w 9).toInt % (N + 1)
theorem deI_b (w : Int32) {N : Int} (hN : 0 ≤ N) : 0 ≤ deI w N ∧ deI w N ≤ N := by
  unfold deI
  have a := Int.emod_nonneg (ius w 9).toInt (show N + 1 ≠ 0 by omega)
  have b := Int.emod_lt_of_pos (ius w 9).toInt (show 0 < N + 1 by omega)
  omega
theorem deI_of (w : Int32) {N : Int} (hN : 0 ≤ N ∧ N ≤ 30) : ius w 9 - ius w 9 / (iv N + 1) * (iv N + 1) = iv (deI w N) := by
  have b := ius9 w
  have e : ius w 9 = iv (ius w 9).toInt := (iv_of _).symm
  unfold deI
  rw [e]
  generalize (ius w 9).toInt = X at *
  rw [n_1, iv_add, iv_div (by omega) (by omega), iv_mul, iv_sub, iv_toInt ⟨by omega, by omega⟩]
  congr 1
  have := Int.emod_add_mul_ediv X (N + 1)
  have c : (N + 1) * (X / (N + 1)) = X / (N + 1) * (N + 1) := Int.mul_comm _ _
  omega
noncomputable def dc (c : Nat → Int) (N : Int) (sd : Int32) : Nat → Nat → Int
  | 0 => c
  | k + 1 => up (dc c N sd k) k (c k + deI (dzN sd (k + 1)) N)
theorem dc_ge {c : Nat → Int} {N : Int} {sd : Int32} : ∀ k j, k ≤ j → dc c N sd k j = c j
  | 0, _, _ => rfl
  | k + 1, j, h => by
    show up (dc c N sd k) k _ j = _
    unfold up
    rw [if_neg (by omega), dc_ge k j (by omega)]
theorem dc_b {c : Nat → Int} {N : Int} {sd : Int32} (hN : 0 ≤ N) : ∀ k j, c j ≤ dc c N sd k j ∧ dc c N sd k j ≤ c j + N
  | 0, j => ⟨Int.le_refl _, by show c j ≤ c j + N; omega⟩
  | k + 1, j => by
    have b := deI_b (dzN sd (k + 1)) hN
    have ih := dc_b (c := c) (N := N) (sd := sd) hN k j
    show c j ≤ up (dc c N sd k) k (c k + deI (dzN sd (k + 1)) N) j ∧ up (dc c N sd k) k (c k + deI (dzN sd (k + 1)) N) j ≤ c j + N
    unfold up
    by_cases e : j = k
    · rw [if_pos e, e]
      omega
    · rw [if_neg e]
      exact ih
section CHANCE
variable {z z1 z2 : St} {y : Sy} {n o u : Nat} {c t q : Nat → Int} {v : Nat → Nat → Int}
theorem dc_BD (hB : BD n c t q) (hc : ∀ j, j < n → c j ≤ 130) {N : Int} (hN : 0 ≤ N ∧ N ≤ 30) {sd : Int32} {k : Nat} : BD n (dc c N sd k) t q := fun j hj => by
  have b := hB j hj
  have d := dc_b (c := c) (sd := sd) hN.1 k j
  have := hc j hj
  exact ⟨by omega, b.2⟩
theorem LD_upc (hu : kd u = 4) (hL : LD z u n c t q) {j : Nat} (hj : j < n) {x : Int} : LD (zI z (rf u 0) j (iv x)) u n (up c j x) t q := (cm_of hu hL hj).2.1
noncomputable def dlZ (c : Nat → Int) (N : Int) (sd : Int32) (u : Nat) (z : St) : Nat → St
  | 0 => z
  | k + 1 => zI (dlZ c N sd u z k) (rf u 0) k (iv (c k + deI (dzN sd (k + 1)) N))
theorem dlZ_LD (hu : kd u = 4) (hL : LD z u n c t q) {N : Int} {sd : Int32} : ∀ k, k ≤ n → LD (dlZ c N sd u z k) u n (dc c N sd k) t q
  | 0, _ => hL
  | k + 1, hk => LD_upc hu (dlZ_LD hu hL k (by omega)) (by omega)
theorem dlZ_fr {N : Int} {sd : Int32} : ∀ k, Fr (own u) z (dlZ c N sd u z k)
  | 0 => Fr.refl
  | k + 1 => (dlZ_fr k).zI (Or.inr (Or.inl rfl))
theorem dl_of (hu : kd u = 4) (hL : LD z u n c t q) {N : Int} (hN : 0 ≤ N ∧ N ≤ 30) {sd : Int32} : f_X4_comeLater z u sd (iv N) = some (dlZ c N sd u z n) := by
  have h8 := hL.2.1
  have sN : sm N := ⟨by omega, by omega⟩
  unfold f_X4_comeLater f_X4_comeLater_0 f_X4_comeLater_5
  rw [if_pos ((iv_ge0 sN).mpr hN.1)]
  refine loop_up (n := n) (fun F k b => f_X4_comeLater_10 F b u (iv N) (dzN sd k) (iv (k : Int))) (dlZ c N sd u z) (fun F => ?_) (fun F k hk => ?_) n 0 FU (by omega) (FU_8 (by omega))
  · show f_X4_comeLater_10 _ _ _ _ _ _ = _
    rw [f_X4_comeLater_10, (dlZ_LD hu hL n (Nat.le_refl _)).1, if_pos sz_t]
    rfl
  · have hk' := dlZ_LD (N := N) (sd := sd) hu hL k (by omega)
    show f_X4_comeLater_10 _ _ _ _ _ _ = f_X4_comeLater_10 F (zI (dlZ c N sd u z k) (rf u 0) k (iv (c k + deI (dzN sd (k + 1)) N))) u (iv N) (dzN sd k * 1103515245 + 12345) (iv ((k + 1 : Nat) : Int))
    have ck := comes_at hk' hk
    rw [dc_ge k k (Nat.le_refl _)] at ck
    have nz : decide (iv N + 1 ≠ 0) = true := by
      rw [decide_eq_true_eq, n_1, iv_add, n_0]
      exact fun e => by have := (iv_eqk ⟨by omega, by omega⟩ 0).mp e; omega
    rw [f_X4_comeLater_10, hk'.1, if_neg (sz_f hk (by omega))]
    unfold f_X4_comeLater_19
    have d := deI_of (dzN sd k * 1103515245 + 12345) hN
    rw [ck, Option.bind_some, nz, if_pos rfl]
    dsimp only
    rw [d, iv_add, (cm_of hu hk' hk).1, Option.bind_some, iv_s]
    rfl
noncomputable def dmZ2 (c : Nat → Int) (N : Int) (sd : Int32) (z : St) : Nat → St
  | 0 => z
  | k + 1 => zI (dmZ2 c N sd z k) 75 k (iv (c k + deI (dzN sd (k + 1)) N))
theorem dmZ2_MD (hL : MD z n c t q) {N : Int} {sd : Int32} : ∀ k, k ≤ n → MD (dmZ2 c N sd z k) n (dc c N sd k) t q
  | 0, _ => hL
  | k + 1, hk => MD_upc (dmZ2_MD hL k (by omega))
theorem dmZ2_fr {N : Int} {sd : Int32} : ∀ k, Fr (fun a => 75 ≤ a ∧ a ≤ 77) z (dmZ2 c N sd z k)
  | 0 => Fr.refl
  | k + 1 => (dmZ2_fr k).zI (by decide)
theorem dm_of (hL : MD z n c t q) {N : Int} (hN : 0 ≤ N ∧ N ≤ 30) {sd : Int32} : f_X11_draws_9 FU z 68 (iv N) sd 0 = some (dmZ2 c N sd z n) := by
  have h8 := hL.2.1
  have sN : sm N := ⟨by omega, by omega⟩
  refine loop_up (n := n) (fun F k b => f_X11_draws_9 F b 68 (iv N) (dzN sd k) (iv (k : Int))) (dmZ2 c N sd z) (fun F => ?_) (fun F k hk => ?_) n 0 FU (by omega) (FU_8 (by omega))
  · show f_X11_draws_9 _ _ _ _ _ _ = _
    rw [f_X11_draws_9, (dmZ2_MD hL n (Nat.le_refl _)).1, if_pos sz_t]
    rfl
  · have hk' := dmZ2_MD (N := N) (sd := sd) hL k (by omega)
    show f_X11_draws_9 _ _ _ _ _ _ = f_X11_draws_9 F (zI (dmZ2 c N sd z k) 75 k (iv (c k + deI (dzN sd (k + 1)) N))) 68 (iv N) (dzN sd k * 1103515245 + 12345) (iv ((k + 1 : Nat) : Int))
    have ck : (dmZ2 c N sd z k).1 75 k = iv (c k) := by
      have := (hk'.2.2 k hk).1
      rw [dc_ge k k (Nat.le_refl _)] at this
      exact this
    have nz : decide (iv N + 1 ≠ 0) = true := by
      rw [decide_eq_true_eq, n_1, iv_add, n_0]
      exact fun e => by have := (iv_eqk ⟨by omega, by omega⟩ 0).mp e; omega
    rw [f_X11_draws_9, hk'.1, if_neg (sz_f hk (by omega))]
    unfold f_X11_draws_18
    rw [inb_k (show k < 8 by omega) (by decide), if_pos rfl, nz, if_pos rfl, if_pos rfl, tn (by omega), r68_13, ck, iv_s]
    have d := deI_of (dzN sd k * 1103515245 + 12345) hN
    rw [d, iv_add]
    rfl
/-- draws of the model -/
theorem drs_of (hJ : MJ z n v) (hV : JV n v) {N : Int} (hN : 0 ≤ N ∧ N ≤ 30) {sd : Int32} : ∃ z', f_X11_draws z 68 sd (iv N) = some z' ∧ MD z' n (dc (cmO v) N sd n) (tkO v) (clO v) ∧ Fr (fun a => 75 ≤ a ∧ a ≤ 77) z z' := by
  obtain ⟨t1, t2, t3⟩ := th_of hJ hV
  refine ⟨_, ?_, dmZ2_MD t2 n (Nat.le_refl _), t3.trans (dmZ2_fr n)⟩
  unfold f_X11_draws f_X11_draws_0
  rw [t1, Option.bind_some]
  exact dm_of t2 hN
/-- becomeAs and comeLater of the class -/
theorem drc_of (hL : LD z 21 n c t q) {N : Int} (hN : 0 ≤ N ∧ N ≤ 30) {sd : Int32} : ∃ z' z'', f_X4_becomeAs z 25 21 = some z' ∧ f_X4_comeLater z' 25 sd (iv N) = some z'' ∧ LD z'' 25 n (dc c N sd n) t q ∧ Fr (fun a => 25 ≤ a ∧ a ≤ 28) z z'' := by
  have h8 := hL.2.1
  have o25 : ∀ a, own 25 a → 25 ≤ a ∧ a ≤ 28 := fun a ha => by have := own_rng (o := 25) (Or.inr (by decide)) ha; omega
  have ba := ba_of (z := z) (o := 25) (u := 21) (by decide) (by decide) (by decide) hL
  have lb := ldZ_LD (c := c) (t := t) (q := q) (z := z) (u := 25) (by decide) n h8
  have lf : Fr (own 25) z (ldZ c t q z 25 n) := ldZ_fr n
  exact ⟨_, _, ba, dl_of (by decide) lb hN, dlZ_LD (by decide) lb n (Nat.le_refl _), (lf.mono o25).trans ((dlZ_fr n).mono o25)⟩
def chR (m p h : Nat) : Nat := if p = 0 then h / Nat.gcd h m else m / Nat.gcd h m
theorem chf_c (M : Nat) (z : St) : ∀ m : Nat, 1 ≤ m → m < 9 → ∀ h : Nat, h ≤ m → ∀ p : Nat, p < 2 → f_X10_chance_131 (M + 9) z (iv (m : Int)) (iv (h : Int)) (if p = 0 then iv (h : Int) else iv (m : Int)) (iv (m : Int)) = some (z, iv (chR m p h : Int)) := by
  intro m h1 h2 h h3 p hp
  rcases (show m = 1 ∨ m = 2 ∨ m = 3 ∨ m = 4 ∨ m = 5 ∨ m = 6 ∨ m = 7 ∨ m = 8 by omega) with rfl | rfl | rfl | rfl | rfl | rfl | rfl | rfl <;>
  rcases (show h = 0 ∨ h = 1 ∨ h = 2 ∨ h = 3 ∨ h = 4 ∨ h = 5 ∨ h = 6 ∨ h = 7 ∨ h = 8 by omega) with rfl | rfl | rfl | rfl | rfl | rfl | rfl | rfl | rfl <;>
  first
  | (exfalso; omega)
  | (rcases (show p = 0 ∨ p = 1 by omega) with rfl | rfl <;> rfl)
theorem chf_m (M : Nat) (z : St) : ∀ m : Nat, 1 ≤ m → m < 9 → ∀ h : Nat, h ≤ m → f_X11_divisor_4 (M + 9) z (iv (h : Int)) (iv (m : Int)) = some (z, iv (Nat.gcd h m : Int)) := by
  intro m h1 h2 h h3
  rcases (show m = 1 ∨ m = 2 ∨ m = 3 ∨ m = 4 ∨ m = 5 ∨ m = 6 ∨ m = 7 ∨ m = 8 by omega) with rfl | rfl | rfl | rfl | rfl | rfl | rfl | rfl <;>
  rcases (show h = 0 ∨ h = 1 ∨ h = 2 ∨ h = 3 ∨ h = 4 ∨ h = 5 ∨ h = 6 ∨ h = 7 ∨ h = 8 by omega) with rfl | rfl | rfl | rfl | rfl | rfl | rfl | rfl | rfl <;>
  first
  | (exfalso; omega)
  | rfl
end CHANCE
