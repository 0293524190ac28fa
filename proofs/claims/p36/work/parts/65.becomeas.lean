/-! JOBS: becomeAs (image, back); the model's adds -/
section BECOME
variable {z : St} {o u n : Nat} {v : Nat → Nat → Int}
def rng5 (o a : Nat) : Prop := o ≤ a ∧ a ≤ o + 5
theorem adZ_fr (ho : kd o = 2) {k : Nat} {x : Nat → Int} : Fr (rng5 o) z (adZ z o k x) := by
  obtain ⟨a1, a2, a3, a4, a5, a6⟩ := kd2_n o (kd_lt ho (by decide)) ho
  unfold adZ rng5
  exact ((((Fr.refl.zI (by constructor <;> omega)).zI (by constructor <;> omega)).zI (by constructor <;> omega)).zI (by constructor <;> omega)).zI (by constructor <;> omega)
noncomputable def jbZ (v : Nat → Nat → Int) (z : St) (o : Nat) : Nat → St
  | 0 => zI z o 1 (iv 0)
  | k + 1 => adZ (jbZ v z o k) o k (fun w => v w k)
theorem jbZ_fr (ho : kd o = 2) : ∀ k, Fr (rng5 o) z (jbZ v z o k)
  | 0 => Fr.refl.zI ⟨Nat.le_refl _, by omega⟩
  | k + 1 => (jbZ_fr ho k).trans (adZ_fr ho)
theorem jbZ_JD (ho : kd o = 2) : ∀ k, k ≤ 8 → JD (jbZ v z o k) o k v
  | 0, _ => ⟨by unfold jbZ; rw [rI, if_pos ⟨rfl, rfl⟩]; rfl, by decide, fun _ _ j hj => absurd hj (Nat.not_lt_zero _)⟩
  | k + 1, hk => by
    have h := (ad_of ho (jbZ_JD ho k (by omega)) (by omega) (x := fun w => v w k)).2
    refine ⟨h.1, h.2.1, fun w hw j hj => ?_⟩
    have e := h.2.2 w hw j hj
    show (adZ (jbZ v z o k) o k (fun w => v w k)).1 _ j = _
    rw [e]
    unfold vA
    by_cases g : j = k
    · rw [if_pos g, g]
    · rw [if_neg g]
theorem jb_of (ho : kd o = 2) (hu : kd u = 2) (hne : o ≠ u) (hJ : JD z u n v) : f_X2_becomeAs z o u = some (jbZ v z o n) := by
  have h8 := hJ.2.1
  obtain ⟨a1, a2, -⟩ := kd2_n o (kd_lt ho (by decide)) ho
  obtain ⟨b1, b2, -⟩ := kd2_n u (kd_lt hu (by decide)) hu
  have keep : ∀ k, JD (jbZ v z o k) u n v := fun k => JD_fr hu hJ (fun a h1 h2 => (jbZ_fr ho k a (fun x => by unfold rng5 at x; omega)).1)
  unfold f_X2_becomeAs f_X2_becomeAs_0 f_X2_clear f_X2_clear_0
  rw [Option.bind_some]
  have key : f_X2_addAll (zI z o 1 0) o u = some (jbZ v z o n) := by
    refine loop_up (n := n) (fun F k b => f_X2_addAll_2 F b o u (iv (k : Int))) (jbZ v z o) (fun F => ?_) (fun F k hk => ?_) n 0 FU (by omega) (FU_8 (by omega))
    · show f_X2_addAll_2 _ _ _ _ _ = _
      rw [f_X2_addAll_2, (keep n).1, if_pos sz_t]
      rfl
    · show f_X2_addAll_2 _ _ _ _ _ = f_X2_addAll_2 F (adZ (jbZ v z o k) o k (fun w => v w k)) _ _ _
      have hK := keep k
      have hO := jbZ_JD (v := v) (z := z) ho k (by omega)
      rw [f_X2_addAll_2, hK.1, if_neg (sz_f hk (by omega))]
      unfold f_X2_addAll_10
      have v0 : f_X2_value (jbZ v z o k) u 0 (iv (k : Int)) = some (jbZ v z o k, iv (v 0 k)) := va_of hK (w := 0) (by decide) hk
      have v1 : f_X2_value (jbZ v z o k) u 1 (iv (k : Int)) = some (jbZ v z o k, iv (v 1 k)) := va_of hK (w := 1) (by decide) hk
      have v2 : f_X2_value (jbZ v z o k) u 2 (iv (k : Int)) = some (jbZ v z o k, iv (v 2 k)) := va_of hK (w := 2) (by decide) hk
      have v3 : f_X2_value (jbZ v z o k) u 3 (iv (k : Int)) = some (jbZ v z o k, iv (v 3 k)) := va_of hK (w := 3) (by decide) hk
      have ad := (ad_of ho hO (by omega) (x := fun w => v w k)).1
      simp only [v0, v1, v2, v3, Option.bind_some, ad, iv_s]
  rw [key, Option.bind_some]
noncomputable def maZ (z : St) (n : Nat) (x : Nat → Int) : St := zI (zI (zI (zI (zI z 69 n (iv (x 0))) 70 n (iv (x 1))) 71 n (iv (x 2))) 72 n (iv (x 3))) 68 5 (iv ((n + 1 : Nat) : Int))
theorem ma_of (hJ : MJ z n v) (hn : n < 8) {x : Nat → Int} : f_X11_adds z 68 (iv (x 0)) (iv (x 1)) (iv (x 2)) (iv (x 3)) = some (maZ z n x) ∧ MJ (maZ z n x) (n + 1) (vA v n x) := by
  have i1 : inb (iv (n : Int)) 8 = true := inb_k hn (by decide)
  have i2 : (iv (n : Int)).toNatClampNeg = n := iv_natN (by omega)
  constructor
  · unfold f_X11_adds f_X11_adds_0 maZ
    simp only [r68_1, r68_2, r68_3, r68_4, rI, hJ.1, i1, i2, reduceIte, Nat.reduceEqDiff, false_and, iv_s, if_true]
  · refine ⟨by unfold maZ; rw [rI, if_pos ⟨rfl, rfl⟩], by omega, fun j hj => ?_⟩
    unfold maZ vA
    simp only [rI, reduceIte, Nat.reduceEqDiff, false_and, true_and]
    by_cases e : j = n
    · simp only [e, if_true, and_self]
    · simp only [e, if_false]
      exact hJ.2.2 j (by omega)
end BECOME
