/-! anew: the bench from its beginning (the model's side; the class's Truth.beginAnew) -/
noncomputable def an0 (z : St) : St := zI (zI (zI (zI (zI (zI z 68 45 (iv 0)) 68 46 (iv (-1))) 68 47 (iv 0)) 68 48 (iv 0)) 68 49 (iv 0)) 68 50 (iv 0)
noncomputable def anZ (z : St) : Nat → St
  | 0 => an0 z
  | k + 1 => zI (anZ z k) 94 k (iv (-1))
theorem an_of (z : St) : f_X11_anew z 68 = some (anZ z 8) := by
  refine loop_up (n := 8) (fun F k b => f_X11_anew_32 F b 68 (iv (k : Int))) (anZ z) (fun F => ?_) (fun F k hk => ?_) 8 0 FU (by omega) (FU_8 (by decide))
  · show f_X11_anew_32 _ _ _ _ = _
    rw [f_X11_anew_32, if_pos (by show (8 : Int32) ≤ iv ((8 : Nat) : Int); decide)]
    rfl
  · show f_X11_anew_32 _ _ _ _ = f_X11_anew_32 F (zI (anZ z k) 94 k (iv (-1))) _ _
    have i1 : inb (iv (k : Int)) 8 = true := inb_k (by omega) (by decide)
    have i2 : (iv (k : Int)).toNatClampNeg = k := iv_natN (by omega)
    rw [f_X11_anew_32, if_neg (fun x => by have := (iv_8le (sm_k (show k < 2147483648 by omega))).mp x; omega)]
    unfold f_X11_anew_38
    simp only [i1, i2, if_true, r68_51, iv_s, n_m1]
theorem an_fr {z : St} : ∀ k, Fr (fun a => a = 68 ∨ a = 94) z (anZ z k)
  | 0 => (((((Fr.refl.zI (Or.inl rfl)).zI (Or.inl rfl)).zI (Or.inl rfl)).zI (Or.inl rfl)).zI (Or.inl rfl)).zI (Or.inl rfl)
  | k + 1 => (an_fr k).trans (Fr.refl.zI (Or.inr rfl))
theorem an_68 {z : St} : ∀ k, (anZ z k).1 68 = (an0 z).1 68
  | 0 => rfl
  | k + 1 => by
    unfold anZ
    rw [zI_n (by decide)]
    exact an_68 k
theorem an_68k {z : St} {k : Nat} (h : k < 45 ∨ 50 < k) : (anZ z 8).1 68 k = z.1 68 k := by
  rw [an_68]
  unfold an0
  simp only [rI, true_and]
  rw [if_neg (by omega), if_neg (by omega), if_neg (by omega), if_neg (by omega), if_neg (by omega), if_neg (by omega)]
theorem an_94 {z : St} : ∀ k j, j < k → (anZ z k).1 94 j = iv (-1)
  | 0, _, h => absurd h (Nat.not_lt_zero _)
  | k + 1, j, h => by
    unfold anZ
    rw [rI]
    by_cases e : j = k
    · rw [if_pos ⟨rfl, e⟩]
    · rw [if_neg (fun x => e x.2)]
      exact an_94 k j (by omega)
