/-! the model's many counts too -/
theorem FU_9 : ∃ m, FU = m + 9 := ⟨3999991, rfl⟩
def mnT (s : Nat) : Bool := decide (((f_X11_many_4 9 ((fun _ _ => 0), (fun _ _ => 0)) 0 (iv (s : Int))).map (·.2)) = some (iv (pop s : Int)))
theorem mnT_all : ∀ s : Nat, s < 256 → mnT s = true := by decide +kernel
theorem many_mono {z z' : St} : ∀ (F m : Nat) (a b r : Int32), (f_X11_many_4 F z' a b).map (·.2) = some r → f_X11_many_4 (F + m) z a b = some (z, r)
  | 0, _, _, _, _, h => by
    rw [f_X11_many_4] at h
    exact absurd h (by simp)
  | F + 1, m, a, b, r, h => by
    rw [show F + 1 + m = (F + m) + 1 by omega]
    rw [f_X11_many_4] at h ⊢
    by_cases w : b = 0
    · rw [if_pos w] at h ⊢
      have h : some a = some r := h
      rw [Option.some.inj h]
      rfl
    · rw [if_neg w] at h ⊢
      unfold f_X11_many_8 at h ⊢
      exact many_mono F m _ _ r h
theorem mny_of {z : St} {s : Nat} (h : s < 256) : f_X11_many z (iv (s : Int)) = some (z, iv (pop s : Int)) := by
  obtain ⟨m, hm⟩ := FU_9
  have := of_decide_eq_true (mnT_all s h)
  unfold f_X11_many f_X11_many_0
  rw [hm, Nat.add_comm m 9]
  exact many_mono 9 m _ _ _ this
