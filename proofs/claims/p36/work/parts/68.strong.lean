/-! how many are in a set: Integer.bitCount and the model's many -/
theorem bc_num (z : St) (x : Int32) : f_J6_bitCount_0f7a4 z x = some (z, ((f_J6_bitCount_0f7a4 ((fun _ _ => 0), (fun _ _ => 0)) x).map (·.2)).getD 0) := rfl
def pcT (s : Nat) : Bool := decide (((f_J6_bitCount_0f7a4 ((fun _ _ => 0), (fun _ _ => 0)) (iv (s : Int))).map (·.2)).getD 0 = iv ((s % 2 + s / 2 % 2 + s / 4 % 2 + s / 8 % 2 + s / 16 % 2 + s / 32 % 2 + s / 64 % 2 + s / 128 % 2 : Nat) : Int))
theorem pcT_all : ∀ s : Nat, s < 256 → pcT s = true := by decide +kernel
def pop (s : Nat) : Nat := s % 2 + s / 2 % 2 + s / 4 % 2 + s / 8 % 2 + s / 16 % 2 + s / 32 % 2 + s / 64 % 2 + s / 128 % 2
theorem bcn_of {z : St} {s : Nat} (h : s < 256) : f_J6_bitCount_0f7a4 z (iv (s : Int)) = some (z, iv (pop s : Int)) := by
  rw [bc_num]
  have := of_decide_eq_true (pcT_all s h)
  rw [this]
  rfl
