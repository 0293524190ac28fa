/-! THE START; the law -/
def y00 : Sy := (0, fun _ _ => 0, (false, 0, fun _ _ => 0), (0, fun _ => 0), tr0, (fun _ => -1, fun _ => 0, fun _ _ => 0))
theorem zM_0 : zM.1 0 14 = iv 0 ∧ zM.1 0 15 = iv 0 ∧ zM.1 1 1 = iv 0 ∧ zM.1 21 3 = iv 0 ∧ zM.1 19 1 = iv 0 ∧ zM.1 57 1 = iv 0 ∧ zM.1 57 2 = iv (-1) ∧ zM.1 57 3 = iv 0 ∧ zM.1 57 4 = iv 0 ∧ zM.1 57 5 = iv 0 ∧ zM.1 57 6 = iv 0 ∧ zM.1 68 5 = iv 0 ∧ zM.1 68 7 = iv 0 ∧ zM.1 68 53 = iv (-1) := by decide
theorem zM_S : ∀ i, i < 4 → zM.1 (60 + 2 * i) 1 = iv (-1) ∧ zM.1 (60 + 2 * i) 2 = iv 0 ∧ zM.1 96 i = iv (-1) ∧ zM.1 97 i = iv 0 := by decide
theorem zM_2 : ∀ a b, zM.2 a b = 0 := fun _ _ => rfl
theorem INV_0 : INV (anZ zM 8) y00 := by
  obtain ⟨a1, a2, a3, a4, a5, a6, a7, a8, a9, a10, a11, a12, a13, a14⟩ := zM_0
  have f : ∀ a, a ≠ 68 → a ≠ 94 → (anZ zM 8).1 a = zM.1 a := fun a h1 h2 => (an_fr 8 a (by omega)).1
  have f2 : ∀ a b, (anZ zM 8).2 a b = 0 := fun a b => by
    have : ∀ k, (anZ zM k).2 = zM.2 := fun k => by
      induction k with
      | zero => rfl
      | succ k ih => exact ih
    rw [this]
    exact zM_2 a b
  have g : ∀ k, (k < 45 ∨ 50 < k) → (anZ zM 8).1 68 k = zM.1 68 k := fun k hk => an_68k hk
  refine ⟨⟨⟨?_, by decide, fun w _ j hj => absurd hj (Nat.not_lt_zero _)⟩, ⟨?_, by decide, fun j hj => absurd hj (Nat.not_lt_zero _)⟩, ⟨fun e => absurd e (by decide), fun _ => ?_⟩, ⟨?_, fun j hj => absurd hj (Nat.not_lt_zero _)⟩, ⟨?_, ?_, ?_, ?_, ?_, ?_, fun j _ hb => ?_⟩, fun i hi => ⟨?_, ?_, fun j _ => f2 _ _⟩, Or.inl ?_⟩, ⟨⟨?_, by decide, fun j hj => absurd hj (Nat.not_lt_zero _)⟩, ⟨fun e => absurd e (by decide), fun _ => ?_⟩, ⟨?_, fun j hj => absurd hj (Nat.not_lt_zero _)⟩, an_MB, fun i hi => ⟨?_, ?_, fun j _ => f2 _ _⟩⟩, ⟨fun j hj => absurd hj (Nat.not_lt_zero _), fun e => absurd e (by decide), ⟨by decide, fun j hj => absurd hj (Nat.not_lt_zero _)⟩, ⟨TW_0, by decide⟩, fun i hi => ⟨by show (-1 : Int) ≤ -1 ∧ (-1 : Int) ≤ 1; decide, by show (0 : Nat) ≤ 40; decide, fun _ => rfl⟩⟩⟩
  · rw [f 1 (by decide) (by decide)]; exact a3
  · rw [f 21 (by decide) (by decide)]; exact a4
  · rw [f 0 (by decide) (by decide)]; exact a1
  · rw [f 19 (by decide) (by decide)]; exact a5
  · rw [f 57 (by decide) (by decide)]; exact a6
  · rw [f 57 (by decide) (by decide)]; exact a7
  · rw [f 57 (by decide) (by decide)]; exact a8
  · rw [f 57 (by decide) (by decide)]; exact a9
  · rw [f 57 (by decide) (by decide)]; exact a10
  · rw [f 57 (by decide) (by decide)]; exact a11
  · have hb : Nat.testBit 0 j = true := hb
    rw [Nat.zero_testBit] at hb
    exact absurd hb (by decide)
  · rw [f _ (by omega) (by omega)]; exact (zM_S i hi).1
  · rw [f _ (by omega) (by omega)]; exact (zM_S i hi).2.1
  · rw [f 0 (by decide) (by decide)]; exact a2
  · rw [g 5 (by omega)]; exact a12
  · rw [g 53 (by omega)]; exact a14
  · rw [g 7 (by omega)]; exact a13
  · rw [f 96 (by decide) (by decide)]; exact (zM_S i hi).2.2.1
  · rw [f 97 (by decide) (by decide)]; exact (zM_S i hi).2.2.2
theorem m_law {zA : St} (h : f_X11_anew zM 68 = some zA) : ∀ (xs : Nat → Int32) (L : Nat), L ≤ 3584 → ∃ res, f_L_law_16 xs L zA 0 68 = some res ∧ res.2 = 1 := fun xs L hL => by
  rw [an_of] at h
  have e : anZ zM 8 = zA := Option.some.inj h
  subst e
  unfold f_L_law_16
  exact l_18 hL 512 0 FU (anZ zM 8) y00 INV_0 (by omega) (by decide) (FU_8 (by decide))
