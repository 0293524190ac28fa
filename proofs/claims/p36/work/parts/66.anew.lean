/-! tellAnew of the class; anew of the model: the bench from its beginning -/
def tr0 : Tr := (0, -1, 0, 0, 0, 0, fun _ => 0)
theorem TW_0 {n : Nat} : TW n tr0 := ⟨⟨Int.le_refl _, by decide⟩, ⟨Int.le_refl _, by show (-1 : Int) < n; omega⟩, fun a => absurd a (by show ¬ (0 : Int) ≤ -1; decide), Nat.two_pow_pos n, Nat.two_pow_pos n, ⟨Int.le_refl _, Int.le_refl _⟩⟩
section ANEW
variable {z : St} {n : Nat} {v : Nat → Nat → Int}
noncomputable def taZ (v : Nat → Nat → Int) (n : Nat) (z : St) : St := zI (zI (zI (zI (zI (zI (zI (ldZ (cmO v) (tkO v) (clO v) z 21 n) 57 1 (iv 0)) 57 2 (iv (-1))) 57 3 (iv 0)) 57 4 (iv 0)) 57 5 (iv 0)) 57 6 (iv 0)) 0 15 (iv 0)
theorem ta_of (hJ : JD z 1 n v) (hV : JV n v) : f_X10_tellAnew z 0 = some (taZ v n z) ∧ LD (taZ v n z) 21 n (cmO v) (tkO v) (clO v) ∧ CB (taZ v n z) tr0 ∧ (taZ v n z).1 0 15 = iv 0 ∧ Fr (fun a => (21 ≤ a ∧ a ≤ 24) ∨ a = 57 ∨ a = 0) z (taZ v n z) ∧ ∀ k, k ≠ 15 → (taZ v n z).1 0 k = z.1 0 k := by
  have h8 := hJ.2.1
  have k1 : kd 1 = 2 := by decide
  have k21 : kd 21 = 4 := by decide
  have r4 : rf 0 4 = 21 := by decide
  have r0 : rf 0 0 = 1 := by decide
  have r12 : rf 0 12 = 57 := by decide
  have e := rf_of (z := z) (o := 1) (u := 21) k1 k21 hJ hV
  have fr : Fr (own 21) z (ldZ (cmO v) (tkO v) (clO v) z 21 n) := ldZ_fr n
  have fr' : Fr (fun a => (21 ≤ a ∧ a ≤ 24) ∨ a = 57 ∨ a = 0) z (ldZ (cmO v) (tkO v) (clO v) z 21 n) := fr.mono (fun a ha => Or.inl (by have := own_rng (Or.inr k21) ha; omega))
  have hL := ldZ_LD (c := cmO v) (t := tkO v) (q := clO v) (z := z) (u := 21) k21 n h8
  have f57 : (57 : Nat) = 57 := rfl
  refine ⟨?_, LD_fr hL (fun a ha => ?_), ?_, ?_, ?_, fun k hk => ?_⟩
  · unfold f_X10_tellAnew f_X10_tellAnew_0
    rw [r4, r0, r12, e, Option.bind_some]
    unfold f_X9_beginAnew f_X9_beginAnew_0
    rw [Option.bind_some]
    unfold taZ
    rw [n_0, n_m1]
  · have hr := own_rng (Or.inr k21) ha
    unfold taZ
    rw [zI_n (by omega), zI_n (by omega), zI_n (by omega), zI_n (by omega), zI_n (by omega), zI_n (by omega), zI_n (by omega)]
  · unfold CB taZ tr0
    simp only [rI, reduceIte, Nat.reduceEqDiff, and_self, and_true, true_and, false_and, and_false]
    refine ⟨rfl, rfl, fun j _ hb => ?_⟩
    rw [Nat.zero_testBit] at hb
    exact absurd hb (by decide)
  · unfold taZ
    rw [rI, if_pos ⟨rfl, rfl⟩]
  · unfold taZ
    exact ((((((fr'.zI (Or.inr (Or.inl rfl))).zI (Or.inr (Or.inl rfl))).zI (Or.inr (Or.inl rfl))).zI (Or.inr (Or.inl rfl))).zI (Or.inr (Or.inl rfl))).zI (Or.inr (Or.inl rfl))).zI (Or.inr (Or.inr rfl))
  · unfold taZ
    rw [rI, if_neg (fun x => hk x.2), zI_n (by decide), zI_n (by decide), zI_n (by decide), zI_n (by decide), zI_n (by decide), zI_n (by decide)]
    rw [(fr 0 (fun x => by have := own_rng (Or.inr k21) x; omega)).1]
theorem an_MB : MB (anZ z 8) tr0 := by
  unfold MB tr0
  rw [an_68]
  unfold an0
  simp only [rI, reduceIte, Nat.reduceEqDiff, and_self, and_true, true_and, false_and, and_false]
  refine ⟨rfl, rfl, fun j hj => ?_⟩
  rw [Nat.zero_testBit, if_neg (by decide)]
  exact an_94 8 j hj
theorem an_MJ (hJ : MJ z n v) : MJ (anZ z 8) n v := MJ_fr hJ (an_68k (Or.inl (by decide))) (fun a h1 h2 => (an_fr 8 a (by omega)).1)
end ANEW
