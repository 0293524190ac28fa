/-! SEARCH: all of the model's -/
section MSEARCH
variable {z z1 z2 : St} {n : Nat} {v : Nat → Nat → Int}
theorem nk1 {a b A B : Nat} (h : a ≤ 4 * A + 1) (g : b ≤ 4 * B + 1) : 3 + a + b ≤ 4 * (1 + A + B) + 1 := by omega
/-- a step of the model's loop a node, two more where there is a bar -/
theorem ms_le (t : Nat → Int) (n : Nat) : ∀ d (c q : Nat → Int) (s : Se), ms t n d c q s ≤ 4 * tk t n d c q s + 1
  | 0, _, _, _ => Nat.zero_le _
  | d + 1, c, q, s => by
    have hS : ∀ (c q : Nat → Int) (s : Se), msS t n d c q s ≤ 4 * tkS t n d c q s + 1 := fun c q s => by
      unfold msS tkS
      by_cases w : (bi c t q n 16).2.2.2.1 < s.1
      · rw [if_pos w, if_pos w]
        exact ms_le t n d c q s
      · rw [if_neg w]
        exact Nat.zero_le _
    rw [ms_s, tk_s]
    by_cases nb : bkB q n (gr c t q n n) < 0
    · rw [if_pos nb, if_pos nb]
      exact Nat.le_refl _
    · rw [if_neg nb, if_neg nb]
      exact nk1 (hS _ _ _) (hS _ _ _)
theorem sr_m (hJ : MJ z n v) (hV : JV n v) (hG : GT (tkO v) n 400 (cmO v) (clO v) (-1, 0, 0)) (hk : tk (tkO v) n 400 (cmO v) (clO v) (-1, 0, 0) ≤ 333333) (hf : (gr (cmO v) (tkO v) (clO v) n n).2.2.2.2.2.2.1 ≤ 500) : ∃ z', f_X11_search z 68 = some z' ∧ SEm z' (SR (cmO v) (tkO v) (clO v) n) ∧ MD z' n (cmO v) (tkO v) (clO v) ∧ Fr fM z z' ∧ k6 z z' := by
  obtain ⟨t1, t2, t3⟩ := th_of hJ hV
  obtain ⟨zt, hzt⟩ : ∃ zt, zt = thZ v z n := ⟨_, rfl⟩
  rw [← hzt] at t1 t2 t3
  have hB := GT_BD (GT_s (d := 399) hG).1
  have h8 := t2.2.1
  obtain ⟨X, -, hX⟩ := ex_iv (zt.1 68 29)
  obtain ⟨za, hza⟩ : ∃ za, za = zI (zI (zI zt 68 27 (-1)) 68 28 0) 68 30 0 := ⟨_, rfl⟩
  have ft : Fr fM z zt := t3.mono (fun a e => by unfold fM; omega)
  have fa : Fr fM zt za := by
    rw [hza]
    exact ((Fr.refl.zI (Or.inl rfl)).zI (Or.inl rfl)).zI (Or.inl rfl)
  have kt : k6 z zt := fun k _ => by rw [(t3 68 (by decide)).1]
  have ka : k6 zt za := fun k hk => by
    have : k ≠ 27 ∧ k ≠ 28 ∧ k ≠ 30 := by unfold k68 at hk; omega
    rw [hza, rI, if_neg (fun e => this.2.2 e.2), rI, if_neg (fun e => this.2.1 e.2), rI, if_neg (fun e => this.1 e.2)]
  have hLa : MD za n (cmO v) (tkO v) (clO v) := MD_fr t2 (ka 5 (Or.inl rfl)) (fun a e1 e2 => by rw [hza, zI_n (by omega), zI_n (by omega), zI_n (by omega)])
  have aS : SEm za (-1, 0, X) := by
    unfold SEm
    refine ⟨?_, ?_, ?_⟩
    · rw [hza, rI, if_neg (by decide), rI, if_neg (by decide), rI, if_pos ⟨rfl, rfl⟩]
      rfl
    · rw [hza, rI, if_neg (by decide), rI, if_pos ⟨rfl, rfl⟩]
      rfl
    · rw [hza, rI, if_neg (by decide), rI, if_neg (by decide), rI, if_neg (by decide), hX]
  obtain ⟨z2, v1, v2, v3, v4, v5, v6, v7, v8, v9, v10⟩ := vi_m hLa hB (p := 0) (by rw [hza, rI, if_pos ⟨rfl, rfl⟩]; rfl) (by decide) aS ⟨⟨by show (-1 : Int) ≤ -1; decide, by show (-1 : Int) ≤ 9000; decide⟩, by show (0 : Int) ≤ 0; decide, by show (0 : Int) ≤ 9000000; decide⟩
  have n0 : svN (gr (cmO v) (tkO v) (clO v) n n).2.2.2.2.2.2.1 (-1, 0, X) = sN (cmO v) (tkO v) (clO v) n (-1, 0, 0) := by
    unfold sN svN
    rw [if_pos (Or.inl rfl), if_pos (Or.inl rfl)]
  rw [n0] at v2
  have n1 : (sN (cmO v) (tkO v) (clO v) n (-1, 0, 0)).1 = (gr (cmO v) (tkO v) (clO v) n n).2.2.2.2.2.2.1 := by
    unfold sN svN
    rw [if_pos (Or.inl rfl)]
  have f0 := gr_f0 hB h8
  obtain ⟨M, hM⟩ : ∃ M, M = ms (tkO v) n 400 (cmO v) (clO v) (-1, 0, 0) := ⟨_, rfl⟩
  have mb : M ≤ 1333333 := by
    have := ms_le (tkO v) n 400 (cmO v) (clO v) (-1, 0, 0)
    rw [← hM] at this
    exact Nat.le_trans this (Nat.le_trans (Nat.add_le_add_right (Nat.mul_le_mul_left 4 hk) 1) (by decide))
  obtain ⟨z3, r1, r2, r3, r4, r5, r6, r7, r8, r9, r10⟩ := rt_m (tkO v) n 400 (cmO v) (clO v) (-1, 0, 0) 0 z2 hG ⟨v3, v2, v4, v5, v6, v7⟩ (Nat.le_refl _) (by rw [n1]; exact ⟨f0, hf⟩) ⟨by show (0 : Int) ≤ 0; decide, by rw [← hM]; show (0 : Int) + (M : Int) ≤ 9000000; omega⟩
  rw [← hM] at r1
  refine ⟨z3, ?_, r2, r3, ((ft.trans fa).trans (v9.mono (fun a e => by unfold fM; omega))).trans r6, ((kt.trans ka).trans v10).trans r7⟩
  unfold f_X11_search f_X11_search_0
  rw [t1, Option.bind_some, ← hza, v1, Option.bind_some]
  have fu : 1333334 < FU := by
    show 1333334 < 4000000
    omega
  obtain ⟨G, hG'⟩ : ∃ G, FU = (G + 1) + M := ⟨FU - 1 - M, by omega⟩
  have r1' := r1 (G + 1)
  rw [← hG'] at r1'
  rw [r1', se_s]
  unfold f_X11_search_167
  rw [r4, if_pos (show iv (((0 : Nat) : Int) - 1) < 0 by decide)]
end MSEARCH
