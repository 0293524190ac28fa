/-! P36: the calls at the numbers that the law writes -/
section CLE
variable {z : St} {y : Sy}
theorem q_told (h : IK z y) {a b : Int32} {j w : Int} (sj : sm j) (sw : sm w) (ha : a = iv j) (hb : b = iv w) : f_X10_told z 0 a b = some (z, iv (if (0 ≤ j ∧ j < y.1) ∧ 0 ≤ w ∧ w ≤ 6 then itsV y.2.1 w j.toNat else -2)) := by
  subst ha
  subst hb
  exact p_told h sj sw
theorem q_told2 (h : IK z y) {a b : Int32} {j w : Int} (sj : sm j) (sw : sm w) (ha : a = iv j) (hb : b = iv w) (g : ¬ (0 ≤ j ∧ j < y.1)) : f_X10_told z 0 a b = some (z, iv (-2)) := by
  rw [q_told h sj sw ha hb, if_neg (fun e => g e.1)]
theorem q_toldk (h : IK z y) {a b : Int32} {k : Nat} {w : Int} (hk : k < y.1) (hw : 0 ≤ w ∧ w ≤ 6) (ha : a = iv (k : Int)) (hb : b = iv w) : f_X10_told z 0 a b = some (z, iv (itsV y.2.1 w k)) := by
  have h8 := h.1.1.2.1
  rw [q_told h (sm_k (by omega)) ⟨by omega, by omega⟩ ha hb, if_pos ⟨⟨by omega, by omega⟩, hw⟩, Int.toNat_natCast]
theorem q_taken2 (h : IK z y) {a b : Int32} {j w : Int} (sj : sm j) (sw : sm w) (ha : a = iv j) (hb : b = iv w) (g : ¬ (0 ≤ j ∧ j < y.1)) : f_X10_taken z 0 a b = some (z, iv (-2)) := by
  subst ha
  subst hb
  rw [p_taken h sj sw, if_neg (fun e => g e.1)]
theorem q_takenk (h : IK z y) {a b : Int32} {k : Nat} {w : Int} (hk : k < y.1) (hw : 0 ≤ w ∧ w ≤ 5) (ha : a = iv (k : Int)) (hb : b = iv w) : f_X10_taken z 0 a b = some (z, iv (if isU (y.2.1 0 k).toNat w.toNat = true then tkO y.2.1 k + clO y.2.1 k else -13)) := by
  have h8 := h.1.1.2.1
  subst ha
  subst hb
  rw [p_taken h (sm_k (by omega)) ⟨by omega, by omega⟩, if_pos ⟨⟨by omega, by omega⟩, hw⟩, Int.toNat_natCast]
theorem q_bench (h : IK z y) {a : Int32} {w : Int} (sw : sm w) (ha : a = iv w) : f_X10_bench z 0 a = some (z, iv (beV y.2.2.2.2.1 w)) := by
  subst ha
  exact p_bench h sw
theorem q_began (h : IK z y) {a : Int32} {j : Int} (sj : sm j) (ha : a = iv j) : f_X10_began z 0 a = some (z, iv (bgV y.1 y.2.2.2.2.1 j)) := by
  subst ha
  exact p_began h sj
theorem q_count (h : IK z y) {a : Int32} {w : Int} (sw : sm w) (ha : a = iv w) : f_X10_count z 0 a = some (z, iv (coV y w)) := by
  subst ha
  exact p_count h sw
theorem q_job4 (h : IK z y) (gr : ¬ y.1 < 8) : f_X10_job z 0 0 0 1 0 = some (z, iv (-4)) := by
  rw [n_0, n_1]
  exact p_job4 h (sm_d 0) (sm_d 0) (sm_d 1) (sm_d 0) ⟨by decide, by decide, by decide, by decide⟩ gr
theorem q_job2 (h : IK z y) {a b c d : Int32} {a' b' c' d' : Int} (ha : a = iv a') (hb : b = iv b') (hc : c = iv c') (hd : d = iv d') (sa : sm a') (sb : sm b') (sc : sm c') (sd : sm d') (g : ¬ inJ a' b' c' d') : f_X10_job z 0 a b c d = some (z, iv (-2)) := by
  subst ha
  subst hb
  subst hc
  subst hd
  exact p_job2 h sa sb sc sd g
theorem q_set2 (h : IK z y) {a b c : Int32} {j w x : Int} (ha : a = iv j) (hb : b = iv w) (hc : c = iv x) (sj : sm j) (sw : sm w) (sx : sm x) (g : ¬ (0 ≤ j ∧ j < y.1)) : f_X10_set z 0 a b c = some (z, iv (-2)) := by
  subst ha
  subst hb
  subst hc
  exact p_set2 h sj sw sx g
theorem q_drop2 (h : IK z y) {a : Int32} {j : Int} (ha : a = iv j) (sj : sm j) (g : ¬ (0 ≤ j ∧ j < y.1)) : f_X10_drop z 0 a = some (z, iv (-2)) := by
  subst ha
  exact p_drop2 h sj g
theorem q_must2 (h : IK z y) {a : Int32} {j : Int} (ha : a = iv j) (sj : sm j) (g : ¬ (0 ≤ j ∧ j < y.1)) : f_X10_must z 0 a = some (z, iv (-2)) := by
  subst ha
  exact p_must2 h sj g
theorem q_room2 (h : IK z y) {a : Int32} {j : Int} (ha : a = iv j) (sj : sm j) (g : ¬ (0 ≤ j ∧ j < y.1)) : f_X10_room z 0 a = some (z, iv (-2)) := by
  subst ha
  exact p_room2 h sj g
theorem q_gain2 (h : IK z y) {a : Int32} {j : Int} (ha : a = iv j) (sj : sm j) (g : ¬ (0 ≤ j ∧ j < y.1)) : f_X10_gain z 0 a = some (z, iv (-2)) := by
  subst ha
  exact p_gain2 h sj g
theorem q_go2 (h : IK z y) {a : Int32} {w : Int} (ha : a = iv w) (sw : sm w) (g : ¬ (1 ≤ w ∧ w ≤ 60)) : f_X10_go z 0 a = some (z, iv (-2)) := by
  subst ha
  exact p_go2 h sw g
theorem q_feed2 {m a b c d e : Int32} {m' a' b' c' d' e' : Int} (hm : m = iv m') (ha : a = iv a') (hb : b = iv b') (hc : c = iv c') (hd : d = iv d') (he : e = iv e') (sm' : sm m') (sa : sm a') (sb : sm b') (sc : sm c') (sd : sm d') (se : sm e') (g : ¬ inF m' a' b' c' d' e') : f_X10_feed z 0 m a b c d e = some (z, iv (-2)) := by
  subst hm
  subst ha
  subst hb
  subst hc
  subst hd
  subst he
  exact p_feed2 sm' sa sb sc sd se g
theorem q_feed (h : IK z y) {k : Nat} {m a b c d e : Int32} {a' b' c' d' e' : Int} (hm : m = iv (k : Int)) (ha : a = iv a') (hb : b = iv b') (hc : c = iv c') (hd : d = iv d') (he : e = iv e') (g : inF k a' b' c' d' e') (g2 : y.2.2.2.1.1 + k ≤ 60) : ∃ z', f_X10_feed z 0 m a b c d e = some (z', iv ((y.2.2.2.1.1 + k : Nat) : Int)) ∧ IK z' (yB y (taF y.2.2.2.1 k (fdX a' b' c' d' e'))) := by
  subst hm
  subst ha
  subst hb
  subst hc
  subst hd
  subst he
  exact p_feed h g g2
theorem q_greedy (h : IK z y) {a b : Int32} {k w : Int} (ha : a = iv k) (hb : b = iv w) (sk : sm k) (sw : sm w) (g1 : 0 ≤ w ∧ w ≤ 1) (g2 : -1 ≤ k ∧ k < y.1) : ∃ z', f_X10_greedy z 0 a b = some (z', iv (gdV y k w)) ∧ IK z' y := by
  subst ha
  subst hb
  exact p_greedy h sk sw g1 g2
theorem i_m2 : iv (-2) = (-2 : Int32) := n_m2.symm
theorem i_m4 : iv (-4) = (-4 : Int32) := n_m4.symm
end CLE
abbrev YL (n : Nat) (v : Nat → Nat → Int) (x : Tr) (b : Ta) : Sy := (n, v, (true, n, v), b, x, (fun _ => -1, fun _ => 0, fun _ _ => 0))
def yS : Sy := (0, fun _ _ => 0, (false, 0, fun _ _ => 0), b00, tr0, (fun _ => -1, fun _ => 0, fun _ _ => 0))
/-! the end: an item by text, as a whole or not at all -/
section ENDL
variable {z : St} {xs : Nat → Int32} {L n : Nat} {v : Nat → Nat → Int} {x : Tr}
theorem l_state (h : IK z (YL n v x b00)) : f_L_state z 0 = some (z, stV n v x 0) := by
  have e := st_of h
  exact e
abbrev YM (n : Nat) (v : Nat → Nat → Int) (n' : Nat) (v' : Nat → Nat → Int) (x : Tr) (b : Ta) : Sy := (n', v', (true, n, v), b, x, (fun _ => -1, fun _ => 0, fun _ _ => 0))
theorem l_1208 {n' : Nat} {v' : Nat → Nat → Int} (h : IK z (YM n v n' v' x b00)) : ∃ z', f_L_law_1208 xs L z 0 (iv (n : Int)) (stV n v tr0 0) = some (z', 1) := by
  obtain ⟨z1, e1, h1⟩ := p_back h rfl
  have h1 : IK z1 (YL n v tr0 b00) := h1
  have e1 : f_X10_back z 0 = some (z1, iv (n : Int)) := e1
  refine ⟨z1, ?_⟩
  unfold f_L_law_1208 f_L_law_1216
  rw [e1, Option.bind_some, if_pos rfl, l_state h1, Option.bind_some, if_pos (lc_eq _)]
  rfl
theorem l_1135 {n' : Nat} {v' : Nat → Nat → Int} (h : IK z (YM n v n' v' x b00)) (hn : n' = n + 1) (h8 : n' ≤ 8) {kc : Int} (hk : klT kc ≠ -1) (kb : 0 ≤ kc ∧ kc ≤ 255) : ∃ z', f_L_law_1135 xs L z 0 (iv (n : Int)) (stV n v tr0 0) (iv kc) = some (z', 1) := by
  obtain ⟨z1, e1, h1⟩ := q_feed h (k := 5) (m := 5) (a := iv kc) (b := 57) (c := 57) (d := 44) (e := 49) (a' := kc) (b' := 57) (c' := 57) (d' := 44) (e' := 49) (by decide) rfl (by decide) (by decide) (by decide) (by decide) ⟨by decide, kb, by decide, by decide, by decide, by decide⟩ (by show (0 : Nat) + _ ≤ 60; decide)
  obtain ⟨f1, f2⟩ := it_f1 (b := taF b00 5 (fdX kc 57 57 44 49)) hk rfl rfl rfl rfl
  have h1 : IK z1 (YM n v n' v' x (taF b00 5 (fdX kc 57 57 44 49))) := h1
  obtain ⟨z2, e2, h2⟩ := p_textF h1 f1 (by show sm (rsT (taF b00 5 (fdX kc 57 57 44 49)) 0); rw [f2]; exact sm_d 1) (by show rsT (taF b00 5 (fdX kc 57 57 44 49)) 0 ≠ -1; rw [f2]; decide)
  have e2 : f_X10_text z1 0 = some (z2, iv (-100 - rsT (taF b00 5 (fdX kc 57 57 44 49)) 0)) := e2
  have h2 : IK z2 (YM n v n' v' x b00) := h2
  rw [f2] at e2
  obtain ⟨z3, e3, h3⟩ := q_feed h2 (k := 4) (m := 4) (a := iv kc) (b := 53) (c := 44) (d := 48) (e := 0) (a' := kc) (b' := 53) (c' := 44) (d' := 48) (e' := 0) (by decide) rfl (by decide) (by decide) (by decide) (by decide) ⟨by decide, kb, by decide, by decide, by decide, by decide⟩ (by show (0 : Nat) + _ ≤ 60; decide)
  obtain ⟨f3, f4⟩ := it_f3 (b := taF b00 4 (fdX kc 53 44 48 0)) hk rfl rfl rfl rfl rfl
  have h3 : IK z3 (YM n v n' v' x (taF b00 4 (fdX kc 53 44 48 0))) := h3
  obtain ⟨z4, e4, h4⟩ := p_textF h3 f3 (by show sm (rsT (taF b00 4 (fdX kc 53 44 48 0)) 0); rw [f4]; exact sm_d 3) (by show rsT (taF b00 4 (fdX kc 53 44 48 0)) 0 ≠ -1; rw [f4]; decide)
  have e4 : f_X10_text z3 0 = some (z4, iv (-100 - rsT (taF b00 4 (fdX kc 53 44 48 0)) 0)) := e4
  have h4 : IK z4 (YM n v n' v' x b00) := h4
  rw [f4] at e4
  obtain ⟨f5, f6⟩ := it_f0 (b := b00) rfl
  obtain ⟨z5, e5, h5⟩ := p_textF h4 f5 (by show sm (rsT b00 0); rw [f6]; exact sm_d 0) (by show rsT b00 0 ≠ -1; rw [f6]; decide)
  have e5 : f_X10_text z4 0 = some (z5, iv (-100 - rsT b00 0)) := e5
  have h5 : IK z5 (YM n v n' v' x b00) := h5
  rw [f6] at e5
  obtain ⟨z6, e6⟩ := l_1208 (xs := xs) (L := L) h5
  refine ⟨z6, ?_⟩
  unfold f_L_law_1135
  rw [e1, Option.bind_some]
  dsimp only
  rw [e2, Option.bind_some, if_pos (by show iv (-100 - 1) = -101; decide)]
  unfold f_L_law_1160
  dsimp only
  rw [q_count h2 (sm_d 0) n_0, Option.bind_some, if_pos (by
    show iv (n' : Int) = iv (n : Int) + 1
    rw [iv_s, hn])]
  unfold f_L_law_1173
  dsimp only
  rw [e3, Option.bind_some]
  dsimp only
  rw [e4, Option.bind_some, if_pos (by show iv (-100 - 3) = -103; decide)]
  unfold f_L_law_1197
  dsimp only
  rw [e5, Option.bind_some, if_pos (by show iv (-100 - 0) = -100; decide)]
  exact e6
theorem l_1033 {n' : Nat} (h8 : n ≤ 8) {b : Ta} (h : IK z (YL n v x b)) (hx : n = 8 → x = tr0) {kc kd r w t : Int} (hk : klT kc = kd) (k0 : 0 ≤ kd ∧ kd ≤ 5) (kb : 0 ≤ kc ∧ kc ≤ 255) (r0 : 0 ≤ r ∧ r ≤ 60) (w0 : 1 ≤ w ∧ w ≤ 20) (t0 : 0 ≤ t ∧ t ≤ 60) (f1 : itOK b 0) (f2 : ¬ cnT b 0) (f3 : rsT b 0 = -1) (f4 : itV b 0 0 = kd) (f5 : itV b 1 0 = r) (f6 : itV b 2 0 = w) (f7 : itV b 3 0 = t) : ∃ z', f_L_law_1033 xs L z 0 (iv (n : Int)) (stV n v tr0 0) (iv kd) (iv r) (iv w) (iv t) (iv kc) = some (z', 1) := by
  unfold f_L_law_1033
  by_cases g : n = 8
  · have hx := hx g
    subst hx
    rw [if_pos (by rw [g]; decide)]
    obtain ⟨z1, e1, h1⟩ := p_text4 h f2 f3 (by show ¬ n + 1 ≤ 8; omega)
    have h1 : IK z1 (YL n v tr0 b00) := h1
    refine ⟨z1, ?_⟩
    unfold f_L_law_1039
    rw [e1, Option.bind_some, if_pos i_m4]
    unfold f_L_law_1048
    dsimp only
    rw [q_count h1 (sm_d 2) n_2, Option.bind_some, if_pos (by show iv ((0 : Nat) : Int) = 0; decide)]
    unfold f_L_law_1056
    dsimp only
    rw [l_state h1, Option.bind_some, if_pos (lc_eq _)]
    rfl
  · rw [if_neg (fun e => g (by
      rw [n_8] at e
      have := (iv_eqk (sm_k (show n < 2147483648 by omega)) 8).mp e
      omega))]
    obtain ⟨z1, e1, h1⟩ := p_textA h f2 f3 f1 (by show n + 1 ≤ 8; omega)
    have e1 : f_X10_text z 0 = some (z1, iv ((n + 1 : Nat) : Int)) := e1
    have h1 : IK z1 (YM n v (n + 1) (vB v n (itV b)) tr0 b00) := h1
    have nn : n < (YM n v (n + 1) (vB v n (itV b)) tr0 b00).1 := Nat.lt_succ_self n
    have tv : ∀ w : Nat, vB v n (itV b) w n = itV b w 0 := fun w => by
      unfold vB
      rw [if_neg (Nat.lt_irrefl n), Nat.sub_self]
    have i0 : itsV (vB v n (itV b)) 0 n = kd := by
      rw [← f4, ← tv]
      rfl
    have i1 : itsV (vB v n (itV b)) 1 n = r := by
      rw [← f5, ← tv]
      rfl
    have i2 : itsV (vB v n (itV b)) 2 n = w := by
      rw [← f6, ← tv]
      rfl
    have i3 : itsV (vB v n (itV b)) 3 n = t := by
      rw [← f7, ← tv]
      rfl
    obtain ⟨z2, e2⟩ := l_1135 (xs := xs) (L := L) h1 rfl (by omega) (kc := kc) (by rw [hk]; omega) kb
    refine ⟨z2, ?_⟩
    unfold f_L_law_1071
    rw [e1, Option.bind_some, if_pos (iv_s n).symm]
    unfold f_L_law_1081
    dsimp only
    rw [q_toldk h1 nn (w := 0) (by decide) rfl n_0, Option.bind_some, if_pos (congrArg iv i0)]
    unfold f_L_law_1092
    dsimp only
    rw [q_toldk h1 nn (w := 1) (by decide) rfl n_1, Option.bind_some, if_pos (congrArg iv i1)]
    unfold f_L_law_1103
    dsimp only
    rw [q_toldk h1 nn (w := 2) (by decide) rfl n_2, Option.bind_some, if_pos (congrArg iv i2)]
    unfold f_L_law_1114
    dsimp only
    rw [q_toldk h1 nn (w := 3) (by decide) rfl n_3, Option.bind_some, if_pos (congrArg iv i3)]
    unfold f_L_law_1125
    dsimp only
    rw [q_count h1 (sm_d 2) n_2, Option.bind_some, if_pos (by show iv ((0 : Nat) : Int) = 0; decide)]
    exact e2
theorem l_952 (h8 : n ≤ 8) (h : IK z (YL n v x b00)) (hx : n = 8 → x = tr0) {kc kd r w t : Int} (hk : klT kc = kd) (k0 : 0 ≤ kd ∧ kd ≤ 5) (kb : 0 ≤ kc ∧ kc ≤ 255) (r0 : 0 ≤ r ∧ r ≤ 60) (w0 : 1 ≤ w ∧ w ≤ 20) (t0 : 0 ≤ t ∧ t ≤ 60) : ∃ z', f_L_law_952 xs L z 0 (iv (n : Int)) (stV n v tr0 0) (iv kd) (iv r) (iv w) (iv t) (iv kc) = some (z', 1) := by
  have dv : ∀ a : Int, 0 ≤ a ∧ a ≤ 60 → (48 : Int32) + iv a / 10 = iv (48 + a / 10) ∧ (48 : Int32) + (iv a - iv a / 10 * 10) = iv (48 + (a - a / 10 * 10)) := fun a ha => by
    rw [show (10 : Int32) = iv 10 by decide, show (48 : Int32) = iv 48 by decide, iv_div ⟨ha.1, by omega⟩ (by decide), iv_mul, iv_sub, iv_add, iv_add]
    exact ⟨rfl, rfl⟩
  obtain ⟨z1, e1, h1⟩ := q_feed h (k := 4) (m := 4) (a := iv kc) (b := 48 + iv r / 10) (c := 48 + (iv r - iv r / 10 * 10)) (d := 44) (e := 0) (a' := kc) (b' := 48 + r / 10) (c' := 48 + (r - r / 10 * 10)) (d' := 44) (e' := 0) (by decide) rfl (dv r (by omega)).1 (dv r (by omega)).2 (by decide) (by decide) ⟨by decide, kb, by omega, by omega, by decide, by decide⟩ (by show (0 : Nat) + 4 ≤ 60; decide)
  obtain ⟨b1, hb1⟩ : ∃ b1, b1 = taF b00 4 (fdX kc (48 + r / 10) (48 + (r - r / 10 * 10)) 44 0) := ⟨_, rfl⟩
  have h1 : IK z1 (YL n v x b1) := by
    rw [hb1]
    exact h1
  have b14 : b1.1 = 4 := by
    rw [hb1]
    rfl
  obtain ⟨z2, e2, h2⟩ := q_feed h1 (k := 5) (m := 5) (a := 48 + iv w / 10) (b := 48 + (iv w - iv w / 10 * 10)) (c := 44) (d := 48 + iv t / 10) (e := 48 + (iv t - iv t / 10 * 10)) (a' := 48 + w / 10) (b' := 48 + (w - w / 10 * 10)) (c' := 44) (d' := 48 + t / 10) (e' := 48 + (t - t / 10 * 10)) (by decide) (dv w (by omega)).1 (dv w (by omega)).2 (by decide) (dv t (by omega)).1 (dv t (by omega)).2 ⟨by decide, by omega, by omega, by decide, by omega, by omega⟩ (by show b1.1 + 5 ≤ 60; omega)
  obtain ⟨b2, hb2⟩ : ∃ b2, b2 = taF b1 5 (fdX (48 + w / 10) (48 + (w - w / 10 * 10)) 44 (48 + t / 10) (48 + (t - t / 10 * 10))) := ⟨_, rfl⟩
  have h2 : IK z2 (YL n v x b2) := by
    rw [hb2]
    exact h2
  have b29 : b2.1 = 9 := by
    rw [hb2]
    show b1.1 + 5 = 9
    omega
  have lo : ∀ j, j < 4 → b2.2 j = fdX kc (48 + r / 10) (48 + (r - r / 10 * 10)) 44 0 j := fun j hj => by
    rw [hb2]
    show (if j < b1.1 then b1.2 j else _) = _
    rw [if_pos (by omega), hb1]
    show (if j < 0 then (0 : Int) else fdX kc (48 + r / 10) (48 + (r - r / 10 * 10)) 44 0 (j - 0)) = _
    rw [if_neg (Nat.not_lt_zero _), Nat.sub_zero]
  have hi : ∀ j, j < 5 → b2.2 (4 + j) = fdX (48 + w / 10) (48 + (w - w / 10 * 10)) 44 (48 + t / 10) (48 + (t - t / 10 * 10)) j := fun j hj => by
    rw [hb2]
    show (if 4 + j < b1.1 then b1.2 (4 + j) else fdX (48 + w / 10) (48 + (w - w / 10 * 10)) 44 (48 + t / 10) (48 + (t - t / 10 * 10)) (4 + j - b1.1)) = _
    rw [if_neg (by omega), b14, Nat.add_sub_cancel_left]
  obtain ⟨f1, f2, f3, f4, f5, f6, f7⟩ := it_9 (b := b2) hk k0.1 b29 (lo 0 (by omega)) (lo 1 (by omega)) (lo 2 (by omega)) (lo 3 (by omega)) (hi 0 (by omega)) (hi 1 (by omega)) (hi 2 (by omega)) (hi 3 (by omega)) (hi 4 (by omega)) (by omega) (by omega) (by omega) (by omega) (by omega) (by omega) (by omega) (by omega) (by omega)
  obtain ⟨z3, e3⟩ := l_1033 (xs := xs) (L := L) (n' := 0) h8 h2 hx hk k0 kb r0 w0 t0 f1 f2 f3 f4 (by rw [f5]; omega) (by rw [f6]; omega) (by rw [f7]; omega)
  refine ⟨z3, ?_⟩
  unfold f_L_law_952
  rw [e1, Option.bind_some]
  dsimp only
  rw [e2, Option.bind_some]
  dsimp only
  rw [q_count h2 (sm_d 2) n_2, Option.bind_some, if_pos (by
    show iv (b2.1 : Int) = 9
    rw [b29]
    decide)]
  exact e3
theorem l_842 (hL : L ≤ 260) (h8 : n ≤ 8) (h : IK z (YL n v x b00)) (hx : n = 8 → x = tr0) : ∃ z', f_L_law_842 xs L z 0 (iv (n : Int)) (stV n v tr0 0) = some (z', 1) := by
  obtain ⟨a6, h6⟩ := at_of (xs := xs) hL (k := 6) (by decide)
  obtain ⟨a7, h7⟩ := at_of (xs := xs) hL (k := 7) (by decide)
  obtain ⟨a8, h8'⟩ := at_of (xs := xs) hL (k := 8) (by decide)
  obtain ⟨a9, h9⟩ := at_of (xs := xs) hL (k := 9) (by decide)
  obtain ⟨kd, k1, k2⟩ := some_of (a := a6) (N := 6) (by decide)
  obtain ⟨r, r1, r2⟩ := some_of (a := a7) (N := 61) (by decide)
  obtain ⟨w, w1, w2⟩ := some_of (a := a8) (N := 20) (by decide)
  obtain ⟨t, t1, t2⟩ := some_of (a := a9) (N := 61) (by decide)
  have e6 : ∀ z : St, f_L_at xs L z 6 = some (z, a6) := h6
  have e7 : ∀ z : St, f_L_at xs L z 7 = some (z, a7) := h7
  have e8 : ∀ z : St, f_L_at xs L z 8 = some (z, a8) := h8'
  have e9 : ∀ z : St, f_L_at xs L z 9 = some (z, a9) := h9
  have k2 : ∀ z : St, f_L_some z a6 6 = some (z, iv kd) := k2
  have r2 : ∀ z : St, f_L_some z a7 61 = some (z, iv r) := r2
  have w2 : ∀ z : St, f_L_some z a8 20 = some (z, iv w) := w2
  have t2 : ∀ z : St, f_L_some z a9 61 = some (z, iv t) := t2
  have w3 : (1 : Int32) + iv w = iv (1 + w) := by rw [n_1, iv_add]
  have sk : sm kd := ⟨by omega, by omega⟩
  unfold f_L_law_842
  simp only [e6, k2, e7, r2, e8, w2, e9, t2, Option.bind_some, w3]
  unfold f_L_law_906 f_L_law_917 f_L_law_928 f_L_law_939 f_L_law_901 f_L_law_912 f_L_law_923 f_L_law_934 f_L_law_945 f_L_law_950
  rw [n_0, n_1, n_2, n_3, n_4]
  simp only [iv_eqk sk 0, iv_eqk sk 1, iv_eqk sk 2, iv_eqk sk 3, iv_eqk sk 4]
  have go : ∀ (kc : Int) (K : Int32), K = iv kc → klT kc = kd → 0 ≤ kc ∧ kc ≤ 255 → ∃ z', f_L_law_952 xs L z 0 (iv (n : Int)) (stV n v tr0 0) (iv kd) (iv r) (iv (1 + w)) (iv t) K = some (z', 1) := fun kc K hK hk kb => by
    rw [hK]
    exact l_952 h8 h hx hk (by omega) kb (by omega) (by omega) (by omega)
  by_cases c0 : kd = 0
  · rw [if_pos c0]
    exact go 112 112 (by decide) (by rw [c0]; decide) (by decide)
  · rw [if_neg c0]
    by_cases c1 : kd = 1
    · rw [if_pos c1]
      exact go 114 114 (by decide) (by rw [c1]; decide) (by decide)
    · rw [if_neg c1]
      by_cases c2 : kd = 2
      · rw [if_pos c2]
        exact go 104 104 (by decide) (by rw [c2]; decide) (by decide)
      · rw [if_neg c2]
        by_cases c3 : kd = 3
        · rw [if_pos c3]
          exact go 100 100 (by decide) (by rw [c3]; decide) (by decide)
        · rw [if_neg c3]
          by_cases c4 : kd = 4
          · rw [if_pos c4]
            exact go 109 109 (by decide) (by rw [c4]; decide) (by decide)
          · rw [if_neg c4]
            exact go 115 115 (by decide) (by rw [show kd = 5 by omega]; decide) (by decide)
end ENDL
