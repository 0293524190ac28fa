/-! BREAKING: the model, hour by hour -/
abbrev Mb : Type := (Nat → Int) × Nat × Int × Int × Int
noncomputable def mbN (c t q : Nat → Int) (n : Nat) (h : Int) (x : Mb) : Int := if x.2.2.1 < 0 then nb c t q x.2.1 h n else if q x.2.2.1.toNat < q (nb c t q x.2.1 h n).toNat then nb c t q x.2.1 h n else x.2.2.1
noncomputable def mbB (c t q : Nat → Int) (n : Nat) (h : Int) (x : Mb) : Int := if x.2.2.1 < 0 then x.2.2.2.2 else if q x.2.2.1.toNat < q (nb c t q x.2.1 h n).toNat then x.2.2.2.2 + 1 else x.2.2.2.2
noncomputable def mbS (c t q : Nat → Int) (n : Nat) (h : Int) (x : Mb) : Mb :=
  if mbN c t q n h x < 0 then (x.1, x.2.1, mbN c t q n h x, x.2.2.2.1, mbB c t q n h x) else
  if x.1 (mbN c t q n h x).toNat - 1 = 0 then (up x.1 (mbN c t q n h x).toNat 0, x.2.1 ||| (1 <<< (mbN c t q n h x).toNat), -1, max x.2.2.2.1 (h + 1 + q (mbN c t q n h x).toNat), mbB c t q n h x)
  else (up x.1 (mbN c t q n h x).toNat (x.1 (mbN c t q n h x).toNat - 1), x.2.1, mbN c t q n h x, x.2.2.2.1, mbB c t q n h x)
def MW (n : Nat) (c t : Nat → Int) (h : Int) (x : Mb) : Prop := x.2.1 < 2 ^ n ∧ (∀ j, j < n → 0 ≤ x.1 j ∧ x.1 j ≤ t j ∧ (x.1 j = 0 ↔ Nat.testBit x.2.1 j = true)) ∧ (-1 ≤ x.2.2.1 ∧ (0 ≤ x.2.2.1 → x.2.2.1.toNat < n ∧ Nat.testBit x.2.1 x.2.2.1.toNat = false ∧ c x.2.2.1.toNat ≤ h)) ∧ (0 ≤ x.2.2.2.1 ∧ x.2.2.2.1 ≤ h + 900)
theorem mb_now {c t q : Nat → Int} {n : Nat} {h : Int} {x : Mb} (hW : MW n c t h x) (h0 : 0 ≤ x.2.2.1) : 0 ≤ nb c t q x.2.1 h n := by
  have := hW.2.2.1.2 h0
  exact nb_pos this.2.1 this.2.2 n this.1
theorem mbN_ok {c t q : Nat → Int} {n : Nat} {h : Int} {x : Mb} (hW : MW n c t h x) : -1 ≤ mbN c t q n h x ∧ (0 ≤ mbN c t q n h x → (mbN c t q n h x).toNat < n ∧ Nat.testBit x.2.1 (mbN c t q n h x).toNat = false ∧ c (mbN c t q n h x).toNat ≤ h) := by
  have hb := nb_lt (c := c) (t := t) (q := q) (s := x.2.1) (h := h) n
  have ho : 0 ≤ nb c t q x.2.1 h n → (nb c t q x.2.1 h n).toNat < n ∧ Nat.testBit x.2.1 (nb c t q x.2.1 h n).toNat = false ∧ c (nb c t q x.2.1 h n).toNat ≤ h := fun g => by
    have := nb_ok n g
    exact ⟨this.2.2, this.1, this.2.1⟩
  unfold mbN
  split
  · exact ⟨hb.1, ho⟩
  · split
    · exact ⟨hb.1, ho⟩
    · exact ⟨hW.2.2.1.1, hW.2.2.1.2⟩
theorem MW_S {c t q : Nat → Int} {n : Nat} (hB : BD n c t q) (hn : n ≤ 8) {h : Int} (hh : 0 ≤ h) {x : Mb} (hW : MW n c t h x) : MW n c t (h + 1) (mbS c t q n h x) := by
  obtain ⟨k1, k2⟩ := mbN_ok (q := q) hW
  obtain ⟨w1, w2, w3, w4⟩ := hW
  unfold mbS
  split
  · rename_i g
    exact ⟨w1, w2, ⟨k1, fun a => absurd a (by show ¬ 0 ≤ mbN c t q n h x; omega)⟩, ⟨w4.1, by show x.2.2.2.1 ≤ _; omega⟩⟩
  · rename_i g
    obtain ⟨a1, a2, a3⟩ := k2 (by omega)
    generalize mbN c t q n h x = v at *
    have b := hB _ a1
    split
    · refine ⟨or_lt n (by omega) _ w1 _ a1, fun j hj => ?_, ⟨Int.le_refl _, fun a => absurd a (by show ¬ (0 : Int) ≤ -1; decide)⟩, ⟨by show 0 ≤ max _ _; omega, by show max _ _ ≤ h + 1 + 900; omega⟩⟩
      show 0 ≤ up _ _ _ j ∧ up _ _ _ j ≤ t j ∧ (up _ _ _ j = 0 ↔ Nat.testBit (x.2.1 ||| 1 <<< v.toNat) j = true)
      rw [or_bit]
      unfold up
      by_cases e : j = v.toNat
      · rw [if_pos e, decide_eq_true e, Bool.or_true]
        have := hB j hj
        exact ⟨by omega, by omega, ⟨fun _ => rfl, fun _ => rfl⟩⟩
      · rw [if_neg e, decide_eq_false e, Bool.or_false]
        exact w2 j hj
    · rename_i g2
      refine ⟨w1, fun j hj => ?_, ⟨k1, fun _ => ⟨a1, a2, by show c v.toNat ≤ h + 1; omega⟩⟩, ⟨w4.1, by show x.2.2.2.1 ≤ _; omega⟩⟩
      show 0 ≤ up _ _ _ j ∧ up _ _ _ j ≤ t j ∧ (up _ _ _ j = 0 ↔ Nat.testBit x.2.1 j = true)
      unfold up
      by_cases e : j = v.toNat
      · rw [if_pos e, e, a2]
        have r := w2 v.toNat a1
        have r0 : x.1 v.toNat ≠ 0 := fun y => by
          have := r.2.2.mp y
          rw [a2] at this
          exact absurd this (by decide)
        exact ⟨by omega, by omega, ⟨fun y => by omega, fun y => absurd y (by decide)⟩⟩
      · rw [if_neg e]
        exact w2 j hj
section MBREAK
variable {z : St} {n : Nat} {c t q : Nat → Int}
theorem op_of (hL : MD z n c t q) (hB : BD n c t q) {x : Mb} (hw : ∀ j, j < n → 0 ≤ x.1 j ∧ x.1 j ≤ t j ∧ (x.1 j = 0 ↔ Nat.testBit x.2.1 j = true)) (hR : ∀ j, j < n → z.1 81 j = iv (x.1 j)) {h : Int} (hh : sm h) : f_X11_bestOpen z 68 (iv h) = some (z, iv (nb c t q x.2.1 h n)) := by
  have h8 := hL.2.1
  refine loop_up (n := n) (fun F k b => f_X11_bestOpen_4 F z 68 (iv h) (iv b) (iv (k : Int))) (nb c t q x.2.1 h) (fun F => ?_) (fun F k hk => ?_) n 0 FU (by omega) (FU_8 (by omega))
  · show f_X11_bestOpen_4 _ _ _ _ _ _ = _
    rw [f_X11_bestOpen_4, hL.1, if_pos sz_t]
    rfl
  · obtain ⟨-, e1, e2, e3, b1, b2, b3, b4, b5, b6, i1, i2⟩ := MD_at hL hB hk
    have hb := nb_lt (c := c) (t := t) (q := q) (s := x.2.1) (h := h) k
    have er := hR k hk
    have hwk := hw k hk
    show f_X11_bestOpen_4 _ _ _ _ _ _ = f_X11_bestOpen_4 F z 68 (iv h) (iv (nbS c t q x.2.1 h k (nb c t q x.2.1 h k))) _
    rw [f_X11_bestOpen_4, hL.1, if_neg (sz_f hk (by omega))]
    generalize nb c t q x.2.1 h k = b at *
    have sb : sm b := ⟨by omega, by omega⟩
    have ir : (iv (x.1 k) ≤ 0) ↔ x.1 k ≤ 0 := by
      rw [n_0]
      exact iv_le ⟨by omega, by omega⟩ (by constructor <;> decide)
    unfold f_X11_bestOpen_12 f_X11_bestOpen_21 f_X11_bestOpen_31 f_X11_bestOpen_35 f_X11_bestOpen_44 f_X11_bestOpen_46 nbS
    simp only [r68_13, r68_20, i1, i2, e1, er, ir, iv_s, if_true, iv_lt hh (sm_b b1 b2), iv_lt0 sb]
    generalize x.1 k = v at *
    by_cases w3 : b < 0
    · generalize Nat.testBit x.2.1 k = w at *
      grind
    · have hbn : b.toNat < n := by omega
      have eb : b = ((b.toNat : Nat) : Int) := by omega
      have ah := ah_of hL hB hk hbn
      rw [← eb] at ah
      rw [ah]
      simp only [Option.bind_some, ob]
      generalize Nat.testBit x.2.1 k = w at *
      grind
theorem bk_step (hL : MD z n c t q) (hB : BD n c t q) {x : Mb} {h : Int} (hh : 0 ≤ h ∧ h ≤ 100000) (hW : MW n c t h x) (hR : ∀ j, j < n → z.1 81 j = iv (x.1 j)) (hb : z.1 68 21 = iv x.2.2.2.2) {l : Int} (K : St → Nat → Int32 → Int32 → Int32 → Int32 → Option (St × Int32)) :
    ∃ z', f_X11_breakingly_55 K z 68 (iv l) (iv x.2.2.2.1) (iv x.2.2.1) (iv h) = K z' 68 (iv (if mbN c t q n h x < 0 then l else l - 1)) (iv (mbS c t q n h x).2.2.2.1) (iv (mbS c t q n h x).2.2.1) (iv (h + 1)) ∧ (∀ j, j < n → z'.1 81 j = iv ((mbS c t q n h x).1 j)) ∧ z'.1 68 21 = iv (mbS c t q n h x).2.2.2.2 ∧ Fr (fun a => a = 81 ∨ a = 68) z z' ∧ (∀ k, k ≠ 21 → z'.1 68 k = z.1 68 k) := by
  have h8 := hL.2.1
  obtain ⟨k1, k2⟩ := mbN_ok (q := q) hW
  have hb0 := nb_lt (c := c) (t := t) (q := q) (s := x.2.1) (h := h) n
  have hnow := mb_now (q := q) hW
  obtain ⟨w1, w2, w3, w4⟩ := hW
  have sh : sm h := ⟨by omega, by omega⟩
  have snow : sm x.2.2.1 := by
    refine ⟨by omega, ?_⟩
    by_cases g : 0 ≤ x.2.2.1
    · have := (w3.2 g).1
      omega
    · omega
  have eh : iv h + 1 = iv (h + 1) := by rw [n_1, iv_add]
  -- from 102 on, with whoever is now
  have go : ∀ (zz : St) (v : Int), (∀ a, a ≠ 68 → zz.1 a = z.1 a ∧ zz.2 a = z.2 a) → (∀ k, k ≠ 21 → zz.1 68 k = z.1 68 k) → zz.2 68 = z.2 68 → zz.1 68 21 = iv (mbB c t q n h x) → v = mbN c t q n h x → ∃ z', f_X11_breakingly_102 K zz 68 (iv l) (iv x.2.2.2.1) (iv v) (iv h) = K z' 68 (iv (if mbN c t q n h x < 0 then l else l - 1)) (iv (mbS c t q n h x).2.2.2.1) (iv (mbS c t q n h x).2.2.1) (iv (h + 1)) ∧ (∀ j, j < n → z'.1 81 j = iv ((mbS c t q n h x).1 j)) ∧ z'.1 68 21 = iv (mbS c t q n h x).2.2.2.2 ∧ Fr (fun a => a = 81 ∨ a = 68) z z' ∧ (∀ k, k ≠ 21 → z'.1 68 k = z.1 68 k) := by
    intro zz v hz1 hz2 hz3 hzb hv
    have hR' : ∀ j, j < n → zz.1 81 j = iv (x.1 j) := fun j hj => by
      rw [(hz1 81 (by decide)).1]
      exact hR j hj
    have fr : Fr (fun a => a = 81 ∨ a = 68) z zz := fun a ha => hz1 a (fun e => ha (Or.inr e))
    unfold f_X11_breakingly_102
    by_cases g : v < 0
    · have sv : sm v := ⟨by omega, by omega⟩
      rw [if_neg (fun e => absurd ((iv_ge0 sv).mp e) (by omega))]
      unfold f_X11_breakingly_106 f_X11_breakingly_149
      have eS : mbS c t q n h x = (x.1, x.2.1, mbN c t q n h x, x.2.2.2.1, mbB c t q n h x) := if_pos (by omega)
      rw [eS, if_pos (by omega), eh, hv]
      exact ⟨zz, rfl, hR', hzb, fr, hz2⟩
    · obtain ⟨a1, a2, a3⟩ := k2 (by omega)
      rw [← hv] at a1 a2 a3
      have ev : v = ((v.toNat : Nat) : Int) := by omega
      have sv : sm v := ⟨by omega, by omega⟩
      have i1 : inb (iv v) 8 = true := inb_t (by omega) (by omega) (by decide)
      have i2 : (iv v).toNatClampNeg = v.toNat := iv_nat sv
      have b := hB _ a1
      have r := w2 _ a1
      rw [if_pos ((iv_ge0 sv).mpr (by omega))]
      unfold f_X11_breakingly_109 f_X11_breakingly_131 f_X11_breakingly_149
      have er := hR' _ a1
      have e3 : zz.1 77 v.toNat = iv (q v.toNat) := by
        rw [(hz1 77 (by decide)).1]
        exact (hL.2.2 _ a1).2.2
      have ie : (iv (x.1 v.toNat) - 1 = 0) ↔ x.1 v.toNat - 1 = 0 := by
        rw [n_1, n_0, iv_sub]
        exact iv_eq ⟨by omega, by omega⟩ (by constructor <;> decide)
      simp only [r68_20, r68_15, i1, i2, er, rI, and_self, if_true, ie, eh, Nat.reduceEqDiff, false_and, if_false, e3]
      rw [show iv l + -1 = iv (l - 1) by rw [n_m1, iv_add]; rfl]
      have el : (if mbN c t q n h x < 0 then l else l - 1) = l - 1 := if_neg (by omega)
      rw [el]
      have fr2 : ∀ w, Fr (fun a => a = 81 ∨ a = 68) z (zI zz 81 v.toNat w) := fun w => fr.zI (Or.inl rfl)
      by_cases w : x.1 v.toNat - 1 = 0
      · rw [if_pos w, iv_add, iv_max ⟨by omega, by omega⟩ ⟨by omega, by omega⟩]
        have eS : mbS c t q n h x = (up x.1 v.toNat 0, x.2.1 ||| (1 <<< v.toNat), -1, max x.2.2.2.1 (h + 1 + q v.toNat), mbB c t q n h x) := by
          unfold mbS
          rw [← hv, if_neg g, if_pos w]
        rw [eS]
        refine ⟨_, by rw [n_m1], fun j hj => ?_, ?_, fr2 _, fun k hk => ?_⟩
        · show _ = iv (up x.1 v.toNat 0 j)
          unfold up
          rw [rI]
          by_cases e : j = v.toNat
          · rw [if_pos ⟨rfl, e⟩, if_pos e, n_1, iv_sub, w]
          · rw [if_neg (fun y => e y.2), if_neg e]
            exact hR' j hj
        · rw [zI_n (by decide)]
          exact hzb
        · rw [zI_n (by decide)]
          exact hz2 k hk
      · rw [if_neg w]
        have eS : mbS c t q n h x = (up x.1 v.toNat (x.1 v.toNat - 1), x.2.1, v, x.2.2.2.1, mbB c t q n h x) := by
          unfold mbS
          rw [← hv, if_neg g, if_neg w]
        rw [eS]
        refine ⟨_, rfl, fun j hj => ?_, ?_, fr2 _, fun k hk => ?_⟩
        · show _ = iv (up x.1 v.toNat (x.1 v.toNat - 1) j)
          unfold up
          rw [rI]
          by_cases e : j = v.toNat
          · rw [if_pos ⟨rfl, e⟩, if_pos e, n_1, iv_sub]
          · rw [if_neg (fun y => e y.2), if_neg e]
            exact hR' j hj
        · rw [zI_n (by decide)]
          exact hzb
        · rw [zI_n (by decide)]
          exact hz2 k hk
  unfold f_X11_breakingly_55
  rw [op_of hL hB w2 hR sh, Option.bind_some]
  show ∃ z', (if 0 ≤ iv x.2.2.1 then f_X11_breakingly_73 K z 68 _ _ _ _ (iv (nb c t q x.2.1 h n)) else f_X11_breakingly_67 K z 68 _ _ _ (iv (nb c t q x.2.1 h n))) = _ ∧ _
  by_cases g : x.2.2.1 < 0
  · rw [if_neg (fun e => absurd ((iv_ge0 snow).mp e) (by omega))]
    unfold f_X11_breakingly_67
    exact go z _ (fun a _ => ⟨rfl, rfl⟩) (fun _ _ => rfl) rfl (by rw [hb]; unfold mbB; rw [if_pos g]) (by unfold mbN; rw [if_pos g])
  · rw [if_pos ((iv_ge0 snow).mpr (by omega))]
    have n0 := hnow (by omega)
    have p1 := nb_ok n n0
    obtain ⟨v1, v2, v3⟩ := w3.2 (by omega)
    have sb : sm (nb c t q x.2.1 h n) := ⟨by omega, by omega⟩
    have i1 : inb (iv x.2.2.1) 8 = true := inb_t (by omega) (by omega) (by decide)
    have i2 : (iv x.2.2.1).toNatClampNeg = x.2.2.1.toNat := iv_nat snow
    have j1 : inb (iv (nb c t q x.2.1 h n)) 8 = true := inb_t (by omega) (by omega) (by decide)
    have j2 : (iv (nb c t q x.2.1 h n)).toNatClampNeg = (nb c t q x.2.1 h n).toNat := iv_nat sb
    obtain ⟨-, -, -, e3, -, -, -, -, b5, b6, -, -⟩ := MD_at hL hB v1
    obtain ⟨-, -, -, g3, -, -, -, -, d5, d6, -, -⟩ := MD_at hL hB p1.2.2
    unfold f_X11_breakingly_73 f_X11_breakingly_89
    simp only [r68_15, i1, i2, j1, j2, e3, g3, iv_le (sm_b d5 d6) (sm_b b5 b6), if_true]
    by_cases w : q x.2.2.1.toNat < q (nb c t q x.2.1 h n).toNat
    · rw [if_neg (by omega)]
      refine go _ _ (fun a ha => ⟨zI_n ha, rfl⟩) (fun k hk => by rw [rI, if_neg (fun e => hk e.2)]) rfl ?_ (by unfold mbN; rw [if_neg g, if_pos w])
      rw [rI, if_pos ⟨rfl, rfl⟩, hb, n_1, iv_add]
      unfold mbB
      rw [if_neg g, if_pos w]
    · rw [if_pos (by omega)]
      exact go z _ (fun a _ => ⟨rfl, rfl⟩) (fun _ _ => rfl) rfl (by rw [hb]; unfold mbB; rw [if_neg g, if_neg w]) (by unfold mbN; rw [if_neg g, if_neg w])
end MBREAK
